theorem kX0_nextDown : zM RX0 yX0_nextDown cX0_nextDown 3 (some .int) 1 := ⟨wd_569, wd_570, wd_3, wd_571, rfl, by decide +kernel⟩
theorem kX0_isBeyondBoth : zM RX0 yX0_isBeyondBoth cX0_isBeyondBoth 7 (some .boolean) 2 := ⟨wd_489, ws_8, wd_3, wd_490, rfl, by decide +kernel⟩
theorem kX0_isRidge : zM RX0 yX0_isRidge cX0_isRidge 2 (some .boolean) 1 := ⟨wd_484, wd_485, wd_3, wd_486, rfl, by decide +kernel⟩
theorem kX0_isRiver : zM RX0 yX0_isRiver cX0_isRiver 2 (some .boolean) 1 := ⟨wd_492, wd_493, wd_3, wd_494, rfl, by decide +kernel⟩
theorem kX0_pitOf : zM RX0 yX0_pitOf cX0_pitOf 5 (some .int) 1 := ⟨wd_565, wd_566, wd_3, wd_567, rfl, by decide +kernel⟩
theorem kX0_stepsToPit : zM RX0 yX0_stepsToPit cX0_stepsToPit 5 (some .int) 1 := ⟨wd_574, wd_575, wd_3, wd_576, rfl, by decide +kernel⟩
theorem kX0_cellsFlowingTo : zM RX0 yX0_cellsFlowingTo cX0_cellsFlowingTo 4 (some .int) 1 := ⟨wd_582, wd_583, wd_3, wd_584, rfl, by decide +kernel⟩
theorem kX0_quarter : zM RX0 yX0_quarter cX0_quarter 4 (some .int) 1 := ⟨wd_496, wd_497, wd_3, wd_498, rfl, by decide +kernel⟩
theorem kX0_toneBy : zM RX0 yX0_toneBy cX0_toneBy 4 (some .int) 2 := ⟨wd_505, wd_506, wd_3, wd_507, rfl, by decide +kernel⟩
theorem kX0_isOfKind : zM RX0 yX0_isOfKind cX0_isOfKind 3 (some .boolean) 2 := ⟨wd_738, ws_19, wd_3, wd_739, rfl, by decide +kernel⟩
theorem kX0_cellsOfKind : zM RX0 yX0_cellsOfKind cX0_cellsOfKind 4 (some .int) 1 := ⟨wd_733, wd_734, wd_3, wd_735, rfl, by decide +kernel⟩
theorem kX0_contrastOf : zM RX0 yX0_contrastOf cX0_contrastOf 7 (some .int) 2 := ⟨wd_592, wd_593, wd_3, wd_594, rfl, by decide +kernel⟩
theorem kX0_heightsTogether : zM RX0 yX0_heightsTogether cX0_heightsTogether 3 (some .int) 0 := ⟨wd_741, wd_742, wd_3, wd_743, rfl, by decide +kernel⟩
theorem kX0_clear : zM RX0 yX0_clear cX0_clear 2 none 0 := ⟨wd_267, wd_268, wd_3, wd_269, rfl, by decide +kernel⟩
theorem kX0_setHeight : zM RX0 yX0_setHeight cX0_setHeight 3 none 2 := ⟨wd_299, wd_300, wd_3, wd_301, rfl, by decide +kernel⟩
set_option maxHeartbeats 4000000 in
set_option maxRecDepth 100000 in
theorem c_X0_nextDown (l : Launch) (G : zG) (sz : Nat) (h0 : Nat) (ha : Nat) (wI : Int) (hI : Int) (gI : Nat → Int) (cI : Int) (hG : gOK wI hI gI) (hc : 0 ≤ cI ∧ cI < 81) : Met l yX0_nextDown (Cond.code yX0_nextDown cX0_nextDown 3 (some .int) :: zT) (zRm 3 74) (zPr G [.ref h0, .int (iV cI)] [(h0, .inr (0, [.int (iV wI), .int (iV hI), .ref ha])), (ha, .inl (G.2.1, 81, .inl (fun k => iV (gI k))))] sz) (zQr (gNext wI hI gI cI) sz) 0 0 (zF sz) := by
  refine Met.ofW (cc := cX0_nextDown) (maxL := 3) (ret := (some .int)) (by decide) rfl ?_
  intro p e s m args below meth c s₁ B hml hv
  obtain ⟨rfl, hsz, hP, hK, hSt⟩ := hv
  have hx := B.exec
  have hb := B.bytes
  have hr := B.returns
  have hts : ∀ w ∈ zT, w.before _ s = true := fun w h => atoms_spec (ws := (Cond.code yX0_nextDown cX0_nextDown 3 (some .int) :: zT)) B.pre w (List.mem_cons_of_mem _ h)
  have hown : s.vm.findClass RX0 = some m.cls := findClass_of_methodNamed B.named
  have hlocks := B.notSynchronized
  subst hsz
  have hA : ∀ q : Nat, s.heap.size ≤ q → zF s.heap.size q := fun _ h => h
  have hS : va_S (zF s.heap.size) s.heap s.heap [] := va_S.rf
  have hP : va_P G.1 vwCl [(h0, .inr (0, [.int (iV wI), .int (iV hI), .ref ha])), (ha, .inl (G.2.1, 81, .inl (fun k => iV (gI k))))] s.heap := hP
  have X := And.intro hx (And.intro hb (And.intro hml (And.intro hown (And.intro hts (And.intro hK (And.intro hSt hA))))))
  have hl := lv_entry ([.ref h0, .int (iV cI)]) (n := 3) (Nat.le_of_ble_eq_true rfl)
  rw [lg_entry_eq]
  generalize (lg_sl ([.ref h0, .int (iV cI)]) ++ List.replicate (3 - (lg_sl ([.ref h0, .int (iV cI)])).length) Slot.unset).toArray = ls at hl ⊢
  have hl : lv_has ls 3 [(0, .ref h0), (1, .int (iV cI))] := hl
  obtain ⟨hW0, hW9, hH0, hH9, hg⟩ := id hG
  refine lv_aload_n hx hb dX0_nextDown_0 rfl (lv_at hl 0 rfl) ?_
  refine lv_iload_n hx hb dX0_nextDown_1 rfl (lv_at hl 1 rfl) ?_
  refine z_callV X hP hS hl.1 (c_X0_downFrom l G _ h0 ha wI hI gI cI (by first | assumption | omega) (by first | assumption | omega)) wd_572 kX0_downFrom ⟨rfl, rfl, Nat.le_of_ble_eq_true rfl, Nat.le_of_ble_eq_true rfl⟩ [0, 1] rfl 0 rfl rfl rfl rfl (Nat.le_of_ble_eq_true rfl) dX0_nextDown_2 ⟨Nat.zero_le _, Nat.zero_le _⟩ (fun H locs hP hS => ?_)
  have f_1 := gDown_r hG (cI % 9) (cI / 9)
  refine lv_istore_n (lv' := [(2, .int (iV (gDown wI hI gI (cI % 9) (cI / 9)))), (0, .ref h0), (1, .int (iV cI))]) hx hb dX0_nextDown_5 rfl hl (by decide) rfl (fun ls hl => ?_)
  refine lv_iload_n hx hb dX0_nextDown_6 rfl (lv_at hl 0 rfl) ?_
  refine lv_iconst (v := iV (-1)) hx hb dX0_nextDown_7 (by decide) ?_
  refine z_icmp_ne (tgt := 15) hx hb (by omega) ⟨by decide, by decide⟩ dX0_nextDown_8 (by decide) (fun c_2 => ?_) (fun c_2 => ?_)
  · refine lv_aload_n hx hb dX0_nextDown_15 rfl (lv_at hl 1 rfl) ?_
    refine lv_iload_n hx hb dX0_nextDown_16 rfl (lv_at hl 2 rfl) ?_
    refine lv_iload_n hx hb dX0_nextDown_17 rfl (lv_at hl 0 rfl) ?_
    refine z_callV X hP hS hl.1 (c_X0_beside l G _ h0 ha wI hI gI cI (gDown wI hI gI (cI % 9) (cI / 9)) (by first | assumption | omega) (by first | assumption | omega) (by first | assumption | omega)) wd_456 kX0_beside ⟨rfl, rfl, Nat.le_of_ble_eq_true rfl, Nat.le_of_ble_eq_true rfl⟩ [0, 1] rfl 0 rfl rfl rfl rfl (Nat.le_of_ble_eq_true rfl) dX0_nextDown_18 ⟨Nat.zero_le _, Nat.zero_le _⟩ (fun H locs hP hS => ?_)
    have f_3 := gNb_r hG cI (gDown wI hI gI (cI % 9) (cI / 9))
    refine z_eq (z := gNext wI hI gI cI) (by unfold gNext; first | rw [if_pos (by assumption)] | rw [if_neg (by assumption)]) ?_
    exact z_ret hx hb hr hlocks hS dX0_nextDown_21
  · refine lv_iconst (v := iV (-1)) hx hb dX0_nextDown_11 (by decide) ?_
    refine lv_goto (tgt := 21) hx hb dX0_nextDown_12 (by decide) ?_
    refine z_eq (z := gNext wI hI gI cI) (by unfold gNext; first | rw [if_pos (by assumption)] | rw [if_neg (by assumption)]) ?_
    exact z_ret hx hb hr hlocks hS dX0_nextDown_21

set_option maxHeartbeats 4000000 in
set_option maxRecDepth 100000 in
theorem c_X0_isBeyondBoth (l : Launch) (G : zG) (sz : Nat) (h0 : Nat) (ha : Nat) (wI : Int) (hI : Int) (gI : Nat → Int) (cI : Int) (sg : Int) (hG : gOK wI hI gI) (hc : 0 ≤ cI ∧ cI < 81) (hsg : sg = 1 ∨ sg = -1) : Met l yX0_isBeyondBoth (Cond.code yX0_isBeyondBoth cX0_isBeyondBoth 7 (some .boolean) :: zT) (zRm 1 25) (zPr G [.ref h0, .int (iV cI), .int (iV sg)] [(h0, .inr (0, [.int (iV wI), .int (iV hI), .ref ha])), (ha, .inl (G.2.1, 81, .inl (fun k => iV (gI k))))] sz) (zQr (bP (gCrest wI hI gI (cI % 9) (cI / 9) sg)) sz) 0 0 (zF sz) := by
  refine Met.ofW (cc := cX0_isBeyondBoth) (maxL := 7) (ret := (some .boolean)) (by decide) rfl ?_
  intro p e s m args below meth c s₁ B hml hv
  obtain ⟨rfl, hsz, hP, hK, hSt⟩ := hv
  have hx := B.exec
  have hb := B.bytes
  have hr := B.returns
  have hts : ∀ w ∈ zT, w.before _ s = true := fun w h => atoms_spec (ws := (Cond.code yX0_isBeyondBoth cX0_isBeyondBoth 7 (some .boolean) :: zT)) B.pre w (List.mem_cons_of_mem _ h)
  have hown : s.vm.findClass RX0 = some m.cls := findClass_of_methodNamed B.named
  have hlocks := B.notSynchronized
  subst hsz
  have hA : ∀ q : Nat, s.heap.size ≤ q → zF s.heap.size q := fun _ h => h
  have hS : va_S (zF s.heap.size) s.heap s.heap [] := va_S.rf
  have hP : va_P G.1 vwCl [(h0, .inr (0, [.int (iV wI), .int (iV hI), .ref ha])), (ha, .inl (G.2.1, 81, .inl (fun k => iV (gI k))))] s.heap := hP
  have X := And.intro hx (And.intro hb (And.intro hml (And.intro hown (And.intro hts (And.intro hK (And.intro hSt hA))))))
  have hl := lv_entry ([.ref h0, .int (iV cI), .int (iV sg)]) (n := 7) (Nat.le_of_ble_eq_true rfl)
  rw [lg_entry_eq]
  generalize (lg_sl ([.ref h0, .int (iV cI), .int (iV sg)]) ++ List.replicate (7 - (lg_sl ([.ref h0, .int (iV cI), .int (iV sg)])).length) Slot.unset).toArray = ls at hl ⊢
  have hl : lv_has ls 7 [(0, .ref h0), (1, .int (iV cI)), (2, .int (iV sg))] := hl
  obtain ⟨hW0, hW9, hH0, hH9, hg⟩ := id hG
  refine lv_iload_n hx hb dX0_isBeyondBoth_0 rfl (lv_at hl 2 rfl) ?_
  refine lv_aload_n hx hb dX0_isBeyondBoth_1 rfl (lv_at hl 0 rfl) ?_
  refine lv_iload_n hx hb dX0_isBeyondBoth_2 rfl (lv_at hl 1 rfl) ?_
  refine z_callV X hP hS hl.1 (c_X0_height l G _ h0 ha wI hI gI cI (by first | assumption | omega) (by first | assumption | omega)) wd_464 kX0_height ⟨rfl, rfl, Nat.le_of_ble_eq_true rfl, Nat.le_of_ble_eq_true rfl⟩ [0, 1] rfl 0 rfl rfl rfl rfl (Nat.le_of_ble_eq_true rfl) dX0_isBeyondBoth_3 ⟨Nat.zero_le _, Nat.zero_le _⟩ (fun H locs hP hS => ?_)
  have f_1 := gAt_r hG (cI % 9) (cI / 9)
  refine z_imul hx hb dX0_isBeyondBoth_6 ?_
  refine lv_istore_n (lv' := [(3, .int (iV (sg * gAt gI (cI % 9) (cI / 9)))), (0, .ref h0), (1, .int (iV cI)), (2, .int (iV sg))]) hx hb dX0_isBeyondBoth_7 rfl hl (by decide) rfl (fun ls hl => ?_)
  refine lv_iconst (v := iV 0) hx hb dX0_isBeyondBoth_8 (by decide) ?_
  refine lv_istore (lv' := [(4, .int (iV 0)), (3, .int (iV (sg * gAt gI (cI % 9) (cI / 9)))), (0, .ref h0), (1, .int (iV cI)), (2, .int (iV sg))]) hx hb dX0_isBeyondBoth_9 hl (by decide) rfl (fun ls hl => ?_)
  have lp_11 : ∀ (k : Nat) (n : Nat) , (n ≤ 4) → (∀ d : Nat, d < n → ¬ gCrP wI hI gI (cI % 9) (cI / 9) sg d) → (4 - n) < k → ∀ (H : Heap) (locs : List Loc), va_P G.1 vwCl [(h0, .inr (0, [.int (iV wI), .int (iV hI), .ref ha])), (ha, .inl (G.2.1, 81, .inl (fun k => iV (gI k))))] H → va_S (zF s.heap.size) s.heap H locs → ∀ ls : Array Slot, lv_has ls 7 [(0, .ref h0), (1, .int (iV cI)), (2, .int (iV sg)), (3, .int (iV (sg * gAt gI (cI % 9) (cI / 9)))), (4, .int (iV (Nat.cast n : Int)))] → W p l e (headSpec (Cond.code yX0_isBeyondBoth cX0_isBeyondBoth 7 (some .boolean) :: zT) (zRm 1 25)).room s m ([Value.ref h0, Value.int (iV cI), Value.int (iV sg)] : List Value).toArray below meth c H locs 0 0 (MQ below (zQr (bP (gCrest wI hI gI (cI % 9) (cI / 9) sg)) s.heap.size) ([Value.ref h0, Value.int (iV cI), Value.int (iV sg)] : List Value).toArray s 0 0 (zF s.heap.size)) (F0 m 11 ls []) := by
    intro k
    induction k with
    | zero => intro n hn hno hk_; exact absurd hk_ (Nat.not_lt_zero _)
    | succ k ih_11 =>
      intro n hn hno hk_11 H locs hP hS ls hl
      refine lv_iload hx hb dX0_isBeyondBoth_11 (lv_at hl 4 rfl) ?_
      refine lv_iconst (v := iV 4) hx hb dX0_isBeyondBoth_13 (by decide) ?_
      refine z_icmp_ge (tgt := 81) hx hb (by rcases hsg with h | h <;> subst h <;> omega) ⟨by decide, by decide⟩ dX0_isBeyondBoth_14 (by decide) (fun c_2 => ?_) (fun c_2 => ?_)
      · refine lv_iconst (v := iV 0) hx hb dX0_isBeyondBoth_81 (by decide) ?_
        refine z_eq (z := bP (gCrest wI hI gI (cI % 9) (cI / 9) sg)) (by first | exact (bP_t (gCr_yes (n := n) (by omega) (by assumption) (by assumption) (by assumption) (by assumption) hG)).symm | exact (bP_f (gCr_none hno (by omega))).symm) ?_
        exact z_retb hx hb hr hlocks hS dX0_isBeyondBoth_82
      · refine lv_aload_n hx hb dX0_isBeyondBoth_17 rfl (lv_at hl 0 rfl) ?_
        refine lv_iload_n hx hb dX0_isBeyondBoth_18 rfl (lv_at hl 1 rfl) ?_
        refine lv_iload hx hb dX0_isBeyondBoth_19 (lv_at hl 4 rfl) ?_
        refine z_callV X hP hS hl.1 (c_X0_beside l G _ h0 ha wI hI gI cI (Nat.cast n : Int) (by first | assumption | omega) (by first | assumption | omega) (by first | assumption | omega)) wd_456 kX0_beside ⟨rfl, rfl, Nat.le_of_ble_eq_true rfl, Nat.le_of_ble_eq_true rfl⟩ [0, 1] rfl 0 rfl rfl rfl rfl (Nat.le_of_ble_eq_true rfl) dX0_isBeyondBoth_21 ⟨Nat.zero_le _, Nat.zero_le _⟩ (fun H locs hP hS => ?_)
        have f_3 := gNb_r hG cI (Nat.cast n : Int)
        refine lv_istore (lv' := [(5, .int (iV (gNb wI hI cI (Nat.cast n : Int)))), (0, .ref h0), (1, .int (iV cI)), (2, .int (iV sg)), (3, .int (iV (sg * gAt gI (cI % 9) (cI / 9)))), (4, .int (iV (Nat.cast n : Int)))]) hx hb dX0_isBeyondBoth_24 hl (by decide) rfl (fun ls hl => ?_)
        refine lv_aload_n hx hb dX0_isBeyondBoth_26 rfl (lv_at hl 1 rfl) ?_
        refine lv_iload_n hx hb dX0_isBeyondBoth_27 rfl (lv_at hl 2 rfl) ?_
        refine lv_iload hx hb dX0_isBeyondBoth_28 (lv_at hl 5 rfl) ?_
        refine lv_iconst (v := iV 4) hx hb dX0_isBeyondBoth_30 (by decide) ?_
        refine z_iadd hx hb dX0_isBeyondBoth_31 ?_
        refine z_callV X hP hS hl.1 (c_X0_beside l G _ h0 ha wI hI gI cI ((Nat.cast n : Int) + 4) (by first | assumption | omega) (by first | assumption | omega) (by first | assumption | omega)) wd_456 kX0_beside ⟨rfl, rfl, Nat.le_of_ble_eq_true rfl, Nat.le_of_ble_eq_true rfl⟩ [0, 1] rfl 0 rfl rfl rfl rfl (Nat.le_of_ble_eq_true rfl) dX0_isBeyondBoth_32 ⟨Nat.zero_le _, Nat.zero_le _⟩ (fun H locs hP hS => ?_)
        have f_4 := gNb_r hG cI ((Nat.cast n : Int) + 4)
        refine lv_istore (lv' := [(6, .int (iV (gNb wI hI cI ((Nat.cast n : Int) + 4)))), (5, .int (iV (gNb wI hI cI (Nat.cast n : Int)))), (0, .ref h0), (1, .int (iV cI)), (2, .int (iV sg)), (3, .int (iV (sg * gAt gI (cI % 9) (cI / 9)))), (4, .int (iV (Nat.cast n : Int)))]) hx hb dX0_isBeyondBoth_35 hl (by decide) rfl (fun ls hl => ?_)
        refine lv_iload hx hb dX0_isBeyondBoth_37 (lv_at hl 1 rfl) ?_
        refine lv_iconst (v := iV (-1)) hx hb dX0_isBeyondBoth_39 (by decide) ?_
        have jn_75 : (¬ gCrP wI hI gI (cI % 9) (cI / 9) sg n) → ∀ (H : Heap) (locs : List Loc), va_P G.1 vwCl [(h0, .inr (0, [.int (iV wI), .int (iV hI), .ref ha])), (ha, .inl (G.2.1, 81, .inl (fun k => iV (gI k))))] H → va_S (zF s.heap.size) s.heap H locs → ∀ ls : Array Slot, lv_has ls 7 [(0, .ref h0), (1, .int (iV cI)), (2, .int (iV sg)), (3, .int (iV (sg * gAt gI (cI % 9) (cI / 9)))), (4, .int (iV (Nat.cast n : Int)))] → W p l e (headSpec (Cond.code yX0_isBeyondBoth cX0_isBeyondBoth 7 (some .boolean) :: zT) (zRm 1 25)).room s m ([Value.ref h0, Value.int (iV cI), Value.int (iV sg)] : List Value).toArray below meth c H locs 0 0 (MQ below (zQr (bP (gCrest wI hI gI (cI % 9) (cI / 9) sg)) s.heap.size) ([Value.ref h0, Value.int (iV cI), Value.int (iV sg)] : List Value).toArray s 0 0 (zF s.heap.size)) (F0 m 75 ls []) := by
          intro hnp H locs hP hS ls hl
          refine z_iinc (lv' := [(4, .int (iV ((Nat.cast n : Int) + 1))), (0, .ref h0), (1, .int (iV cI)), (2, .int (iV sg)), (3, .int (iV (sg * gAt gI (cI % 9) (cI / 9))))]) hx hb dX0_isBeyondBoth_75 hl (k := 4) rfl (by decide) rfl (fun ls hl => ?_)
          refine lv_goto (tgt := 11) hx hb dX0_isBeyondBoth_78 (by decide) ?_
          exact ih_11 (n + 1) (by first | assumption | omega) (by first | exact fun d hd => absurd hd (Nat.not_lt_zero d) | exact gCr_no hno hnp) (by omega) _ _ hP hS _ (lv_cons (lv_at hl 1 rfl) (lv_cons (lv_at hl 2 rfl) (lv_cons (lv_at hl 3 rfl) (lv_cons (lv_at hl 4 rfl) (lv_cons (lv_i hl 0 rfl (by omega)) (lv_nil hl))))))
        refine z_icmp_eq (tgt := 75) hx hb (by rcases hsg with h | h <;> subst h <;> omega) ⟨by decide, by decide⟩ dX0_isBeyondBoth_40 (by decide) (fun c_5 => ?_) (fun c_5 => ?_)
        · exact jn_75 (by first | exact gCr_no1 (by assumption) hG hc.1 | exact gCr_no2 (by assumption) hG hc.1 | exact gCr_no3 (by assumption) (by assumption) hG | exact gCr_no4 (by assumption) (by assumption) hG) _ _ hP hS _ (lv_cons (lv_at hl 2 rfl) (lv_cons (lv_at hl 3 rfl) (lv_cons (lv_at hl 4 rfl) (lv_cons (lv_at hl 5 rfl) (lv_cons (lv_at hl 6 rfl) (lv_nil hl))))))
        · refine lv_iload hx hb dX0_isBeyondBoth_43 (lv_at hl 0 rfl) ?_
          refine lv_iconst (v := iV (-1)) hx hb dX0_isBeyondBoth_45 (by decide) ?_
          refine z_icmp_eq (tgt := 75) hx hb (by rcases hsg with h | h <;> subst h <;> omega) ⟨by decide, by decide⟩ dX0_isBeyondBoth_46 (by decide) (fun c_6 => ?_) (fun c_6 => ?_)
          · exact jn_75 (by first | exact gCr_no1 (by assumption) hG hc.1 | exact gCr_no2 (by assumption) hG hc.1 | exact gCr_no3 (by assumption) (by assumption) hG | exact gCr_no4 (by assumption) (by assumption) hG) _ _ hP hS _ (lv_cons (lv_at hl 2 rfl) (lv_cons (lv_at hl 3 rfl) (lv_cons (lv_at hl 4 rfl) (lv_cons (lv_at hl 5 rfl) (lv_cons (lv_at hl 6 rfl) (lv_nil hl))))))
          · refine lv_iload_n hx hb dX0_isBeyondBoth_49 rfl (lv_at hl 5 rfl) ?_
            refine lv_iload_n hx hb dX0_isBeyondBoth_50 rfl (lv_at hl 4 rfl) ?_
            refine lv_aload_n hx hb dX0_isBeyondBoth_51 rfl (lv_at hl 2 rfl) ?_
            refine lv_iload hx hb dX0_isBeyondBoth_52 (lv_at hl 1 rfl) ?_
            refine z_callV X hP hS hl.1 (c_X0_height l G _ h0 ha wI hI gI (gNb wI hI cI (Nat.cast n : Int)) (by first | assumption | omega) (by first | assumption | omega)) wd_464 kX0_height ⟨rfl, rfl, Nat.le_of_ble_eq_true rfl, Nat.le_of_ble_eq_true rfl⟩ [0, 1] rfl 0 rfl rfl rfl rfl (Nat.le_of_ble_eq_true rfl) dX0_isBeyondBoth_54 ⟨Nat.zero_le _, Nat.zero_le _⟩ (fun H locs hP hS => ?_)
            have f_7 := gAt_r hG ((gNb wI hI cI (Nat.cast n : Int)) % 9) ((gNb wI hI cI (Nat.cast n : Int)) / 9)
            refine z_imul hx hb dX0_isBeyondBoth_57 ?_
            refine z_icmp_le (tgt := 75) hx hb (by rcases hsg with h | h <;> subst h <;> omega) (by rcases hsg with h | h <;> subst h <;> omega) dX0_isBeyondBoth_58 (by decide) (fun c_8 => ?_) (fun c_8 => ?_)
            · exact jn_75 (by first | exact gCr_no1 (by assumption) hG hc.1 | exact gCr_no2 (by assumption) hG hc.1 | exact gCr_no3 (by assumption) (by assumption) hG | exact gCr_no4 (by assumption) (by assumption) hG) _ _ hP hS _ (lv_cons (lv_at hl 2 rfl) (lv_cons (lv_at hl 3 rfl) (lv_cons (lv_at hl 4 rfl) (lv_cons (lv_at hl 5 rfl) (lv_cons (lv_at hl 6 rfl) (lv_nil hl))))))
            · refine lv_iload_n hx hb dX0_isBeyondBoth_61 rfl (lv_at hl 5 rfl) ?_
              refine lv_iload_n hx hb dX0_isBeyondBoth_62 rfl (lv_at hl 4 rfl) ?_
              refine lv_aload_n hx hb dX0_isBeyondBoth_63 rfl (lv_at hl 2 rfl) ?_
              refine lv_iload hx hb dX0_isBeyondBoth_64 (lv_at hl 0 rfl) ?_
              refine z_callV X hP hS hl.1 (c_X0_height l G _ h0 ha wI hI gI (gNb wI hI cI ((Nat.cast n : Int) + 4)) (by first | assumption | omega) (by first | assumption | omega)) wd_464 kX0_height ⟨rfl, rfl, Nat.le_of_ble_eq_true rfl, Nat.le_of_ble_eq_true rfl⟩ [0, 1] rfl 0 rfl rfl rfl rfl (Nat.le_of_ble_eq_true rfl) dX0_isBeyondBoth_66 ⟨Nat.zero_le _, Nat.zero_le _⟩ (fun H locs hP hS => ?_)
              have f_9 := gAt_r hG ((gNb wI hI cI ((Nat.cast n : Int) + 4)) % 9) ((gNb wI hI cI ((Nat.cast n : Int) + 4)) / 9)
              refine z_imul hx hb dX0_isBeyondBoth_69 ?_
              refine z_icmp_le (tgt := 75) hx hb (by rcases hsg with h | h <;> subst h <;> omega) (by rcases hsg with h | h <;> subst h <;> omega) dX0_isBeyondBoth_70 (by decide) (fun c_10 => ?_) (fun c_10 => ?_)
              · exact jn_75 (by first | exact gCr_no1 (by assumption) hG hc.1 | exact gCr_no2 (by assumption) hG hc.1 | exact gCr_no3 (by assumption) (by assumption) hG | exact gCr_no4 (by assumption) (by assumption) hG) _ _ hP hS _ (lv_cons (lv_at hl 2 rfl) (lv_cons (lv_at hl 3 rfl) (lv_cons (lv_at hl 4 rfl) (lv_cons (lv_at hl 5 rfl) (lv_cons (lv_at hl 6 rfl) (lv_nil hl))))))
              · refine lv_iconst (v := iV 1) hx hb dX0_isBeyondBoth_73 (by decide) ?_
                refine z_eq (z := bP (gCrest wI hI gI (cI % 9) (cI / 9) sg)) (by first | exact (bP_t (gCr_yes (n := n) (by omega) (by assumption) (by assumption) (by assumption) (by assumption) hG)).symm | exact (bP_f (gCr_none hno (by omega))).symm) ?_
                exact z_retb hx hb hr hlocks hS dX0_isBeyondBoth_74
  exact lp_11 _ 0 (by first | assumption | omega) (by first | exact fun d hd => absurd hd (Nat.not_lt_zero d) | exact gCr_no hno hnp) (Nat.lt_succ_self _) _ _ hP hS _ (lv_cons (lv_at hl 2 rfl) (lv_cons (lv_at hl 3 rfl) (lv_cons (lv_at hl 4 rfl) (lv_cons (lv_at hl 1 rfl) (lv_cons (lv_i hl 0 rfl (by omega)) (lv_nil hl))))))

set_option maxHeartbeats 4000000 in
set_option maxRecDepth 100000 in
theorem c_X0_isRidge (l : Launch) (G : zG) (sz : Nat) (h0 : Nat) (ha : Nat) (wI : Int) (hI : Int) (gI : Nat → Int) (cI : Int) (hG : gOK wI hI gI) (hc : 0 ≤ cI ∧ cI < 81) : Met l yX0_isRidge (Cond.code yX0_isRidge cX0_isRidge 2 (some .boolean) :: zT) (zRm 2 51) (zPr G [.ref h0, .int (iV cI)] [(h0, .inr (0, [.int (iV wI), .int (iV hI), .ref ha])), (ha, .inl (G.2.1, 81, .inl (fun k => iV (gI k))))] sz) (zQr (bP (gCrest wI hI gI (cI % 9) (cI / 9) 1)) sz) 0 0 (zF sz) := by
  refine Met.ofW (cc := cX0_isRidge) (maxL := 2) (ret := (some .boolean)) (by decide) rfl ?_
  intro p e s m args below meth c s₁ B hml hv
  obtain ⟨rfl, hsz, hP, hK, hSt⟩ := hv
  have hx := B.exec
  have hb := B.bytes
  have hr := B.returns
  have hts : ∀ w ∈ zT, w.before _ s = true := fun w h => atoms_spec (ws := (Cond.code yX0_isRidge cX0_isRidge 2 (some .boolean) :: zT)) B.pre w (List.mem_cons_of_mem _ h)
  have hown : s.vm.findClass RX0 = some m.cls := findClass_of_methodNamed B.named
  have hlocks := B.notSynchronized
  subst hsz
  have hA : ∀ q : Nat, s.heap.size ≤ q → zF s.heap.size q := fun _ h => h
  have hS : va_S (zF s.heap.size) s.heap s.heap [] := va_S.rf
  have hP : va_P G.1 vwCl [(h0, .inr (0, [.int (iV wI), .int (iV hI), .ref ha])), (ha, .inl (G.2.1, 81, .inl (fun k => iV (gI k))))] s.heap := hP
  have X := And.intro hx (And.intro hb (And.intro hml (And.intro hown (And.intro hts (And.intro hK (And.intro hSt hA))))))
  have hl := lv_entry ([.ref h0, .int (iV cI)]) (n := 2) (Nat.le_of_ble_eq_true rfl)
  rw [lg_entry_eq]
  generalize (lg_sl ([.ref h0, .int (iV cI)]) ++ List.replicate (2 - (lg_sl ([.ref h0, .int (iV cI)])).length) Slot.unset).toArray = ls at hl ⊢
  have hl : lv_has ls 2 [(0, .ref h0), (1, .int (iV cI))] := hl
  obtain ⟨hW0, hW9, hH0, hH9, hg⟩ := id hG
  refine lv_aload_n hx hb dX0_isRidge_0 rfl (lv_at hl 0 rfl) ?_
  refine lv_iload_n hx hb dX0_isRidge_1 rfl (lv_at hl 1 rfl) ?_
  refine lv_iconst (v := iV 1) hx hb dX0_isRidge_2 (by decide) ?_
  refine z_callV X hP hS hl.1 (c_X0_isBeyondBoth l G _ h0 ha wI hI gI cI 1 (by first | assumption | omega) (by first | assumption | omega) (by first | assumption | omega)) wd_487 kX0_isBeyondBoth ⟨rfl, rfl, Nat.le_of_ble_eq_true rfl, Nat.le_of_ble_eq_true rfl⟩ [0, 1] rfl 0 rfl rfl rfl rfl (Nat.le_of_ble_eq_true rfl) dX0_isRidge_3 ⟨Nat.zero_le _, Nat.zero_le _⟩ (fun H locs hP hS => ?_)
  exact z_retb hx hb hr hlocks hS dX0_isRidge_6

set_option maxHeartbeats 4000000 in
set_option maxRecDepth 100000 in
theorem c_X0_isRiver (l : Launch) (G : zG) (sz : Nat) (h0 : Nat) (ha : Nat) (wI : Int) (hI : Int) (gI : Nat → Int) (cI : Int) (hG : gOK wI hI gI) (hc : 0 ≤ cI ∧ cI < 81) : Met l yX0_isRiver (Cond.code yX0_isRiver cX0_isRiver 2 (some .boolean) :: zT) (zRm 2 51) (zPr G [.ref h0, .int (iV cI)] [(h0, .inr (0, [.int (iV wI), .int (iV hI), .ref ha])), (ha, .inl (G.2.1, 81, .inl (fun k => iV (gI k))))] sz) (zQr (bP (gCrest wI hI gI (cI % 9) (cI / 9) (-1))) sz) 0 0 (zF sz) := by
  refine Met.ofW (cc := cX0_isRiver) (maxL := 2) (ret := (some .boolean)) (by decide) rfl ?_
  intro p e s m args below meth c s₁ B hml hv
  obtain ⟨rfl, hsz, hP, hK, hSt⟩ := hv
  have hx := B.exec
  have hb := B.bytes
  have hr := B.returns
  have hts : ∀ w ∈ zT, w.before _ s = true := fun w h => atoms_spec (ws := (Cond.code yX0_isRiver cX0_isRiver 2 (some .boolean) :: zT)) B.pre w (List.mem_cons_of_mem _ h)
  have hown : s.vm.findClass RX0 = some m.cls := findClass_of_methodNamed B.named
  have hlocks := B.notSynchronized
  subst hsz
  have hA : ∀ q : Nat, s.heap.size ≤ q → zF s.heap.size q := fun _ h => h
  have hS : va_S (zF s.heap.size) s.heap s.heap [] := va_S.rf
  have hP : va_P G.1 vwCl [(h0, .inr (0, [.int (iV wI), .int (iV hI), .ref ha])), (ha, .inl (G.2.1, 81, .inl (fun k => iV (gI k))))] s.heap := hP
  have X := And.intro hx (And.intro hb (And.intro hml (And.intro hown (And.intro hts (And.intro hK (And.intro hSt hA))))))
  have hl := lv_entry ([.ref h0, .int (iV cI)]) (n := 2) (Nat.le_of_ble_eq_true rfl)
  rw [lg_entry_eq]
  generalize (lg_sl ([.ref h0, .int (iV cI)]) ++ List.replicate (2 - (lg_sl ([.ref h0, .int (iV cI)])).length) Slot.unset).toArray = ls at hl ⊢
  have hl : lv_has ls 2 [(0, .ref h0), (1, .int (iV cI))] := hl
  obtain ⟨hW0, hW9, hH0, hH9, hg⟩ := id hG
  refine lv_aload_n hx hb dX0_isRiver_0 rfl (lv_at hl 0 rfl) ?_
  refine lv_iload_n hx hb dX0_isRiver_1 rfl (lv_at hl 1 rfl) ?_
  refine lv_iconst (v := iV (-1)) hx hb dX0_isRiver_2 (by decide) ?_
  refine z_callV X hP hS hl.1 (c_X0_isBeyondBoth l G _ h0 ha wI hI gI cI (-1) (by first | assumption | omega) (by first | assumption | omega) (by first | assumption | omega)) wd_487 kX0_isBeyondBoth ⟨rfl, rfl, Nat.le_of_ble_eq_true rfl, Nat.le_of_ble_eq_true rfl⟩ [0, 1] rfl 0 rfl rfl rfl rfl (Nat.le_of_ble_eq_true rfl) dX0_isRiver_3 ⟨Nat.zero_le _, Nat.zero_le _⟩ (fun H locs hP hS => ?_)
  exact z_retb hx hb hr hlocks hS dX0_isRiver_6

set_option maxHeartbeats 4000000 in
set_option maxRecDepth 100000 in
theorem c_X0_pitOf (l : Launch) (G : zG) (sz : Nat) (h0 : Nat) (ha : Nat) (wI : Int) (hI : Int) (gI : Nat → Int) (cI : Int) (hG : gOK wI hI gI) (hc : 0 ≤ cI ∧ cI < 81) : Met l yX0_pitOf (Cond.code yX0_pitOf cX0_pitOf 5 (some .int) :: zT) (zRm 4 96) (zPr G [.ref h0, .int (iV cI)] [(h0, .inr (0, [.int (iV wI), .int (iV hI), .ref ha])), (ha, .inl (G.2.1, 81, .inl (fun k => iV (gI k))))] sz) (zQr (gPitF wI hI gI 81 cI) sz) 0 0 (zF sz) := by
  refine Met.ofW (cc := cX0_pitOf) (maxL := 5) (ret := (some .int)) (by decide) rfl ?_
  intro p e s m args below meth c s₁ B hml hv
  obtain ⟨rfl, hsz, hP, hK, hSt⟩ := hv
  have hx := B.exec
  have hb := B.bytes
  have hr := B.returns
  have hts : ∀ w ∈ zT, w.before _ s = true := fun w h => atoms_spec (ws := (Cond.code yX0_pitOf cX0_pitOf 5 (some .int) :: zT)) B.pre w (List.mem_cons_of_mem _ h)
  have hown : s.vm.findClass RX0 = some m.cls := findClass_of_methodNamed B.named
  have hlocks := B.notSynchronized
  subst hsz
  have hA : ∀ q : Nat, s.heap.size ≤ q → zF s.heap.size q := fun _ h => h
  have hS : va_S (zF s.heap.size) s.heap s.heap [] := va_S.rf
  have hP : va_P G.1 vwCl [(h0, .inr (0, [.int (iV wI), .int (iV hI), .ref ha])), (ha, .inl (G.2.1, 81, .inl (fun k => iV (gI k))))] s.heap := hP
  have X := And.intro hx (And.intro hb (And.intro hml (And.intro hown (And.intro hts (And.intro hK (And.intro hSt hA))))))
  have hl := lv_entry ([.ref h0, .int (iV cI)]) (n := 5) (Nat.le_of_ble_eq_true rfl)
  rw [lg_entry_eq]
  generalize (lg_sl ([.ref h0, .int (iV cI)]) ++ List.replicate (5 - (lg_sl ([.ref h0, .int (iV cI)])).length) Slot.unset).toArray = ls at hl ⊢
  have hl : lv_has ls 5 [(0, .ref h0), (1, .int (iV cI))] := hl
  obtain ⟨hW0, hW9, hH0, hH9, hg⟩ := id hG
  refine lv_iload_n hx hb dX0_pitOf_0 rfl (lv_at hl 1 rfl) ?_
  refine lv_istore_n (lv' := [(2, .int (iV cI)), (0, .ref h0), (1, .int (iV cI))]) hx hb dX0_pitOf_1 rfl hl (by decide) rfl (fun ls hl => ?_)
  refine lv_iconst (v := iV 0) hx hb dX0_pitOf_2 (by decide) ?_
  refine lv_istore_n (lv' := [(3, .int (iV 0)), (2, .int (iV cI)), (0, .ref h0), (1, .int (iV cI))]) hx hb dX0_pitOf_3 rfl hl (by decide) rfl (fun ls hl => ?_)
  have lp_4 : ∀ (k : Nat) (n : Nat) (a : Int) , (n ≤ 81) → (0 ≤ a ∧ a < 81) → (gPitF wI hI gI 81 cI = gPitF wI hI gI (81 - n) a) → (81 - n) < k → ∀ (H : Heap) (locs : List Loc), va_P G.1 vwCl [(h0, .inr (0, [.int (iV wI), .int (iV hI), .ref ha])), (ha, .inl (G.2.1, 81, .inl (fun k => iV (gI k))))] H → va_S (zF s.heap.size) s.heap H locs → ∀ ls : Array Slot, lv_has ls 5 [(0, .ref h0), (1, .int (iV cI)), (2, .int (iV a)), (3, .int (iV (Nat.cast n : Int)))] → W p l e (headSpec (Cond.code yX0_pitOf cX0_pitOf 5 (some .int) :: zT) (zRm 4 96)).room s m ([Value.ref h0, Value.int (iV cI)] : List Value).toArray below meth c H locs 0 0 (MQ below (zQr (gPitF wI hI gI 81 cI) s.heap.size) ([Value.ref h0, Value.int (iV cI)] : List Value).toArray s 0 0 (zF s.heap.size)) (F0 m 4 ls []) := by
    intro k
    induction k with
    | zero => intro n a hn ha_ hp hk_; exact absurd hk_ (Nat.not_lt_zero _)
    | succ k ih_4 =>
      intro n a hn ha_ hp hk_4 H locs hP hS ls hl
      refine lv_iload_n hx hb dX0_pitOf_4 rfl (lv_at hl 3 rfl) ?_
      refine lv_bipush (v := iV 81) hx hb dX0_pitOf_5 (by decide) ?_
      refine z_icmp_ge (tgt := 35) hx hb (by omega) ⟨by decide, by decide⟩ dX0_pitOf_7 (by decide) (fun c_1 => ?_) (fun c_1 => ?_)
      · refine lv_iload_n hx hb dX0_pitOf_35 rfl (lv_at hl 2 rfl) ?_
        refine z_eq (z := gPitF wI hI gI 81 cI) (by first | (rw [hp, gPitF_s (by omega), if_pos (by assumption)]) | (have h8 : n = 81 := (by omega); subst h8; rw [hp]; rfl)) ?_
        exact z_ret hx hb hr hlocks hS dX0_pitOf_36
      · refine lv_aload_n hx hb dX0_pitOf_10 rfl (lv_at hl 0 rfl) ?_
        refine lv_iload_n hx hb dX0_pitOf_11 rfl (lv_at hl 2 rfl) ?_
        refine z_callV X hP hS hl.1 (c_X0_nextDown l G _ h0 ha wI hI gI a (by first | assumption | omega) (by first | assumption | omega)) wd_568 kX0_nextDown ⟨rfl, rfl, Nat.le_of_ble_eq_true rfl, Nat.le_of_ble_eq_true rfl⟩ [0, 1] rfl 0 rfl rfl rfl rfl (Nat.le_of_ble_eq_true rfl) dX0_pitOf_12 ⟨Nat.zero_le _, Nat.zero_le _⟩ (fun H locs hP hS => ?_)
        have f_2 := gNext_r hG a
        refine lv_istore (lv' := [(4, .int (iV (gNext wI hI gI a))), (0, .ref h0), (1, .int (iV cI)), (2, .int (iV a)), (3, .int (iV (Nat.cast n : Int)))]) hx hb dX0_pitOf_15 hl (by decide) rfl (fun ls hl => ?_)
        refine lv_iload hx hb dX0_pitOf_17 (lv_at hl 0 rfl) ?_
        refine lv_iconst (v := iV (-1)) hx hb dX0_pitOf_19 (by decide) ?_
        refine z_icmp_ne (tgt := 26) hx hb (by omega) ⟨by decide, by decide⟩ dX0_pitOf_20 (by decide) (fun c_3 => ?_) (fun c_3 => ?_)
        · refine lv_iload hx hb dX0_pitOf_26 (lv_at hl 0 rfl) ?_
          refine lv_istore_n (lv' := [(2, .int (iV (gNext wI hI gI a))), (4, .int (iV (gNext wI hI gI a))), (0, .ref h0), (1, .int (iV cI)), (3, .int (iV (Nat.cast n : Int)))]) hx hb dX0_pitOf_28 rfl hl (by decide) rfl (fun ls hl => ?_)
          refine z_iinc (lv' := [(3, .int (iV ((Nat.cast n : Int) + 1))), (2, .int (iV (gNext wI hI gI a))), (4, .int (iV (gNext wI hI gI a))), (0, .ref h0), (1, .int (iV cI))]) hx hb dX0_pitOf_29 hl (k := 4) rfl (by decide) rfl (fun ls hl => ?_)
          refine lv_goto (tgt := 4) hx hb dX0_pitOf_32 (by decide) ?_
          exact ih_4 (n + 1) (gNext wI hI gI a) (by first | assumption | omega) (by first | assumption | omega) (by first | rfl | (rw [hp, gPitF_s (by omega), if_neg (by assumption)])) (by omega) _ _ hP hS _ (lv_cons (lv_at hl 3 rfl) (lv_cons (lv_at hl 4 rfl) (lv_cons (lv_i hl 1 rfl (by omega)) (lv_cons (lv_i hl 0 rfl (by omega)) (lv_nil hl)))))
        · refine lv_goto (tgt := 35) hx hb dX0_pitOf_23 (by decide) ?_
          refine lv_iload_n hx hb dX0_pitOf_35 rfl (lv_at hl 3 rfl) ?_
          refine z_eq (z := gPitF wI hI gI 81 cI) (by first | (rw [hp, gPitF_s (by omega), if_pos (by assumption)]) | (have h8 : n = 81 := (by omega); subst h8; rw [hp]; rfl)) ?_
          exact z_ret hx hb hr hlocks hS dX0_pitOf_36
  exact lp_4 _ 0 cI (by first | assumption | omega) (by first | assumption | omega) (by first | rfl | (rw [hp, gPitF_s (by omega), if_neg (by assumption)])) (Nat.lt_succ_self _) _ _ hP hS _ (lv_cons (lv_at hl 2 rfl) (lv_cons (lv_at hl 3 rfl) (lv_cons (lv_at hl 1 rfl) (lv_cons (lv_i hl 0 rfl (by omega)) (lv_nil hl)))))

set_option maxHeartbeats 4000000 in
set_option maxRecDepth 100000 in
theorem c_X0_stepsToPit (l : Launch) (G : zG) (sz : Nat) (h0 : Nat) (ha : Nat) (wI : Int) (hI : Int) (gI : Nat → Int) (cI : Int) (hG : gOK wI hI gI) (hc : 0 ≤ cI ∧ cI < 81) : Met l yX0_stepsToPit (Cond.code yX0_stepsToPit cX0_stepsToPit 5 (some .int) :: zT) (zRm 4 96) (zPr G [.ref h0, .int (iV cI)] [(h0, .inr (0, [.int (iV wI), .int (iV hI), .ref ha])), (ha, .inl (G.2.1, 81, .inl (fun k => iV (gI k))))] sz) (zQr (gStF wI hI gI 81 cI) sz) 0 0 (zF sz) := by
  refine Met.ofW (cc := cX0_stepsToPit) (maxL := 5) (ret := (some .int)) (by decide) rfl ?_
  intro p e s m args below meth c s₁ B hml hv
  obtain ⟨rfl, hsz, hP, hK, hSt⟩ := hv
  have hx := B.exec
  have hb := B.bytes
  have hr := B.returns
  have hts : ∀ w ∈ zT, w.before _ s = true := fun w h => atoms_spec (ws := (Cond.code yX0_stepsToPit cX0_stepsToPit 5 (some .int) :: zT)) B.pre w (List.mem_cons_of_mem _ h)
  have hown : s.vm.findClass RX0 = some m.cls := findClass_of_methodNamed B.named
  have hlocks := B.notSynchronized
  subst hsz
  have hA : ∀ q : Nat, s.heap.size ≤ q → zF s.heap.size q := fun _ h => h
  have hS : va_S (zF s.heap.size) s.heap s.heap [] := va_S.rf
  have hP : va_P G.1 vwCl [(h0, .inr (0, [.int (iV wI), .int (iV hI), .ref ha])), (ha, .inl (G.2.1, 81, .inl (fun k => iV (gI k))))] s.heap := hP
  have X := And.intro hx (And.intro hb (And.intro hml (And.intro hown (And.intro hts (And.intro hK (And.intro hSt hA))))))
  have hl := lv_entry ([.ref h0, .int (iV cI)]) (n := 5) (Nat.le_of_ble_eq_true rfl)
  rw [lg_entry_eq]
  generalize (lg_sl ([.ref h0, .int (iV cI)]) ++ List.replicate (5 - (lg_sl ([.ref h0, .int (iV cI)])).length) Slot.unset).toArray = ls at hl ⊢
  have hl : lv_has ls 5 [(0, .ref h0), (1, .int (iV cI))] := hl
  obtain ⟨hW0, hW9, hH0, hH9, hg⟩ := id hG
  refine lv_iload_n hx hb dX0_stepsToPit_0 rfl (lv_at hl 1 rfl) ?_
  refine lv_istore_n (lv' := [(2, .int (iV cI)), (0, .ref h0), (1, .int (iV cI))]) hx hb dX0_stepsToPit_1 rfl hl (by decide) rfl (fun ls hl => ?_)
  refine lv_iconst (v := iV 0) hx hb dX0_stepsToPit_2 (by decide) ?_
  refine lv_istore_n (lv' := [(3, .int (iV 0)), (2, .int (iV cI)), (0, .ref h0), (1, .int (iV cI))]) hx hb dX0_stepsToPit_3 rfl hl (by decide) rfl (fun ls hl => ?_)
  refine lv_iconst (v := iV 0) hx hb dX0_stepsToPit_4 (by decide) ?_
  refine lv_istore (lv' := [(4, .int (iV 0)), (3, .int (iV 0)), (2, .int (iV cI)), (0, .ref h0), (1, .int (iV cI))]) hx hb dX0_stepsToPit_5 hl (by decide) rfl (fun ls hl => ?_)
  have lp_7 : ∀ (k : Nat) (n : Nat) (a : Int) , (n ≤ 81) → (0 ≤ a ∧ a < 81) → (gStF wI hI gI 81 cI = (Nat.cast n : Int) + gStF wI hI gI (81 - n) a) → (81 - n) < k → ∀ (H : Heap) (locs : List Loc), va_P G.1 vwCl [(h0, .inr (0, [.int (iV wI), .int (iV hI), .ref ha])), (ha, .inl (G.2.1, 81, .inl (fun k => iV (gI k))))] H → va_S (zF s.heap.size) s.heap H locs → ∀ ls : Array Slot, lv_has ls 5 [(0, .ref h0), (1, .int (iV cI)), (2, .int (iV a)), (3, .int (iV (Nat.cast n : Int))), (4, .int (iV (Nat.cast n : Int)))] → W p l e (headSpec (Cond.code yX0_stepsToPit cX0_stepsToPit 5 (some .int) :: zT) (zRm 4 96)).room s m ([Value.ref h0, Value.int (iV cI)] : List Value).toArray below meth c H locs 0 0 (MQ below (zQr (gStF wI hI gI 81 cI) s.heap.size) ([Value.ref h0, Value.int (iV cI)] : List Value).toArray s 0 0 (zF s.heap.size)) (F0 m 7 ls []) := by
    intro k
    induction k with
    | zero => intro n a hn ha_ hp hk_; exact absurd hk_ (Nat.not_lt_zero _)
    | succ k ih_7 =>
      intro n a hn ha_ hp hk_7 H locs hP hS ls hl
      refine lv_iload hx hb dX0_stepsToPit_7 (lv_at hl 4 rfl) ?_
      refine lv_bipush (v := iV 81) hx hb dX0_stepsToPit_9 (by decide) ?_
      refine z_icmp_ge (tgt := 37) hx hb (by omega) ⟨by decide, by decide⟩ dX0_stepsToPit_11 (by decide) (fun c_1 => ?_) (fun c_1 => ?_)
      · refine lv_iload_n hx hb dX0_stepsToPit_37 rfl (lv_at hl 3 rfl) ?_
        refine z_eq (z := gStF wI hI gI 81 cI) (by first | (rw [hp, gStF_s (by omega), if_pos (by assumption)]; omega) | (have h8 : n = 81 := (by omega); subst h8; rw [hp]; simp [gStF])) ?_
        exact z_ret hx hb hr hlocks hS dX0_stepsToPit_38
      · refine lv_aload_n hx hb dX0_stepsToPit_14 rfl (lv_at hl 0 rfl) ?_
        refine lv_iload_n hx hb dX0_stepsToPit_15 rfl (lv_at hl 2 rfl) ?_
        refine z_callV X hP hS hl.1 (c_X0_nextDown l G _ h0 ha wI hI gI a (by first | assumption | omega) (by first | assumption | omega)) wd_568 kX0_nextDown ⟨rfl, rfl, Nat.le_of_ble_eq_true rfl, Nat.le_of_ble_eq_true rfl⟩ [0, 1] rfl 0 rfl rfl rfl rfl (Nat.le_of_ble_eq_true rfl) dX0_stepsToPit_16 ⟨Nat.zero_le _, Nat.zero_le _⟩ (fun H locs hP hS => ?_)
        have f_2 := gNext_r hG a
        refine lv_istore_n (lv' := [(2, .int (iV (gNext wI hI gI a))), (0, .ref h0), (1, .int (iV cI)), (3, .int (iV (Nat.cast n : Int))), (4, .int (iV (Nat.cast n : Int)))]) hx hb dX0_stepsToPit_19 rfl hl (by decide) rfl (fun ls hl => ?_)
        refine lv_iload_n hx hb dX0_stepsToPit_20 rfl (lv_at hl 0 rfl) ?_
        refine lv_iconst (v := iV (-1)) hx hb dX0_stepsToPit_21 (by decide) ?_
        refine z_icmp_ne (tgt := 28) hx hb (by omega) ⟨by decide, by decide⟩ dX0_stepsToPit_22 (by decide) (fun c_3 => ?_) (fun c_3 => ?_)
        · refine z_iinc (lv' := [(3, .int (iV ((Nat.cast n : Int) + 1))), (2, .int (iV (gNext wI hI gI a))), (0, .ref h0), (1, .int (iV cI)), (4, .int (iV (Nat.cast n : Int)))]) hx hb dX0_stepsToPit_28 hl (k := 3) rfl (by decide) rfl (fun ls hl => ?_)
          refine z_iinc (lv' := [(4, .int (iV ((Nat.cast n : Int) + 1))), (3, .int (iV ((Nat.cast n : Int) + 1))), (2, .int (iV (gNext wI hI gI a))), (0, .ref h0), (1, .int (iV cI))]) hx hb dX0_stepsToPit_31 hl (k := 4) rfl (by decide) rfl (fun ls hl => ?_)
          refine lv_goto (tgt := 7) hx hb dX0_stepsToPit_34 (by decide) ?_
          exact ih_7 (n + 1) (gNext wI hI gI a) (by first | assumption | omega) (by first | assumption | omega) (by first | (rw [hp, gStF_s (by omega), if_neg (by assumption)]; omega) | simp) (by omega) _ _ hP hS _ (lv_cons (lv_at hl 3 rfl) (lv_cons (lv_at hl 4 rfl) (lv_cons (lv_i hl 2 rfl (by omega)) (lv_cons (lv_i hl 1 rfl (by omega)) (lv_cons (lv_i hl 0 rfl (by omega)) (lv_nil hl))))))
        · refine lv_goto (tgt := 37) hx hb dX0_stepsToPit_25 (by decide) ?_
          refine lv_iload_n hx hb dX0_stepsToPit_37 rfl (lv_at hl 3 rfl) ?_
          refine z_eq (z := gStF wI hI gI 81 cI) (by first | (rw [hp, gStF_s (by omega), if_pos (by assumption)]; omega) | (have h8 : n = 81 := (by omega); subst h8; rw [hp]; simp [gStF])) ?_
          exact z_ret hx hb hr hlocks hS dX0_stepsToPit_38
  exact lp_7 _ 0 cI (by first | assumption | omega) (by first | assumption | omega) (by first | (rw [hp, gStF_s (by omega), if_neg (by assumption)]; omega) | simp) (Nat.lt_succ_self _) _ _ hP hS _ (lv_cons (lv_at hl 3 rfl) (lv_cons (lv_at hl 4 rfl) (lv_cons (lv_at hl 2 rfl) (lv_cons (lv_i hl 1 rfl (by omega)) (lv_cons (lv_i hl 0 rfl (by omega)) (lv_nil hl))))))

set_option maxHeartbeats 4000000 in
set_option maxRecDepth 100000 in
theorem c_X0_cellsFlowingTo (l : Launch) (G : zG) (sz : Nat) (h0 : Nat) (ha : Nat) (wI : Int) (hI : Int) (gI : Nat → Int) (pt : Int) (hG : gOK wI hI gI) (hpt : 0 ≤ pt ∧ pt < 81) : Met l yX0_cellsFlowingTo (Cond.code yX0_cellsFlowingTo cX0_cellsFlowingTo 4 (some .int) :: zT) (zRm 5 120) (zPr G [.ref h0, .int (iV pt)] [(h0, .inr (0, [.int (iV wI), .int (iV hI), .ref ha])), (ha, .inl (G.2.1, 81, .inl (fun k => iV (gI k))))] sz) (zQr (sumN (fun k => bP (gIn wI hI (Nat.cast k : Int) ∧ gPitF wI hI gI 81 (Nat.cast k : Int) = pt)) 81) sz) 0 0 (zF sz) := by
  refine Met.ofW (cc := cX0_cellsFlowingTo) (maxL := 4) (ret := (some .int)) (by decide) rfl ?_
  intro p e s m args below meth c s₁ B hml hv
  obtain ⟨rfl, hsz, hP, hK, hSt⟩ := hv
  have hx := B.exec
  have hb := B.bytes
  have hr := B.returns
  have hts : ∀ w ∈ zT, w.before _ s = true := fun w h => atoms_spec (ws := (Cond.code yX0_cellsFlowingTo cX0_cellsFlowingTo 4 (some .int) :: zT)) B.pre w (List.mem_cons_of_mem _ h)
  have hown : s.vm.findClass RX0 = some m.cls := findClass_of_methodNamed B.named
  have hlocks := B.notSynchronized
  subst hsz
  have hA : ∀ q : Nat, s.heap.size ≤ q → zF s.heap.size q := fun _ h => h
  have hS : va_S (zF s.heap.size) s.heap s.heap [] := va_S.rf
  have hP : va_P G.1 vwCl [(h0, .inr (0, [.int (iV wI), .int (iV hI), .ref ha])), (ha, .inl (G.2.1, 81, .inl (fun k => iV (gI k))))] s.heap := hP
  have X := And.intro hx (And.intro hb (And.intro hml (And.intro hown (And.intro hts (And.intro hK (And.intro hSt hA))))))
  have hl := lv_entry ([.ref h0, .int (iV pt)]) (n := 4) (Nat.le_of_ble_eq_true rfl)
  rw [lg_entry_eq]
  generalize (lg_sl ([.ref h0, .int (iV pt)]) ++ List.replicate (4 - (lg_sl ([.ref h0, .int (iV pt)])).length) Slot.unset).toArray = ls at hl ⊢
  have hl : lv_has ls 4 [(0, .ref h0), (1, .int (iV pt))] := hl
  obtain ⟨hW0, hW9, hH0, hH9, hg⟩ := id hG
  refine lv_iconst (v := iV 0) hx hb dX0_cellsFlowingTo_0 (by decide) ?_
  refine lv_istore_n (lv' := [(2, .int (iV 0)), (0, .ref h0), (1, .int (iV pt))]) hx hb dX0_cellsFlowingTo_1 rfl hl (by decide) rfl (fun ls hl => ?_)
  refine lv_iconst (v := iV 0) hx hb dX0_cellsFlowingTo_2 (by decide) ?_
  refine lv_istore_n (lv' := [(3, .int (iV 0)), (2, .int (iV 0)), (0, .ref h0), (1, .int (iV pt))]) hx hb dX0_cellsFlowingTo_3 rfl hl (by decide) rfl (fun ls hl => ?_)
  have lp_4 : ∀ (k : Nat) (n : Nat) , (n ≤ 81) → (81 - n) < k → ∀ (H : Heap) (locs : List Loc), va_P G.1 vwCl [(h0, .inr (0, [.int (iV wI), .int (iV hI), .ref ha])), (ha, .inl (G.2.1, 81, .inl (fun k => iV (gI k))))] H → va_S (zF s.heap.size) s.heap H locs → ∀ ls : Array Slot, lv_has ls 4 [(0, .ref h0), (1, .int (iV pt)), (2, .int (iV (sumN (fun k => bP (gIn wI hI (Nat.cast k : Int) ∧ gPitF wI hI gI 81 (Nat.cast k : Int) = pt)) n))), (3, .int (iV (Nat.cast n : Int)))] → W p l e (headSpec (Cond.code yX0_cellsFlowingTo cX0_cellsFlowingTo 4 (some .int) :: zT) (zRm 5 120)).room s m ([Value.ref h0, Value.int (iV pt)] : List Value).toArray below meth c H locs 0 0 (MQ below (zQr (sumN (fun k => bP (gIn wI hI (Nat.cast k : Int) ∧ gPitF wI hI gI 81 (Nat.cast k : Int) = pt)) 81) s.heap.size) ([Value.ref h0, Value.int (iV pt)] : List Value).toArray s 0 0 (zF s.heap.size)) (F0 m 4 ls []) := by
    intro k
    induction k with
    | zero => intro n hn hk_; exact absurd hk_ (Nat.not_lt_zero _)
    | succ k ih_4 =>
      intro n hn hk_4 H locs hP hS ls hl
      refine lv_iload_n hx hb dX0_cellsFlowingTo_4 rfl (lv_at hl 3 rfl) ?_
      refine lv_bipush (v := iV 81) hx hb dX0_cellsFlowingTo_5 (by decide) ?_
      refine z_icmp_ge (tgt := 36) hx hb (by omega) ⟨by decide, by decide⟩ dX0_cellsFlowingTo_7 (by decide) (fun c_1 => ?_) (fun c_1 => ?_)
      · refine lv_iload_n hx hb dX0_cellsFlowingTo_36 rfl (lv_at hl 2 rfl) ?_
        refine z_eq (z := sumN (fun k => bP (gIn wI hI (Nat.cast k : Int) ∧ gPitF wI hI gI 81 (Nat.cast k : Int) = pt)) 81) (by have h8 : n = 81 := (by omega); subst h8; rfl) ?_
        exact z_ret hx hb hr hlocks hS dX0_cellsFlowingTo_37
      · refine lv_aload_n hx hb dX0_cellsFlowingTo_10 rfl (lv_at hl 0 rfl) ?_
        refine lv_iload_n hx hb dX0_cellsFlowingTo_11 rfl (lv_at hl 3 rfl) ?_
        refine z_callV X hP hS hl.1 (c_X0_hasNumber l G _ h0 ha wI hI gI (Nat.cast n : Int) (by first | assumption | omega) (by first | assumption | omega)) wd_585 kX0_hasNumber ⟨rfl, rfl, Nat.le_of_ble_eq_true rfl, Nat.le_of_ble_eq_true rfl⟩ [0, 1] rfl 0 rfl rfl rfl rfl (Nat.le_of_ble_eq_true rfl) dX0_cellsFlowingTo_12 ⟨Nat.zero_le _, Nat.zero_le _⟩ (fun H locs hP hS => ?_)
        refine z_ifb_eq (tgt := 30) hx hb dX0_cellsFlowingTo_15 (by decide) (fun c_2 => ?_) (fun c_2 => ?_)
        · refine z_iinc (lv' := [(3, .int (iV ((Nat.cast n : Int) + 1))), (0, .ref h0), (1, .int (iV pt)), (2, .int (iV (sumN (fun k => bP (gIn wI hI (Nat.cast k : Int) ∧ gPitF wI hI gI 81 (Nat.cast k : Int) = pt)) n)))]) hx hb dX0_cellsFlowingTo_30 hl (k := 3) rfl (by decide) rfl (fun ls hl => ?_)
          refine lv_goto (tgt := 4) hx hb dX0_cellsFlowingTo_33 (by decide) ?_
          exact ih_4 (n + 1) (by first | assumption | omega) (by omega) _ _ hP hS _ (lv_cons (lv_at hl 1 rfl) (lv_cons (lv_at hl 2 rfl) (lv_cons (lv_i hl 3 rfl (by first | rfl | omega | exact sumN_t (P := fun k => gIn wI hI (Nat.cast k : Int) ∧ gPitF wI hI gI 81 (Nat.cast k : Int) = pt) ⟨by assumption, by assumption⟩ | exact sumN_f (P := fun k => gIn wI hI (Nat.cast k : Int) ∧ gPitF wI hI gI 81 (Nat.cast k : Int) = pt) (fun h => by first | exact absurd h.1 (by assumption) | exact absurd h.2 (by assumption)))) (lv_cons (lv_i hl 0 rfl (by first | rfl | omega | exact sumN_t (P := fun k => gIn wI hI (Nat.cast k : Int) ∧ gPitF wI hI gI 81 (Nat.cast k : Int) = pt) ⟨by assumption, by assumption⟩ | exact sumN_f (P := fun k => gIn wI hI (Nat.cast k : Int) ∧ gPitF wI hI gI 81 (Nat.cast k : Int) = pt) (fun h => by first | exact absurd h.1 (by assumption) | exact absurd h.2 (by assumption)))) (lv_nil hl)))))
        · refine lv_aload_n hx hb dX0_cellsFlowingTo_18 rfl (lv_at hl 0 rfl) ?_
          refine lv_iload_n hx hb dX0_cellsFlowingTo_19 rfl (lv_at hl 3 rfl) ?_
          refine z_callV X hP hS hl.1 (c_X0_pitOf l G _ h0 ha wI hI gI (Nat.cast n : Int) (by first | assumption | omega) (by first | assumption | omega)) wd_586 kX0_pitOf ⟨rfl, rfl, Nat.le_of_ble_eq_true rfl, Nat.le_of_ble_eq_true rfl⟩ [0, 1] rfl 0 rfl rfl rfl rfl (Nat.le_of_ble_eq_true rfl) dX0_cellsFlowingTo_20 ⟨Nat.zero_le _, Nat.zero_le _⟩ (fun H locs hP hS => ?_)
          have f_3 := gPitF_r hG 81 (Nat.cast n : Int) (by omega)
          refine lv_iload_n hx hb dX0_cellsFlowingTo_23 rfl (lv_at hl 1 rfl) ?_
          refine z_icmp_ne (tgt := 30) hx hb (by omega) (by omega) dX0_cellsFlowingTo_24 (by decide) (fun c_4 => ?_) (fun c_4 => ?_)
          · refine z_iinc (lv' := [(3, .int (iV ((Nat.cast n : Int) + 1))), (0, .ref h0), (1, .int (iV pt)), (2, .int (iV (sumN (fun k => bP (gIn wI hI (Nat.cast k : Int) ∧ gPitF wI hI gI 81 (Nat.cast k : Int) = pt)) n)))]) hx hb dX0_cellsFlowingTo_30 hl (k := 3) rfl (by decide) rfl (fun ls hl => ?_)
            refine lv_goto (tgt := 4) hx hb dX0_cellsFlowingTo_33 (by decide) ?_
            exact ih_4 (n + 1) (by first | assumption | omega) (by omega) _ _ hP hS _ (lv_cons (lv_at hl 1 rfl) (lv_cons (lv_at hl 2 rfl) (lv_cons (lv_i hl 3 rfl (by first | rfl | omega | exact sumN_t (P := fun k => gIn wI hI (Nat.cast k : Int) ∧ gPitF wI hI gI 81 (Nat.cast k : Int) = pt) ⟨by assumption, by assumption⟩ | exact sumN_f (P := fun k => gIn wI hI (Nat.cast k : Int) ∧ gPitF wI hI gI 81 (Nat.cast k : Int) = pt) (fun h => by first | exact absurd h.1 (by assumption) | exact absurd h.2 (by assumption)))) (lv_cons (lv_i hl 0 rfl (by first | rfl | omega | exact sumN_t (P := fun k => gIn wI hI (Nat.cast k : Int) ∧ gPitF wI hI gI 81 (Nat.cast k : Int) = pt) ⟨by assumption, by assumption⟩ | exact sumN_f (P := fun k => gIn wI hI (Nat.cast k : Int) ∧ gPitF wI hI gI 81 (Nat.cast k : Int) = pt) (fun h => by first | exact absurd h.1 (by assumption) | exact absurd h.2 (by assumption)))) (lv_nil hl)))))
          · refine z_iinc (lv' := [(2, .int (iV (sumN (fun k => bP (gIn wI hI (Nat.cast k : Int) ∧ gPitF wI hI gI 81 (Nat.cast k : Int) = pt)) n + 1))), (0, .ref h0), (1, .int (iV pt)), (3, .int (iV (Nat.cast n : Int)))]) hx hb dX0_cellsFlowingTo_27 hl (k := 2) rfl (by decide) rfl (fun ls hl => ?_)
            refine z_iinc (lv' := [(3, .int (iV ((Nat.cast n : Int) + 1))), (2, .int (iV (sumN (fun k => bP (gIn wI hI (Nat.cast k : Int) ∧ gPitF wI hI gI 81 (Nat.cast k : Int) = pt)) n + 1))), (0, .ref h0), (1, .int (iV pt))]) hx hb dX0_cellsFlowingTo_30 hl (k := 3) rfl (by decide) rfl (fun ls hl => ?_)
            refine lv_goto (tgt := 4) hx hb dX0_cellsFlowingTo_33 (by decide) ?_
            exact ih_4 (n + 1) (by first | assumption | omega) (by omega) _ _ hP hS _ (lv_cons (lv_at hl 2 rfl) (lv_cons (lv_at hl 3 rfl) (lv_cons (lv_i hl 1 rfl (by first | rfl | omega | exact sumN_t (P := fun k => gIn wI hI (Nat.cast k : Int) ∧ gPitF wI hI gI 81 (Nat.cast k : Int) = pt) ⟨by assumption, by assumption⟩ | exact sumN_f (P := fun k => gIn wI hI (Nat.cast k : Int) ∧ gPitF wI hI gI 81 (Nat.cast k : Int) = pt) (fun h => by first | exact absurd h.1 (by assumption) | exact absurd h.2 (by assumption)))) (lv_cons (lv_i hl 0 rfl (by first | rfl | omega | exact sumN_t (P := fun k => gIn wI hI (Nat.cast k : Int) ∧ gPitF wI hI gI 81 (Nat.cast k : Int) = pt) ⟨by assumption, by assumption⟩ | exact sumN_f (P := fun k => gIn wI hI (Nat.cast k : Int) ∧ gPitF wI hI gI 81 (Nat.cast k : Int) = pt) (fun h => by first | exact absurd h.1 (by assumption) | exact absurd h.2 (by assumption)))) (lv_nil hl)))))
  exact lp_4 _ 0 (by first | assumption | omega) (Nat.lt_succ_self _) _ _ hP hS _ (lv_cons (lv_at hl 2 rfl) (lv_cons (lv_at hl 3 rfl) (lv_cons (lv_i hl 1 rfl (by first | rfl | omega | exact sumN_t (P := fun k => gIn wI hI (Nat.cast k : Int) ∧ gPitF wI hI gI 81 (Nat.cast k : Int) = pt) ⟨by assumption, by assumption⟩ | exact sumN_f (P := fun k => gIn wI hI (Nat.cast k : Int) ∧ gPitF wI hI gI 81 (Nat.cast k : Int) = pt) (fun h => by first | exact absurd h.1 (by assumption) | exact absurd h.2 (by assumption)))) (lv_cons (lv_i hl 0 rfl (by first | rfl | omega | exact sumN_t (P := fun k => gIn wI hI (Nat.cast k : Int) ∧ gPitF wI hI gI 81 (Nat.cast k : Int) = pt) ⟨by assumption, by assumption⟩ | exact sumN_f (P := fun k => gIn wI hI (Nat.cast k : Int) ∧ gPitF wI hI gI 81 (Nat.cast k : Int) = pt) (fun h => by first | exact absurd h.1 (by assumption) | exact absurd h.2 (by assumption)))) (lv_nil hl)))))

set_option maxHeartbeats 4000000 in
set_option maxRecDepth 100000 in
theorem c_X0_quarter (l : Launch) (G : zG) (sz : Nat) (h0 : Nat) (ha : Nat) (wI : Int) (hI : Int) (gI : Nat → Int) (cI : Int) (hG : gOK wI hI gI) (hc : 0 ≤ cI ∧ cI < 81) : Met l yX0_quarter (Cond.code yX0_quarter cX0_quarter 4 (some .int) :: zT) (zRm 0 0) (zPr G [.ref h0, .int (iV cI)] [(h0, .inr (0, [.int (iV wI), .int (iV hI), .ref ha])), (ha, .inl (G.2.1, 81, .inl (fun k => iV (gI k))))] sz) (zQr (gQ wI hI (cI % 9) (cI / 9)) sz) 0 0 (zF sz) := by
  refine Met.ofW (cc := cX0_quarter) (maxL := 4) (ret := (some .int)) (by decide) rfl ?_
  intro p e s m args below meth c s₁ B hml hv
  obtain ⟨rfl, hsz, hP, hK, hSt⟩ := hv
  have hx := B.exec
  have hb := B.bytes
  have hr := B.returns
  have hts : ∀ w ∈ zT, w.before _ s = true := fun w h => atoms_spec (ws := (Cond.code yX0_quarter cX0_quarter 4 (some .int) :: zT)) B.pre w (List.mem_cons_of_mem _ h)
  have hown : s.vm.findClass RX0 = some m.cls := findClass_of_methodNamed B.named
  have hlocks := B.notSynchronized
  subst hsz
  have hA : ∀ q : Nat, s.heap.size ≤ q → zF s.heap.size q := fun _ h => h
  have hS : va_S (zF s.heap.size) s.heap s.heap [] := va_S.rf
  have hP : va_P G.1 vwCl [(h0, .inr (0, [.int (iV wI), .int (iV hI), .ref ha])), (ha, .inl (G.2.1, 81, .inl (fun k => iV (gI k))))] s.heap := hP
  have X := And.intro hx (And.intro hb (And.intro hml (And.intro hown (And.intro hts (And.intro hK (And.intro hSt hA))))))
  have hl := lv_entry ([.ref h0, .int (iV cI)]) (n := 4) (Nat.le_of_ble_eq_true rfl)
  rw [lg_entry_eq]
  generalize (lg_sl ([.ref h0, .int (iV cI)]) ++ List.replicate (4 - (lg_sl ([.ref h0, .int (iV cI)])).length) Slot.unset).toArray = ls at hl ⊢
  have hl : lv_has ls 4 [(0, .ref h0), (1, .int (iV cI))] := hl
  obtain ⟨hW0, hW9, hH0, hH9, hg⟩ := id hG
  refine lv_iload_n hx hb dX0_quarter_0 rfl (lv_at hl 1 rfl) ?_
  refine lv_bipush (v := iV 9) hx hb dX0_quarter_1 (by decide) ?_
  refine z_irem hx hb (by omega) (by omega) dX0_quarter_3 ?_
  refine lv_aload_n hx hb dX0_quarter_4 rfl (lv_at hl 0 rfl) ?_
  refine va_get (D := G.1) (ci := 0) (v := .int (iV wI)) (C := RX0) (T := TX0) (N := 3) hx hb hts inX0 hown hK hP 0 rfl rfl 0 (by decide) (hts _ wd_37) (fun _ h9 => h9) rfl dX0_quarter_5 ?_
  refine lv_iconst (v := iV 2) hx hb dX0_quarter_8 (by decide) ?_
  refine z_idiv hx hb (by omega) (by omega) dX0_quarter_9 ?_
  refine z_icmp_ge (tgt := 17) hx hb (by omega) (by omega) dX0_quarter_10 (by decide) (fun c_1 => ?_) (fun c_1 => ?_)
  · refine lv_iconst (v := iV 1) hx hb dX0_quarter_17 (by decide) ?_
    refine lv_istore_n (lv' := [(2, .int (iV 1)), (0, .ref h0), (1, .int (iV cI))]) hx hb dX0_quarter_18 rfl hl (by decide) rfl (fun ls hl => ?_)
    refine lv_iload_n hx hb dX0_quarter_19 rfl (lv_at hl 2 rfl) ?_
    refine lv_bipush (v := iV 9) hx hb dX0_quarter_20 (by decide) ?_
    refine z_idiv hx hb (by omega) (by omega) dX0_quarter_22 ?_
    refine lv_aload_n hx hb dX0_quarter_23 rfl (lv_at hl 1 rfl) ?_
    refine va_get (D := G.1) (ci := 0) (v := .int (iV hI)) (C := RX0) (T := TX0) (N := 3) hx hb hts inX0 hown hK hP 0 rfl rfl 1 (by decide) (hts _ wd_40) (fun _ h9 => h9) rfl dX0_quarter_24 ?_
    refine lv_iconst (v := iV 2) hx hb dX0_quarter_27 (by decide) ?_
    refine z_idiv hx hb (by omega) (by omega) dX0_quarter_28 ?_
    refine z_icmp_ge (tgt := 36) hx hb (by omega) (by omega) dX0_quarter_29 (by decide) (fun c_2 => ?_) (fun c_2 => ?_)
    · refine lv_iconst (v := iV 2) hx hb dX0_quarter_36 (by decide) ?_
      refine lv_istore_n (lv' := [(3, .int (iV 2)), (2, .int (iV 1)), (0, .ref h0), (1, .int (iV cI))]) hx hb dX0_quarter_37 rfl hl (by decide) rfl (fun ls hl => ?_)
      refine lv_iload_n hx hb dX0_quarter_38 rfl (lv_at hl 0 rfl) ?_
      refine lv_iload_n hx hb dX0_quarter_39 rfl (lv_at hl 1 rfl) ?_
      refine z_iadd hx hb dX0_quarter_40 ?_
      refine z_eq (z := gQ wI hI (cI % 9) (cI / 9)) (by unfold gQ; split <;> split <;> omega) ?_
      exact z_ret hx hb hr hlocks hS dX0_quarter_41
    · refine lv_iconst (v := iV 0) hx hb dX0_quarter_32 (by decide) ?_
      refine lv_goto (tgt := 37) hx hb dX0_quarter_33 (by decide) ?_
      refine lv_istore_n (lv' := [(3, .int (iV 0)), (2, .int (iV 1)), (0, .ref h0), (1, .int (iV cI))]) hx hb dX0_quarter_37 rfl hl (by decide) rfl (fun ls hl => ?_)
      refine lv_iload_n hx hb dX0_quarter_38 rfl (lv_at hl 0 rfl) ?_
      refine lv_iload_n hx hb dX0_quarter_39 rfl (lv_at hl 1 rfl) ?_
      refine z_iadd hx hb dX0_quarter_40 ?_
      refine z_eq (z := gQ wI hI (cI % 9) (cI / 9)) (by unfold gQ; split <;> split <;> omega) ?_
      exact z_ret hx hb hr hlocks hS dX0_quarter_41
  · refine lv_iconst (v := iV 0) hx hb dX0_quarter_13 (by decide) ?_
    refine lv_goto (tgt := 18) hx hb dX0_quarter_14 (by decide) ?_
    refine lv_istore_n (lv' := [(2, .int (iV 0)), (0, .ref h0), (1, .int (iV cI))]) hx hb dX0_quarter_18 rfl hl (by decide) rfl (fun ls hl => ?_)
    refine lv_iload_n hx hb dX0_quarter_19 rfl (lv_at hl 2 rfl) ?_
    refine lv_bipush (v := iV 9) hx hb dX0_quarter_20 (by decide) ?_
    refine z_idiv hx hb (by omega) (by omega) dX0_quarter_22 ?_
    refine lv_aload_n hx hb dX0_quarter_23 rfl (lv_at hl 1 rfl) ?_
    refine va_get (D := G.1) (ci := 0) (v := .int (iV hI)) (C := RX0) (T := TX0) (N := 3) hx hb hts inX0 hown hK hP 0 rfl rfl 1 (by decide) (hts _ wd_40) (fun _ h9 => h9) rfl dX0_quarter_24 ?_
    refine lv_iconst (v := iV 2) hx hb dX0_quarter_27 (by decide) ?_
    refine z_idiv hx hb (by omega) (by omega) dX0_quarter_28 ?_
    refine z_icmp_ge (tgt := 36) hx hb (by omega) (by omega) dX0_quarter_29 (by decide) (fun c_3 => ?_) (fun c_3 => ?_)
    · refine lv_iconst (v := iV 2) hx hb dX0_quarter_36 (by decide) ?_
      refine lv_istore_n (lv' := [(3, .int (iV 2)), (2, .int (iV 0)), (0, .ref h0), (1, .int (iV cI))]) hx hb dX0_quarter_37 rfl hl (by decide) rfl (fun ls hl => ?_)
      refine lv_iload_n hx hb dX0_quarter_38 rfl (lv_at hl 0 rfl) ?_
      refine lv_iload_n hx hb dX0_quarter_39 rfl (lv_at hl 1 rfl) ?_
      refine z_iadd hx hb dX0_quarter_40 ?_
      refine z_eq (z := gQ wI hI (cI % 9) (cI / 9)) (by unfold gQ; split <;> split <;> omega) ?_
      exact z_ret hx hb hr hlocks hS dX0_quarter_41
    · refine lv_iconst (v := iV 0) hx hb dX0_quarter_32 (by decide) ?_
      refine lv_goto (tgt := 37) hx hb dX0_quarter_33 (by decide) ?_
      refine lv_istore_n (lv' := [(3, .int (iV 0)), (2, .int (iV 0)), (0, .ref h0), (1, .int (iV cI))]) hx hb dX0_quarter_37 rfl hl (by decide) rfl (fun ls hl => ?_)
      refine lv_iload_n hx hb dX0_quarter_38 rfl (lv_at hl 0 rfl) ?_
      refine lv_iload_n hx hb dX0_quarter_39 rfl (lv_at hl 1 rfl) ?_
      refine z_iadd hx hb dX0_quarter_40 ?_
      refine z_eq (z := gQ wI hI (cI % 9) (cI / 9)) (by unfold gQ; split <;> split <;> omega) ?_
      exact z_ret hx hb hr hlocks hS dX0_quarter_41

set_option maxHeartbeats 4000000 in
set_option maxRecDepth 100000 in
theorem c_X0_toneBy (l : Launch) (G : zG) (sz : Nat) (h0 : Nat) (ha : Nat) (wI : Int) (hI : Int) (gI : Nat → Int) (cI : Int) (d : Int) (hG : gOK wI hI gI) (hc : 0 ≤ cI ∧ cI < 81) (hd : 0 ≤ d ∧ d < 8) : Met l yX0_toneBy (Cond.code yX0_toneBy cX0_toneBy 4 (some .int) :: zT) (zRm 3 72) (zPr G [.ref h0, .int (iV cI), .int (iV d)] [(h0, .inr (0, [.int (iV wI), .int (iV hI), .ref ha])), (ha, .inl (G.2.1, 81, .inl (fun k => iV (gI k))))] sz) (zQr (gTone wI hI gI (cI % 9) (cI / 9) d) sz) 0 0 (zF sz) := by
  refine Met.ofW (cc := cX0_toneBy) (maxL := 4) (ret := (some .int)) (by decide) rfl ?_
  intro p e s m args below meth c s₁ B hml hv
  obtain ⟨rfl, hsz, hP, hK, hSt⟩ := hv
  have hx := B.exec
  have hb := B.bytes
  have hr := B.returns
  have hts : ∀ w ∈ zT, w.before _ s = true := fun w h => atoms_spec (ws := (Cond.code yX0_toneBy cX0_toneBy 4 (some .int) :: zT)) B.pre w (List.mem_cons_of_mem _ h)
  have hown : s.vm.findClass RX0 = some m.cls := findClass_of_methodNamed B.named
  have hlocks := B.notSynchronized
  subst hsz
  have hA : ∀ q : Nat, s.heap.size ≤ q → zF s.heap.size q := fun _ h => h
  have hS : va_S (zF s.heap.size) s.heap s.heap [] := va_S.rf
  have hP : va_P G.1 vwCl [(h0, .inr (0, [.int (iV wI), .int (iV hI), .ref ha])), (ha, .inl (G.2.1, 81, .inl (fun k => iV (gI k))))] s.heap := hP
  have X := And.intro hx (And.intro hb (And.intro hml (And.intro hown (And.intro hts (And.intro hK (And.intro hSt hA))))))
  have hl := lv_entry ([.ref h0, .int (iV cI), .int (iV d)]) (n := 4) (Nat.le_of_ble_eq_true rfl)
  rw [lg_entry_eq]
  generalize (lg_sl ([.ref h0, .int (iV cI), .int (iV d)]) ++ List.replicate (4 - (lg_sl ([.ref h0, .int (iV cI), .int (iV d)])).length) Slot.unset).toArray = ls at hl ⊢
  have hl : lv_has ls 4 [(0, .ref h0), (1, .int (iV cI)), (2, .int (iV d))] := hl
  obtain ⟨hW0, hW9, hH0, hH9, hg⟩ := id hG
  have hd8 : d % 8 = d := by omega
  have ht0 := gT0_r hG (cI % 9) (cI / 9) (d % 8).toNat
  obtain ⟨t_1, t_1z, t_1a⟩ := hSt.1
  refine va_getsN hx hb t_1z hS hown (va_Nw.use rfl hSt.2.2.1) (fun _ h9 => h9) dX0_toneBy_0 ?_
  refine lv_iload_n hx hb dX0_toneBy_3 rfl (lv_at hl 2 rfl) ?_
  refine lv_bipush (v := iV 7) hx hb dX0_toneBy_4 (by decide) ?_
  refine z_iand7 hx hb dX0_toneBy_6 ?_
  refine z_ti hx hb t_1a hS (by omega) (by omega) dX0_toneBy_7 ?_
  have f_2 := zR_r (d % 8).toNat
  refine lv_aload_n hx hb dX0_toneBy_8 rfl (lv_at hl 0 rfl) ?_
  refine lv_iload_n hx hb dX0_toneBy_9 rfl (lv_at hl 1 rfl) ?_
  refine z_callV X hP hS hl.1 (c_X0_east l G _ h0 ha wI hI gI cI (by first | assumption | omega) (by first | assumption | omega)) wd_473 kX0_east ⟨rfl, rfl, Nat.le_of_ble_eq_true rfl, Nat.le_of_ble_eq_true rfl⟩ [0, 1] rfl 0 rfl rfl rfl rfl (Nat.le_of_ble_eq_true rfl) dX0_toneBy_10 ⟨Nat.zero_le _, Nat.zero_le _⟩ (fun H locs hP hS => ?_)
  have f_3 := gEast_r hG (cI % 9) (cI / 9)
  refine z_imul hx hb dX0_toneBy_13 ?_
  obtain ⟨t_4, t_4z, t_4a⟩ := hSt.2.1
  refine va_getsN hx hb t_4z hS hown (va_Nw.use rfl hSt.2.2.2) (fun _ h9 => h9) dX0_toneBy_14 ?_
  refine lv_iload_n hx hb dX0_toneBy_17 rfl (lv_at hl 2 rfl) ?_
  refine lv_bipush (v := iV 7) hx hb dX0_toneBy_18 (by decide) ?_
  refine z_iand7 hx hb dX0_toneBy_20 ?_
  refine z_ti hx hb t_4a hS (by omega) (by omega) dX0_toneBy_21 ?_
  have f_5 := zB_r (d % 8).toNat
  refine lv_aload_n hx hb dX0_toneBy_22 rfl (lv_at hl 0 rfl) ?_
  refine lv_iload_n hx hb dX0_toneBy_23 rfl (lv_at hl 1 rfl) ?_
  refine z_callV X hP hS hl.1 (c_X0_south l G _ h0 ha wI hI gI cI (by first | assumption | omega) (by first | assumption | omega)) wd_475 kX0_south ⟨rfl, rfl, Nat.le_of_ble_eq_true rfl, Nat.le_of_ble_eq_true rfl⟩ [0, 1] rfl 0 rfl rfl rfl rfl (Nat.le_of_ble_eq_true rfl) dX0_toneBy_24 ⟨Nat.zero_le _, Nat.zero_le _⟩ (fun H locs hP hS => ?_)
  have f_6 := gSouth_r hG (cI % 9) (cI / 9)
  refine z_imul hx hb dX0_toneBy_27 ?_
  refine z_iadd hx hb dX0_toneBy_28 ?_
  refine z_ineg hx hb dX0_toneBy_29 ?_
  refine lv_istore_n (lv' := [(3, .int (iV (-(((zR (d % 8).toNat) * gEast wI hI gI (cI % 9) (cI / 9)) + ((zB (d % 8).toNat) * gSouth wI hI gI (cI % 9) (cI / 9)))))), (0, .ref h0), (1, .int (iV cI)), (2, .int (iV d))]) hx hb dX0_toneBy_30 rfl hl (by decide) rfl (fun ls hl => ?_)
  refine lv_aload_n hx hb dX0_toneBy_31 rfl (lv_at hl 1 rfl) ?_
  refine lv_iload_n hx hb dX0_toneBy_32 rfl (lv_at hl 2 rfl) ?_
  refine z_callV X hP hS hl.1 (c_X0_isRidge l G _ h0 ha wI hI gI cI (by first | assumption | omega) (by first | assumption | omega)) wd_508 kX0_isRidge ⟨rfl, rfl, Nat.le_of_ble_eq_true rfl, Nat.le_of_ble_eq_true rfl⟩ [0, 1] rfl 0 rfl rfl rfl rfl (Nat.le_of_ble_eq_true rfl) dX0_toneBy_33 ⟨Nat.zero_le _, Nat.zero_le _⟩ (fun H locs hP hS => ?_)
  refine z_ifb_eq (tgt := 45) hx hb dX0_toneBy_36 (by decide) (fun c_7 => ?_) (fun c_7 => ?_)
  · refine lv_aload_n hx hb dX0_toneBy_45 rfl (lv_at hl 1 rfl) ?_
    refine lv_iload_n hx hb dX0_toneBy_46 rfl (lv_at hl 2 rfl) ?_
    refine z_callV X hP hS hl.1 (c_X0_isRiver l G _ h0 ha wI hI gI cI (by first | assumption | omega) (by first | assumption | omega)) wd_512 kX0_isRiver ⟨rfl, rfl, Nat.le_of_ble_eq_true rfl, Nat.le_of_ble_eq_true rfl⟩ [0, 1] rfl 0 rfl rfl rfl rfl (Nat.le_of_ble_eq_true rfl) dX0_toneBy_47 ⟨Nat.zero_le _, Nat.zero_le _⟩ (fun H locs hP hS => ?_)
    refine z_ifb_eq (tgt := 60) hx hb dX0_toneBy_50 (by decide) (fun c_8 => ?_) (fun c_8 => ?_)
    · refine lv_iload_n hx hb dX0_toneBy_60 rfl (lv_at hl 0 rfl) ?_
      refine z_eq (z := gTone wI hI gI (cI % 9) (cI / 9) d) (by rw [hd8]; first | exact (gTone_tt (by assumption) (by assumption)).symm | exact (gTone_tf (by assumption) (by assumption)).symm | exact (gTone_ft (by assumption) (by assumption)).symm | exact (gTone_ff (by assumption) (by assumption)).symm) ?_
      exact z_ret hx hb hr hlocks hS dX0_toneBy_61
    · refine lv_iload_n hx hb dX0_toneBy_53 rfl (lv_at hl 0 rfl) ?_
      refine lv_bipush (v := iV (-4)) hx hb dX0_toneBy_54 (by decide) ?_
      refine z_mmin hx hb (hml.trans hl.1.symm) hown (hts _ wd_513) (hts _ wd_393) (hts _ wd_16) (hts _ wd_394) (Nat.le_of_ble_eq_true rfl) (Nat.le_of_ble_eq_true rfl) (Nat.zero_le _) (Nat.zero_le _) (by omega) ⟨by decide, by decide⟩ dX0_toneBy_56 ?_
      refine lv_istore_n (lv' := [(3, .int (iV (min (-(((zR (d % 8).toNat) * gEast wI hI gI (cI % 9) (cI / 9)) + ((zB (d % 8).toNat) * gSouth wI hI gI (cI % 9) (cI / 9)))) (-4)))), (0, .ref h0), (1, .int (iV cI)), (2, .int (iV d))]) hx hb dX0_toneBy_59 rfl hl (by decide) rfl (fun ls hl => ?_)
      refine lv_iload_n hx hb dX0_toneBy_60 rfl (lv_at hl 0 rfl) ?_
      refine z_eq (z := gTone wI hI gI (cI % 9) (cI / 9) d) (by rw [hd8]; first | exact (gTone_tt (by assumption) (by assumption)).symm | exact (gTone_tf (by assumption) (by assumption)).symm | exact (gTone_ft (by assumption) (by assumption)).symm | exact (gTone_ff (by assumption) (by assumption)).symm) ?_
      exact z_ret hx hb hr hlocks hS dX0_toneBy_61
  · refine lv_iload_n hx hb dX0_toneBy_39 rfl (lv_at hl 0 rfl) ?_
    refine lv_iconst (v := iV 4) hx hb dX0_toneBy_40 (by decide) ?_
    refine z_mmax hx hb (hml.trans hl.1.symm) hown (hts _ wd_509) (hts _ wd_510) (hts _ wd_16) (hts _ wd_511) (Nat.le_of_ble_eq_true rfl) (Nat.le_of_ble_eq_true rfl) (Nat.zero_le _) (Nat.zero_le _) (by omega) ⟨by decide, by decide⟩ dX0_toneBy_41 ?_
    refine lv_istore_n (lv' := [(3, .int (iV (max (-(((zR (d % 8).toNat) * gEast wI hI gI (cI % 9) (cI / 9)) + ((zB (d % 8).toNat) * gSouth wI hI gI (cI % 9) (cI / 9)))) 4))), (0, .ref h0), (1, .int (iV cI)), (2, .int (iV d))]) hx hb dX0_toneBy_44 rfl hl (by decide) rfl (fun ls hl => ?_)
    refine lv_aload_n hx hb dX0_toneBy_45 rfl (lv_at hl 1 rfl) ?_
    refine lv_iload_n hx hb dX0_toneBy_46 rfl (lv_at hl 2 rfl) ?_
    refine z_callV X hP hS hl.1 (c_X0_isRiver l G _ h0 ha wI hI gI cI (by first | assumption | omega) (by first | assumption | omega)) wd_512 kX0_isRiver ⟨rfl, rfl, Nat.le_of_ble_eq_true rfl, Nat.le_of_ble_eq_true rfl⟩ [0, 1] rfl 0 rfl rfl rfl rfl (Nat.le_of_ble_eq_true rfl) dX0_toneBy_47 ⟨Nat.zero_le _, Nat.zero_le _⟩ (fun H locs hP hS => ?_)
    refine z_ifb_eq (tgt := 60) hx hb dX0_toneBy_50 (by decide) (fun c_9 => ?_) (fun c_9 => ?_)
    · refine lv_iload_n hx hb dX0_toneBy_60 rfl (lv_at hl 0 rfl) ?_
      refine z_eq (z := gTone wI hI gI (cI % 9) (cI / 9) d) (by rw [hd8]; first | exact (gTone_tt (by assumption) (by assumption)).symm | exact (gTone_tf (by assumption) (by assumption)).symm | exact (gTone_ft (by assumption) (by assumption)).symm | exact (gTone_ff (by assumption) (by assumption)).symm) ?_
      exact z_ret hx hb hr hlocks hS dX0_toneBy_61
    · refine lv_iload_n hx hb dX0_toneBy_53 rfl (lv_at hl 0 rfl) ?_
      refine lv_bipush (v := iV (-4)) hx hb dX0_toneBy_54 (by decide) ?_
      refine z_mmin hx hb (hml.trans hl.1.symm) hown (hts _ wd_513) (hts _ wd_393) (hts _ wd_16) (hts _ wd_394) (Nat.le_of_ble_eq_true rfl) (Nat.le_of_ble_eq_true rfl) (Nat.zero_le _) (Nat.zero_le _) (by omega) ⟨by decide, by decide⟩ dX0_toneBy_56 ?_
      refine lv_istore_n (lv' := [(3, .int (iV (min (max (-(((zR (d % 8).toNat) * gEast wI hI gI (cI % 9) (cI / 9)) + ((zB (d % 8).toNat) * gSouth wI hI gI (cI % 9) (cI / 9)))) 4) (-4)))), (0, .ref h0), (1, .int (iV cI)), (2, .int (iV d))]) hx hb dX0_toneBy_59 rfl hl (by decide) rfl (fun ls hl => ?_)
      refine lv_iload_n hx hb dX0_toneBy_60 rfl (lv_at hl 0 rfl) ?_
      refine z_eq (z := gTone wI hI gI (cI % 9) (cI / 9) d) (by rw [hd8]; first | exact (gTone_tt (by assumption) (by assumption)).symm | exact (gTone_tf (by assumption) (by assumption)).symm | exact (gTone_ft (by assumption) (by assumption)).symm | exact (gTone_ff (by assumption) (by assumption)).symm) ?_
      exact z_ret hx hb hr hlocks hS dX0_toneBy_61

set_option maxHeartbeats 4000000 in
set_option maxRecDepth 100000 in
theorem c_X0_isOfKind (l : Launch) (G : zG) (sz : Nat) (h0 : Nat) (ha : Nat) (wI : Int) (hI : Int) (gI : Nat → Int) (cI : Int) (kd : Int) (hG : gOK wI hI gI) (hc : 0 ≤ cI ∧ cI < 81) (hk : 0 ≤ kd ∧ kd ≤ 2) : Met l yX0_isOfKind (Cond.code yX0_isOfKind cX0_isOfKind 3 (some .boolean) :: zT) (zRm 3 74) (zPr G [.ref h0, .int (iV cI), .int (iV kd)] [(h0, .inr (0, [.int (iV wI), .int (iV hI), .ref ha])), (ha, .inl (G.2.1, 81, .inl (fun k => iV (gI k))))] sz) (zQr (bP (gKind wI hI gI (cI % 9) (cI / 9) kd)) sz) 0 0 (zF sz) := by
  refine Met.ofW (cc := cX0_isOfKind) (maxL := 3) (ret := (some .boolean)) (by decide) rfl ?_
  intro p e s m args below meth c s₁ B hml hv
  obtain ⟨rfl, hsz, hP, hK, hSt⟩ := hv
  have hx := B.exec
  have hb := B.bytes
  have hr := B.returns
  have hts : ∀ w ∈ zT, w.before _ s = true := fun w h => atoms_spec (ws := (Cond.code yX0_isOfKind cX0_isOfKind 3 (some .boolean) :: zT)) B.pre w (List.mem_cons_of_mem _ h)
  have hown : s.vm.findClass RX0 = some m.cls := findClass_of_methodNamed B.named
  have hlocks := B.notSynchronized
  subst hsz
  have hA : ∀ q : Nat, s.heap.size ≤ q → zF s.heap.size q := fun _ h => h
  have hS : va_S (zF s.heap.size) s.heap s.heap [] := va_S.rf
  have hP : va_P G.1 vwCl [(h0, .inr (0, [.int (iV wI), .int (iV hI), .ref ha])), (ha, .inl (G.2.1, 81, .inl (fun k => iV (gI k))))] s.heap := hP
  have X := And.intro hx (And.intro hb (And.intro hml (And.intro hown (And.intro hts (And.intro hK (And.intro hSt hA))))))
  have hl := lv_entry ([.ref h0, .int (iV cI), .int (iV kd)]) (n := 3) (Nat.le_of_ble_eq_true rfl)
  rw [lg_entry_eq]
  generalize (lg_sl ([.ref h0, .int (iV cI), .int (iV kd)]) ++ List.replicate (3 - (lg_sl ([.ref h0, .int (iV cI), .int (iV kd)])).length) Slot.unset).toArray = ls at hl ⊢
  have hl : lv_has ls 3 [(0, .ref h0), (1, .int (iV cI)), (2, .int (iV kd))] := hl
  obtain ⟨hW0, hW9, hH0, hH9, hg⟩ := id hG
  refine lv_iload_n hx hb dX0_isOfKind_0 rfl (lv_at hl 2 rfl) ?_
  by_cases h_1 : kd = 0
  · refine z_lsw (tgt := 28) (k := 0) (off := 27) hx hb dX0_isOfKind_1 h_1 (by decide) (by decide) ?_
    refine lv_aload_n hx hb dX0_isOfKind_28 rfl (lv_at hl 0 rfl) ?_
    refine lv_iload_n hx hb dX0_isOfKind_29 rfl (lv_at hl 1 rfl) ?_
    refine z_callV X hP hS hl.1 (c_X0_isRidge l G _ h0 ha wI hI gI cI (by first | assumption | omega) (by first | assumption | omega)) wd_508 kX0_isRidge ⟨rfl, rfl, Nat.le_of_ble_eq_true rfl, Nat.le_of_ble_eq_true rfl⟩ [0, 1] rfl 0 rfl rfl rfl rfl (Nat.le_of_ble_eq_true rfl) dX0_isOfKind_30 ⟨Nat.zero_le _, Nat.zero_le _⟩ (fun H locs hP hS => ?_)
    refine z_eq (z := bP (gKind wI hI gI (cI % 9) (cI / 9) kd)) (by unfold gKind; first | rw [if_pos (by assumption)] | (rw [if_neg (by assumption), if_pos (by assumption)]) | (rw [if_neg (by assumption), if_neg (by assumption)]; first | exact (bP_t (by assumption)).symm | exact (bP_f (by assumption)).symm)) ?_
    exact z_retb hx hb hr hlocks hS dX0_isOfKind_33
  by_cases h_2 : kd = 1
  · refine z_lsw (tgt := 34) (k := 1) (off := 33) hx hb dX0_isOfKind_1 h_2 (by decide) (by decide) ?_
    refine lv_aload_n hx hb dX0_isOfKind_34 rfl (lv_at hl 0 rfl) ?_
    refine lv_iload_n hx hb dX0_isOfKind_35 rfl (lv_at hl 1 rfl) ?_
    refine z_callV X hP hS hl.1 (c_X0_isRiver l G _ h0 ha wI hI gI cI (by first | assumption | omega) (by first | assumption | omega)) wd_512 kX0_isRiver ⟨rfl, rfl, Nat.le_of_ble_eq_true rfl, Nat.le_of_ble_eq_true rfl⟩ [0, 1] rfl 0 rfl rfl rfl rfl (Nat.le_of_ble_eq_true rfl) dX0_isOfKind_36 ⟨Nat.zero_le _, Nat.zero_le _⟩ (fun H locs hP hS => ?_)
    refine z_eq (z := bP (gKind wI hI gI (cI % 9) (cI / 9) kd)) (by unfold gKind; first | rw [if_pos (by assumption)] | (rw [if_neg (by assumption), if_pos (by assumption)]) | (rw [if_neg (by assumption), if_neg (by assumption)]; first | exact (bP_t (by assumption)).symm | exact (bP_f (by assumption)).symm)) ?_
    exact z_retb hx hb hr hlocks hS dX0_isOfKind_39
  refine z_lswd (tgt := 40) hx hb (by omega) dX0_isOfKind_1 (by decide) (by simp; omega) (by decide) ?_
  refine lv_aload_n hx hb dX0_isOfKind_40 rfl (lv_at hl 0 rfl) ?_
  refine lv_iload_n hx hb dX0_isOfKind_41 rfl (lv_at hl 1 rfl) ?_
  refine z_callV X hP hS hl.1 (c_X0_downFrom l G _ h0 ha wI hI gI cI (by first | assumption | omega) (by first | assumption | omega)) wd_572 kX0_downFrom ⟨rfl, rfl, Nat.le_of_ble_eq_true rfl, Nat.le_of_ble_eq_true rfl⟩ [0, 1] rfl 0 rfl rfl rfl rfl (Nat.le_of_ble_eq_true rfl) dX0_isOfKind_42 ⟨Nat.zero_le _, Nat.zero_le _⟩ (fun H locs hP hS => ?_)
  have f_3 := gDown_r hG (cI % 9) (cI / 9)
  refine lv_iconst (v := iV (-1)) hx hb dX0_isOfKind_45 (by decide) ?_
  refine z_icmp_ne (tgt := 53) hx hb (by omega) ⟨by decide, by decide⟩ dX0_isOfKind_46 (by decide) (fun c_4 => ?_) (fun c_4 => ?_)
  · refine lv_iconst (v := iV 0) hx hb dX0_isOfKind_53 (by decide) ?_
    refine z_eq (z := bP (gKind wI hI gI (cI % 9) (cI / 9) kd)) (by unfold gKind; first | rw [if_pos (by assumption)] | (rw [if_neg (by assumption), if_pos (by assumption)]) | (rw [if_neg (by assumption), if_neg (by assumption)]; first | exact (bP_t (by assumption)).symm | exact (bP_f (by assumption)).symm)) ?_
    exact z_retb hx hb hr hlocks hS dX0_isOfKind_54
  · refine lv_iconst (v := iV 1) hx hb dX0_isOfKind_49 (by decide) ?_
    refine lv_goto (tgt := 54) hx hb dX0_isOfKind_50 (by decide) ?_
    refine z_eq (z := bP (gKind wI hI gI (cI % 9) (cI / 9) kd)) (by unfold gKind; first | rw [if_pos (by assumption)] | (rw [if_neg (by assumption), if_pos (by assumption)]) | (rw [if_neg (by assumption), if_neg (by assumption)]; first | exact (bP_t (by assumption)).symm | exact (bP_f (by assumption)).symm)) ?_
    exact z_retb hx hb hr hlocks hS dX0_isOfKind_54

set_option maxHeartbeats 4000000 in
set_option maxRecDepth 100000 in
theorem c_X0_cellsOfKind (l : Launch) (G : zG) (sz : Nat) (h0 : Nat) (ha : Nat) (wI : Int) (hI : Int) (gI : Nat → Int) (kd : Int) (hG : gOK wI hI gI) (hk : 0 ≤ kd ∧ kd ≤ 2) : Met l yX0_cellsOfKind (Cond.code yX0_cellsOfKind cX0_cellsOfKind 4 (some .int) :: zT) (zRm 4 96) (zPr G [.ref h0, .int (iV kd)] [(h0, .inr (0, [.int (iV wI), .int (iV hI), .ref ha])), (ha, .inl (G.2.1, 81, .inl (fun k => iV (gI k))))] sz) (zQr (sumN (fun k => bP (gIn wI hI (Nat.cast k : Int) ∧ gKind wI hI gI ((Nat.cast k : Int) % 9) ((Nat.cast k : Int) / 9) kd)) 81) sz) 0 0 (zF sz) := by
  refine Met.ofW (cc := cX0_cellsOfKind) (maxL := 4) (ret := (some .int)) (by decide) rfl ?_
  intro p e s m args below meth c s₁ B hml hv
  obtain ⟨rfl, hsz, hP, hK, hSt⟩ := hv
  have hx := B.exec
  have hb := B.bytes
  have hr := B.returns
  have hts : ∀ w ∈ zT, w.before _ s = true := fun w h => atoms_spec (ws := (Cond.code yX0_cellsOfKind cX0_cellsOfKind 4 (some .int) :: zT)) B.pre w (List.mem_cons_of_mem _ h)
  have hown : s.vm.findClass RX0 = some m.cls := findClass_of_methodNamed B.named
  have hlocks := B.notSynchronized
  subst hsz
  have hA : ∀ q : Nat, s.heap.size ≤ q → zF s.heap.size q := fun _ h => h
  have hS : va_S (zF s.heap.size) s.heap s.heap [] := va_S.rf
  have hP : va_P G.1 vwCl [(h0, .inr (0, [.int (iV wI), .int (iV hI), .ref ha])), (ha, .inl (G.2.1, 81, .inl (fun k => iV (gI k))))] s.heap := hP
  have X := And.intro hx (And.intro hb (And.intro hml (And.intro hown (And.intro hts (And.intro hK (And.intro hSt hA))))))
  have hl := lv_entry ([.ref h0, .int (iV kd)]) (n := 4) (Nat.le_of_ble_eq_true rfl)
  rw [lg_entry_eq]
  generalize (lg_sl ([.ref h0, .int (iV kd)]) ++ List.replicate (4 - (lg_sl ([.ref h0, .int (iV kd)])).length) Slot.unset).toArray = ls at hl ⊢
  have hl : lv_has ls 4 [(0, .ref h0), (1, .int (iV kd))] := hl
  obtain ⟨hW0, hW9, hH0, hH9, hg⟩ := id hG
  refine lv_iconst (v := iV 0) hx hb dX0_cellsOfKind_0 (by decide) ?_
  refine lv_istore_n (lv' := [(2, .int (iV 0)), (0, .ref h0), (1, .int (iV kd))]) hx hb dX0_cellsOfKind_1 rfl hl (by decide) rfl (fun ls hl => ?_)
  refine lv_iconst (v := iV 0) hx hb dX0_cellsOfKind_2 (by decide) ?_
  refine lv_istore_n (lv' := [(3, .int (iV 0)), (2, .int (iV 0)), (0, .ref h0), (1, .int (iV kd))]) hx hb dX0_cellsOfKind_3 rfl hl (by decide) rfl (fun ls hl => ?_)
  have lp_4 : ∀ (k : Nat) (n : Nat) , (n ≤ 81) → (81 - n) < k → ∀ (H : Heap) (locs : List Loc), va_P G.1 vwCl [(h0, .inr (0, [.int (iV wI), .int (iV hI), .ref ha])), (ha, .inl (G.2.1, 81, .inl (fun k => iV (gI k))))] H → va_S (zF s.heap.size) s.heap H locs → ∀ ls : Array Slot, lv_has ls 4 [(0, .ref h0), (1, .int (iV kd)), (2, .int (iV (sumN (fun k => bP (gIn wI hI (Nat.cast k : Int) ∧ gKind wI hI gI ((Nat.cast k : Int) % 9) ((Nat.cast k : Int) / 9) kd)) n))), (3, .int (iV (Nat.cast n : Int)))] → W p l e (headSpec (Cond.code yX0_cellsOfKind cX0_cellsOfKind 4 (some .int) :: zT) (zRm 4 96)).room s m ([Value.ref h0, Value.int (iV kd)] : List Value).toArray below meth c H locs 0 0 (MQ below (zQr (sumN (fun k => bP (gIn wI hI (Nat.cast k : Int) ∧ gKind wI hI gI ((Nat.cast k : Int) % 9) ((Nat.cast k : Int) / 9) kd)) 81) s.heap.size) ([Value.ref h0, Value.int (iV kd)] : List Value).toArray s 0 0 (zF s.heap.size)) (F0 m 4 ls []) := by
    intro k
    induction k with
    | zero => intro n hn hk_; exact absurd hk_ (Nat.not_lt_zero _)
    | succ k ih_4 =>
      intro n hn hk_4 H locs hP hS ls hl
      refine lv_iload_n hx hb dX0_cellsOfKind_4 rfl (lv_at hl 3 rfl) ?_
      refine lv_bipush (v := iV 81) hx hb dX0_cellsOfKind_5 (by decide) ?_
      refine z_icmp_ge (tgt := 36) hx hb (by omega) ⟨by decide, by decide⟩ dX0_cellsOfKind_7 (by decide) (fun c_1 => ?_) (fun c_1 => ?_)
      · refine lv_iload_n hx hb dX0_cellsOfKind_36 rfl (lv_at hl 2 rfl) ?_
        refine z_eq (z := sumN (fun k => bP (gIn wI hI (Nat.cast k : Int) ∧ gKind wI hI gI ((Nat.cast k : Int) % 9) ((Nat.cast k : Int) / 9) kd)) 81) (by have h8 : n = 81 := (by omega); subst h8; rfl) ?_
        exact z_ret hx hb hr hlocks hS dX0_cellsOfKind_37
      · refine lv_aload_n hx hb dX0_cellsOfKind_10 rfl (lv_at hl 0 rfl) ?_
        refine lv_iload_n hx hb dX0_cellsOfKind_11 rfl (lv_at hl 3 rfl) ?_
        refine z_callV X hP hS hl.1 (c_X0_hasNumber l G _ h0 ha wI hI gI (Nat.cast n : Int) (by first | assumption | omega) (by first | assumption | omega)) wd_585 kX0_hasNumber ⟨rfl, rfl, Nat.le_of_ble_eq_true rfl, Nat.le_of_ble_eq_true rfl⟩ [0, 1] rfl 0 rfl rfl rfl rfl (Nat.le_of_ble_eq_true rfl) dX0_cellsOfKind_12 ⟨Nat.zero_le _, Nat.zero_le _⟩ (fun H locs hP hS => ?_)
        refine z_ifb_eq (tgt := 30) hx hb dX0_cellsOfKind_15 (by decide) (fun c_2 => ?_) (fun c_2 => ?_)
        · refine z_iinc (lv' := [(3, .int (iV ((Nat.cast n : Int) + 1))), (0, .ref h0), (1, .int (iV kd)), (2, .int (iV (sumN (fun k => bP (gIn wI hI (Nat.cast k : Int) ∧ gKind wI hI gI ((Nat.cast k : Int) % 9) ((Nat.cast k : Int) / 9) kd)) n)))]) hx hb dX0_cellsOfKind_30 hl (k := 3) rfl (by decide) rfl (fun ls hl => ?_)
          refine lv_goto (tgt := 4) hx hb dX0_cellsOfKind_33 (by decide) ?_
          exact ih_4 (n + 1) (by first | assumption | omega) (by omega) _ _ hP hS _ (lv_cons (lv_at hl 1 rfl) (lv_cons (lv_at hl 2 rfl) (lv_cons (lv_i hl 3 rfl (by first | rfl | omega | exact sumN_t (P := fun k => gIn wI hI (Nat.cast k : Int) ∧ gKind wI hI gI ((Nat.cast k : Int) % 9) ((Nat.cast k : Int) / 9) kd) ⟨by assumption, by assumption⟩ | exact sumN_f (P := fun k => gIn wI hI (Nat.cast k : Int) ∧ gKind wI hI gI ((Nat.cast k : Int) % 9) ((Nat.cast k : Int) / 9) kd) (fun h => by first | exact absurd h.1 (by assumption) | exact absurd h.2 (by assumption)))) (lv_cons (lv_i hl 0 rfl (by first | rfl | omega | exact sumN_t (P := fun k => gIn wI hI (Nat.cast k : Int) ∧ gKind wI hI gI ((Nat.cast k : Int) % 9) ((Nat.cast k : Int) / 9) kd) ⟨by assumption, by assumption⟩ | exact sumN_f (P := fun k => gIn wI hI (Nat.cast k : Int) ∧ gKind wI hI gI ((Nat.cast k : Int) % 9) ((Nat.cast k : Int) / 9) kd) (fun h => by first | exact absurd h.1 (by assumption) | exact absurd h.2 (by assumption)))) (lv_nil hl)))))
        · refine lv_aload_n hx hb dX0_cellsOfKind_18 rfl (lv_at hl 0 rfl) ?_
          refine lv_iload_n hx hb dX0_cellsOfKind_19 rfl (lv_at hl 3 rfl) ?_
          refine lv_iload_n hx hb dX0_cellsOfKind_20 rfl (lv_at hl 1 rfl) ?_
          refine z_callV X hP hS hl.1 (c_X0_isOfKind l G _ h0 ha wI hI gI (Nat.cast n : Int) kd (by first | assumption | omega) (by first | assumption | omega) (by first | assumption | omega)) wd_736 kX0_isOfKind ⟨rfl, rfl, Nat.le_of_ble_eq_true rfl, Nat.le_of_ble_eq_true rfl⟩ [0, 1] rfl 0 rfl rfl rfl rfl (Nat.le_of_ble_eq_true rfl) dX0_cellsOfKind_21 ⟨Nat.zero_le _, Nat.zero_le _⟩ (fun H locs hP hS => ?_)
          refine z_ifb_eq (tgt := 30) hx hb dX0_cellsOfKind_24 (by decide) (fun c_3 => ?_) (fun c_3 => ?_)
          · refine z_iinc (lv' := [(3, .int (iV ((Nat.cast n : Int) + 1))), (0, .ref h0), (1, .int (iV kd)), (2, .int (iV (sumN (fun k => bP (gIn wI hI (Nat.cast k : Int) ∧ gKind wI hI gI ((Nat.cast k : Int) % 9) ((Nat.cast k : Int) / 9) kd)) n)))]) hx hb dX0_cellsOfKind_30 hl (k := 3) rfl (by decide) rfl (fun ls hl => ?_)
            refine lv_goto (tgt := 4) hx hb dX0_cellsOfKind_33 (by decide) ?_
            exact ih_4 (n + 1) (by first | assumption | omega) (by omega) _ _ hP hS _ (lv_cons (lv_at hl 1 rfl) (lv_cons (lv_at hl 2 rfl) (lv_cons (lv_i hl 3 rfl (by first | rfl | omega | exact sumN_t (P := fun k => gIn wI hI (Nat.cast k : Int) ∧ gKind wI hI gI ((Nat.cast k : Int) % 9) ((Nat.cast k : Int) / 9) kd) ⟨by assumption, by assumption⟩ | exact sumN_f (P := fun k => gIn wI hI (Nat.cast k : Int) ∧ gKind wI hI gI ((Nat.cast k : Int) % 9) ((Nat.cast k : Int) / 9) kd) (fun h => by first | exact absurd h.1 (by assumption) | exact absurd h.2 (by assumption)))) (lv_cons (lv_i hl 0 rfl (by first | rfl | omega | exact sumN_t (P := fun k => gIn wI hI (Nat.cast k : Int) ∧ gKind wI hI gI ((Nat.cast k : Int) % 9) ((Nat.cast k : Int) / 9) kd) ⟨by assumption, by assumption⟩ | exact sumN_f (P := fun k => gIn wI hI (Nat.cast k : Int) ∧ gKind wI hI gI ((Nat.cast k : Int) % 9) ((Nat.cast k : Int) / 9) kd) (fun h => by first | exact absurd h.1 (by assumption) | exact absurd h.2 (by assumption)))) (lv_nil hl)))))
          · refine z_iinc (lv' := [(2, .int (iV (sumN (fun k => bP (gIn wI hI (Nat.cast k : Int) ∧ gKind wI hI gI ((Nat.cast k : Int) % 9) ((Nat.cast k : Int) / 9) kd)) n + 1))), (0, .ref h0), (1, .int (iV kd)), (3, .int (iV (Nat.cast n : Int)))]) hx hb dX0_cellsOfKind_27 hl (k := 2) rfl (by decide) rfl (fun ls hl => ?_)
            refine z_iinc (lv' := [(3, .int (iV ((Nat.cast n : Int) + 1))), (2, .int (iV (sumN (fun k => bP (gIn wI hI (Nat.cast k : Int) ∧ gKind wI hI gI ((Nat.cast k : Int) % 9) ((Nat.cast k : Int) / 9) kd)) n + 1))), (0, .ref h0), (1, .int (iV kd))]) hx hb dX0_cellsOfKind_30 hl (k := 3) rfl (by decide) rfl (fun ls hl => ?_)
            refine lv_goto (tgt := 4) hx hb dX0_cellsOfKind_33 (by decide) ?_
            exact ih_4 (n + 1) (by first | assumption | omega) (by omega) _ _ hP hS _ (lv_cons (lv_at hl 2 rfl) (lv_cons (lv_at hl 3 rfl) (lv_cons (lv_i hl 1 rfl (by first | rfl | omega | exact sumN_t (P := fun k => gIn wI hI (Nat.cast k : Int) ∧ gKind wI hI gI ((Nat.cast k : Int) % 9) ((Nat.cast k : Int) / 9) kd) ⟨by assumption, by assumption⟩ | exact sumN_f (P := fun k => gIn wI hI (Nat.cast k : Int) ∧ gKind wI hI gI ((Nat.cast k : Int) % 9) ((Nat.cast k : Int) / 9) kd) (fun h => by first | exact absurd h.1 (by assumption) | exact absurd h.2 (by assumption)))) (lv_cons (lv_i hl 0 rfl (by first | rfl | omega | exact sumN_t (P := fun k => gIn wI hI (Nat.cast k : Int) ∧ gKind wI hI gI ((Nat.cast k : Int) % 9) ((Nat.cast k : Int) / 9) kd) ⟨by assumption, by assumption⟩ | exact sumN_f (P := fun k => gIn wI hI (Nat.cast k : Int) ∧ gKind wI hI gI ((Nat.cast k : Int) % 9) ((Nat.cast k : Int) / 9) kd) (fun h => by first | exact absurd h.1 (by assumption) | exact absurd h.2 (by assumption)))) (lv_nil hl)))))
  exact lp_4 _ 0 (by first | assumption | omega) (Nat.lt_succ_self _) _ _ hP hS _ (lv_cons (lv_at hl 2 rfl) (lv_cons (lv_at hl 3 rfl) (lv_cons (lv_i hl 1 rfl (by first | rfl | omega | exact sumN_t (P := fun k => gIn wI hI (Nat.cast k : Int) ∧ gKind wI hI gI ((Nat.cast k : Int) % 9) ((Nat.cast k : Int) / 9) kd) ⟨by assumption, by assumption⟩ | exact sumN_f (P := fun k => gIn wI hI (Nat.cast k : Int) ∧ gKind wI hI gI ((Nat.cast k : Int) % 9) ((Nat.cast k : Int) / 9) kd) (fun h => by first | exact absurd h.1 (by assumption) | exact absurd h.2 (by assumption)))) (lv_cons (lv_i hl 0 rfl (by first | rfl | omega | exact sumN_t (P := fun k => gIn wI hI (Nat.cast k : Int) ∧ gKind wI hI gI ((Nat.cast k : Int) % 9) ((Nat.cast k : Int) / 9) kd) ⟨by assumption, by assumption⟩ | exact sumN_f (P := fun k => gIn wI hI (Nat.cast k : Int) ∧ gKind wI hI gI ((Nat.cast k : Int) % 9) ((Nat.cast k : Int) / 9) kd) (fun h => by first | exact absurd h.1 (by assumption) | exact absurd h.2 (by assumption)))) (lv_nil hl)))))

set_option maxHeartbeats 4000000 in
set_option maxRecDepth 100000 in
theorem c_X0_contrastOf (l : Launch) (G : zG) (sz : Nat) (h0 : Nat) (ha : Nat) (wI : Int) (hI : Int) (gI : Nat → Int) (q : Int) (d : Int) (hG : gOK wI hI gI) (hq : 0 ≤ q ∧ q < 4) (hd : 0 ≤ d ∧ d < 8) : Met l yX0_contrastOf (Cond.code yX0_contrastOf cX0_contrastOf 7 (some .int) :: zT) (zRm 4 95) (zPr G [.ref h0, .int (iV q), .int (iV d)] [(h0, .inr (0, [.int (iV wI), .int (iV hI), .ref ha])), (ha, .inl (G.2.1, 81, .inl (fun k => iV (gI k))))] sz) (zQr (gContrast wI hI gI q d) sz) 0 0 (zF sz) := by
  refine Met.ofW (cc := cX0_contrastOf) (maxL := 7) (ret := (some .int)) (by decide) rfl ?_
  intro p e s m args below meth c s₁ B hml hv
  obtain ⟨rfl, hsz, hP, hK, hSt⟩ := hv
  have hx := B.exec
  have hb := B.bytes
  have hr := B.returns
  have hts : ∀ w ∈ zT, w.before _ s = true := fun w h => atoms_spec (ws := (Cond.code yX0_contrastOf cX0_contrastOf 7 (some .int) :: zT)) B.pre w (List.mem_cons_of_mem _ h)
  have hown : s.vm.findClass RX0 = some m.cls := findClass_of_methodNamed B.named
  have hlocks := B.notSynchronized
  subst hsz
  have hA : ∀ q : Nat, s.heap.size ≤ q → zF s.heap.size q := fun _ h => h
  have hS : va_S (zF s.heap.size) s.heap s.heap [] := va_S.rf
  have hP : va_P G.1 vwCl [(h0, .inr (0, [.int (iV wI), .int (iV hI), .ref ha])), (ha, .inl (G.2.1, 81, .inl (fun k => iV (gI k))))] s.heap := hP
  have X := And.intro hx (And.intro hb (And.intro hml (And.intro hown (And.intro hts (And.intro hK (And.intro hSt hA))))))
  have hl := lv_entry ([.ref h0, .int (iV q), .int (iV d)]) (n := 7) (Nat.le_of_ble_eq_true rfl)
  rw [lg_entry_eq]
  generalize (lg_sl ([.ref h0, .int (iV q), .int (iV d)]) ++ List.replicate (7 - (lg_sl ([.ref h0, .int (iV q), .int (iV d)])).length) Slot.unset).toArray = ls at hl ⊢
  have hl : lv_has ls 7 [(0, .ref h0), (1, .int (iV q)), (2, .int (iV d))] := hl
  obtain ⟨hW0, hW9, hH0, hH9, hg⟩ := id hG
  refine lv_bipush (v := iV 18) hx hb dX0_contrastOf_0 (by decide) ?_
  refine lv_istore_n (lv' := [(3, .int (iV 18)), (0, .ref h0), (1, .int (iV q)), (2, .int (iV d))]) hx hb dX0_contrastOf_2 rfl hl (by decide) rfl (fun ls hl => ?_)
  refine lv_bipush (v := iV (-18)) hx hb dX0_contrastOf_3 (by decide) ?_
  refine lv_istore (lv' := [(4, .int (iV (-18))), (3, .int (iV 18)), (0, .ref h0), (1, .int (iV q)), (2, .int (iV d))]) hx hb dX0_contrastOf_5 hl (by decide) rfl (fun ls hl => ?_)
  refine lv_iconst (v := iV 0) hx hb dX0_contrastOf_7 (by decide) ?_
  refine lv_istore (lv' := [(5, .int (iV 0)), (4, .int (iV (-18))), (3, .int (iV 18)), (0, .ref h0), (1, .int (iV q)), (2, .int (iV d))]) hx hb dX0_contrastOf_8 hl (by decide) rfl (fun ls hl => ?_)
  have lp_10 : ∀ (k : Nat) (n : Nat) , (n ≤ 81) → (81 - n) < k → ∀ (H : Heap) (locs : List Loc), va_P G.1 vwCl [(h0, .inr (0, [.int (iV wI), .int (iV hI), .ref ha])), (ha, .inl (G.2.1, 81, .inl (fun k => iV (gI k))))] H → va_S (zF s.heap.size) s.heap H locs → ∀ ls : Array Slot, lv_has ls 7 [(0, .ref h0), (1, .int (iV q)), (2, .int (iV d)), (3, .int (iV ((gCo wI hI gI q d (fun x y => gTone wI hI gI x y d) n).1))), (4, .int (iV ((gCo wI hI gI q d (fun x y => gTone wI hI gI x y d) n).2))), (5, .int (iV (Nat.cast n : Int)))] → W p l e (headSpec (Cond.code yX0_contrastOf cX0_contrastOf 7 (some .int) :: zT) (zRm 4 95)).room s m ([Value.ref h0, Value.int (iV q), Value.int (iV d)] : List Value).toArray below meth c H locs 0 0 (MQ below (zQr (gContrast wI hI gI q d) s.heap.size) ([Value.ref h0, Value.int (iV q), Value.int (iV d)] : List Value).toArray s 0 0 (zF s.heap.size)) (F0 m 10 ls []) := by
    intro k
    induction k with
    | zero => intro n hn hk_; exact absurd hk_ (Nat.not_lt_zero _)
    | succ k ih_10 =>
      intro n hn hk_10 H locs hP hS ls hl
      have hco := gCo_r (W := wI) (H := hI) (g := gI) (q := q) (d := d) (tn := fun x y => gTone wI hI gI x y d) (fun x y => gTone_r hG x y d) n
      refine lv_iload hx hb dX0_contrastOf_10 (lv_at hl 5 rfl) ?_
      refine lv_bipush (v := iV 81) hx hb dX0_contrastOf_12 (by decide) ?_
      refine z_icmp_ge (tgt := 67) hx hb (by omega) ⟨by decide, by decide⟩ dX0_contrastOf_14 (by decide) (fun c_1 => ?_) (fun c_1 => ?_)
      · refine lv_iload hx hb dX0_contrastOf_67 (lv_at hl 4 rfl) ?_
        refine lv_iload_n hx hb dX0_contrastOf_69 rfl (lv_at hl 3 rfl) ?_
        refine z_isub hx hb dX0_contrastOf_70 ?_
        refine z_eq (z := gContrast wI hI gI q d) (by have h8 : n = 81 := (by omega); subst h8; rfl) ?_
        exact z_ret hx hb hr hlocks hS dX0_contrastOf_71
      · refine lv_aload_n hx hb dX0_contrastOf_17 rfl (lv_at hl 0 rfl) ?_
        refine lv_iload hx hb dX0_contrastOf_18 (lv_at hl 5 rfl) ?_
        refine z_callV X hP hS hl.1 (c_X0_hasNumber l G _ h0 ha wI hI gI (Nat.cast n : Int) (by first | assumption | omega) (by first | assumption | omega)) wd_585 kX0_hasNumber ⟨rfl, rfl, Nat.le_of_ble_eq_true rfl, Nat.le_of_ble_eq_true rfl⟩ [0, 1] rfl 0 rfl rfl rfl rfl (Nat.le_of_ble_eq_true rfl) dX0_contrastOf_20 ⟨Nat.zero_le _, Nat.zero_le _⟩ (fun H locs hP hS => ?_)
        refine z_ifb_eq (tgt := 61) hx hb dX0_contrastOf_23 (by decide) (fun c_2 => ?_) (fun c_2 => ?_)
        · refine z_iinc (lv' := [(5, .int (iV ((Nat.cast n : Int) + 1))), (0, .ref h0), (1, .int (iV q)), (2, .int (iV d)), (3, .int (iV ((gCo wI hI gI q d (fun x y => gTone wI hI gI x y d) n).1))), (4, .int (iV ((gCo wI hI gI q d (fun x y => gTone wI hI gI x y d) n).2)))]) hx hb dX0_contrastOf_61 hl (k := 5) rfl (by decide) rfl (fun ls hl => ?_)
          refine lv_goto (tgt := 10) hx hb dX0_contrastOf_64 (by decide) ?_
          exact ih_10 (n + 1) (by first | assumption | omega) (by omega) _ _ hP hS _ (lv_cons (lv_at hl 1 rfl) (lv_cons (lv_at hl 2 rfl) (lv_cons (lv_at hl 3 rfl) (lv_cons (lv_i hl 4 rfl (by first | rfl | omega | (simp only [gCo]; split <;> first | rfl | omega))) (lv_cons (lv_i hl 5 rfl (by first | rfl | omega | (simp only [gCo]; split <;> first | rfl | omega))) (lv_cons (lv_i hl 0 rfl (by first | rfl | omega | (simp only [gCo]; split <;> first | rfl | omega))) (lv_nil hl)))))))
        · refine lv_aload_n hx hb dX0_contrastOf_26 rfl (lv_at hl 0 rfl) ?_
          refine lv_iload hx hb dX0_contrastOf_27 (lv_at hl 5 rfl) ?_
          refine z_callV X hP hS hl.1 (c_X0_quarter l G _ h0 ha wI hI gI (Nat.cast n : Int) (by first | assumption | omega) (by first | assumption | omega)) wd_595 kX0_quarter ⟨rfl, rfl, Nat.le_of_ble_eq_true rfl, Nat.le_of_ble_eq_true rfl⟩ [0, 1] rfl 0 rfl rfl rfl rfl (Nat.le_of_ble_eq_true rfl) dX0_contrastOf_29 ⟨Nat.zero_le _, Nat.zero_le _⟩ (fun H locs hP hS => ?_)
          have f_3 := gQ_r wI hI ((Nat.cast n : Int) % 9) ((Nat.cast n : Int) / 9)
          refine lv_iload_n hx hb dX0_contrastOf_32 rfl (lv_at hl 1 rfl) ?_
          refine z_icmp_ne (tgt := 61) hx hb (by omega) (by omega) dX0_contrastOf_33 (by decide) (fun c_4 => ?_) (fun c_4 => ?_)
          · refine z_iinc (lv' := [(5, .int (iV ((Nat.cast n : Int) + 1))), (0, .ref h0), (1, .int (iV q)), (2, .int (iV d)), (3, .int (iV ((gCo wI hI gI q d (fun x y => gTone wI hI gI x y d) n).1))), (4, .int (iV ((gCo wI hI gI q d (fun x y => gTone wI hI gI x y d) n).2)))]) hx hb dX0_contrastOf_61 hl (k := 5) rfl (by decide) rfl (fun ls hl => ?_)
            refine lv_goto (tgt := 10) hx hb dX0_contrastOf_64 (by decide) ?_
            exact ih_10 (n + 1) (by first | assumption | omega) (by omega) _ _ hP hS _ (lv_cons (lv_at hl 1 rfl) (lv_cons (lv_at hl 2 rfl) (lv_cons (lv_at hl 3 rfl) (lv_cons (lv_i hl 4 rfl (by first | rfl | omega | (simp only [gCo]; split <;> first | rfl | omega))) (lv_cons (lv_i hl 5 rfl (by first | rfl | omega | (simp only [gCo]; split <;> first | rfl | omega))) (lv_cons (lv_i hl 0 rfl (by first | rfl | omega | (simp only [gCo]; split <;> first | rfl | omega))) (lv_nil hl)))))))
          · refine lv_aload_n hx hb dX0_contrastOf_36 rfl (lv_at hl 0 rfl) ?_
            refine lv_iload hx hb dX0_contrastOf_37 (lv_at hl 5 rfl) ?_
            refine lv_iload_n hx hb dX0_contrastOf_39 rfl (lv_at hl 2 rfl) ?_
            refine z_callV X hP hS hl.1 (c_X0_toneBy l G _ h0 ha wI hI gI (Nat.cast n : Int) d (by first | assumption | omega) (by first | assumption | omega) (by first | assumption | omega)) wd_596 kX0_toneBy ⟨rfl, rfl, Nat.le_of_ble_eq_true rfl, Nat.le_of_ble_eq_true rfl⟩ [0, 1] rfl 0 rfl rfl rfl rfl (Nat.le_of_ble_eq_true rfl) dX0_contrastOf_40 ⟨Nat.zero_le _, Nat.zero_le _⟩ (fun H locs hP hS => ?_)
            have f_5 := gTone_r hG ((Nat.cast n : Int) % 9) ((Nat.cast n : Int) / 9) d
            refine lv_istore (lv' := [(6, .int (iV (gTone wI hI gI ((Nat.cast n : Int) % 9) ((Nat.cast n : Int) / 9) d))), (0, .ref h0), (1, .int (iV q)), (2, .int (iV d)), (3, .int (iV ((gCo wI hI gI q d (fun x y => gTone wI hI gI x y d) n).1))), (4, .int (iV ((gCo wI hI gI q d (fun x y => gTone wI hI gI x y d) n).2))), (5, .int (iV (Nat.cast n : Int)))]) hx hb dX0_contrastOf_43 hl (by decide) rfl (fun ls hl => ?_)
            refine lv_iload_n hx hb dX0_contrastOf_45 rfl (lv_at hl 4 rfl) ?_
            refine lv_iload hx hb dX0_contrastOf_46 (lv_at hl 0 rfl) ?_
            refine z_mmin hx hb (hml.trans hl.1.symm) hown (hts _ wd_513) (hts _ wd_393) (hts _ wd_16) (hts _ wd_394) (Nat.le_of_ble_eq_true rfl) (Nat.le_of_ble_eq_true rfl) (Nat.zero_le _) (Nat.zero_le _) (by omega) (by omega) dX0_contrastOf_48 ?_
            refine lv_istore_n (lv' := [(3, .int (iV (min ((gCo wI hI gI q d (fun x y => gTone wI hI gI x y d) n).1) (gTone wI hI gI ((Nat.cast n : Int) % 9) ((Nat.cast n : Int) / 9) d)))), (6, .int (iV (gTone wI hI gI ((Nat.cast n : Int) % 9) ((Nat.cast n : Int) / 9) d))), (0, .ref h0), (1, .int (iV q)), (2, .int (iV d)), (4, .int (iV ((gCo wI hI gI q d (fun x y => gTone wI hI gI x y d) n).2))), (5, .int (iV (Nat.cast n : Int)))]) hx hb dX0_contrastOf_51 rfl hl (by decide) rfl (fun ls hl => ?_)
            refine lv_iload hx hb dX0_contrastOf_52 (lv_at hl 5 rfl) ?_
            refine lv_iload hx hb dX0_contrastOf_54 (lv_at hl 1 rfl) ?_
            refine z_mmax hx hb (hml.trans hl.1.symm) hown (hts _ wd_509) (hts _ wd_510) (hts _ wd_16) (hts _ wd_511) (Nat.le_of_ble_eq_true rfl) (Nat.le_of_ble_eq_true rfl) (Nat.zero_le _) (Nat.zero_le _) (by omega) (by omega) dX0_contrastOf_56 ?_
            refine lv_istore (lv' := [(4, .int (iV (max ((gCo wI hI gI q d (fun x y => gTone wI hI gI x y d) n).2) (gTone wI hI gI ((Nat.cast n : Int) % 9) ((Nat.cast n : Int) / 9) d)))), (3, .int (iV (min ((gCo wI hI gI q d (fun x y => gTone wI hI gI x y d) n).1) (gTone wI hI gI ((Nat.cast n : Int) % 9) ((Nat.cast n : Int) / 9) d)))), (6, .int (iV (gTone wI hI gI ((Nat.cast n : Int) % 9) ((Nat.cast n : Int) / 9) d))), (0, .ref h0), (1, .int (iV q)), (2, .int (iV d)), (5, .int (iV (Nat.cast n : Int)))]) hx hb dX0_contrastOf_59 hl (by decide) rfl (fun ls hl => ?_)
            refine z_iinc (lv' := [(5, .int (iV ((Nat.cast n : Int) + 1))), (4, .int (iV (max ((gCo wI hI gI q d (fun x y => gTone wI hI gI x y d) n).2) (gTone wI hI gI ((Nat.cast n : Int) % 9) ((Nat.cast n : Int) / 9) d)))), (3, .int (iV (min ((gCo wI hI gI q d (fun x y => gTone wI hI gI x y d) n).1) (gTone wI hI gI ((Nat.cast n : Int) % 9) ((Nat.cast n : Int) / 9) d)))), (6, .int (iV (gTone wI hI gI ((Nat.cast n : Int) % 9) ((Nat.cast n : Int) / 9) d))), (0, .ref h0), (1, .int (iV q)), (2, .int (iV d))]) hx hb dX0_contrastOf_61 hl (k := 6) rfl (by decide) rfl (fun ls hl => ?_)
            refine lv_goto (tgt := 10) hx hb dX0_contrastOf_64 (by decide) ?_
            exact ih_10 (n + 1) (by first | assumption | omega) (by omega) _ _ hP hS _ (lv_cons (lv_at hl 4 rfl) (lv_cons (lv_at hl 5 rfl) (lv_cons (lv_at hl 6 rfl) (lv_cons (lv_i hl 2 rfl (by first | rfl | omega | (simp only [gCo]; split <;> first | rfl | omega))) (lv_cons (lv_i hl 1 rfl (by first | rfl | omega | (simp only [gCo]; split <;> first | rfl | omega))) (lv_cons (lv_i hl 0 rfl (by first | rfl | omega | (simp only [gCo]; split <;> first | rfl | omega))) (lv_nil hl)))))))
  exact lp_10 _ 0 (by first | assumption | omega) (Nat.lt_succ_self _) _ _ hP hS _ (lv_cons (lv_at hl 3 rfl) (lv_cons (lv_at hl 4 rfl) (lv_cons (lv_at hl 5 rfl) (lv_cons (lv_i hl 2 rfl (by first | rfl | omega | (simp only [gCo]; split <;> first | rfl | omega))) (lv_cons (lv_i hl 1 rfl (by first | rfl | omega | (simp only [gCo]; split <;> first | rfl | omega))) (lv_cons (lv_i hl 0 rfl (by first | rfl | omega | (simp only [gCo]; split <;> first | rfl | omega))) (lv_nil hl)))))))

set_option maxHeartbeats 4000000 in
set_option maxRecDepth 100000 in
theorem c_X0_heightsTogether (l : Launch) (G : zG) (sz : Nat) (h0 : Nat) (ha : Nat) (wI : Int) (hI : Int) (gI : Nat → Int) (hG : gOK wI hI gI) : Met l yX0_heightsTogether (Cond.code yX0_heightsTogether cX0_heightsTogether 3 (some .int) :: zT) (zRm 2 43) (zPr G [.ref h0] [(h0, .inr (0, [.int (iV wI), .int (iV hI), .ref ha])), (ha, .inl (G.2.1, 81, .inl (fun k => iV (gI k))))] sz) (zQr (sumN (fun k => if gIn wI hI (Nat.cast k : Int) then gI k else 0) 81) sz) 0 0 (zF sz) := by
  refine Met.ofW (cc := cX0_heightsTogether) (maxL := 3) (ret := (some .int)) (by decide) rfl ?_
  intro p e s m args below meth c s₁ B hml hv
  obtain ⟨rfl, hsz, hP, hK, hSt⟩ := hv
  have hx := B.exec
  have hb := B.bytes
  have hr := B.returns
  have hts : ∀ w ∈ zT, w.before _ s = true := fun w h => atoms_spec (ws := (Cond.code yX0_heightsTogether cX0_heightsTogether 3 (some .int) :: zT)) B.pre w (List.mem_cons_of_mem _ h)
  have hown : s.vm.findClass RX0 = some m.cls := findClass_of_methodNamed B.named
  have hlocks := B.notSynchronized
  subst hsz
  have hA : ∀ q : Nat, s.heap.size ≤ q → zF s.heap.size q := fun _ h => h
  have hS : va_S (zF s.heap.size) s.heap s.heap [] := va_S.rf
  have hP : va_P G.1 vwCl [(h0, .inr (0, [.int (iV wI), .int (iV hI), .ref ha])), (ha, .inl (G.2.1, 81, .inl (fun k => iV (gI k))))] s.heap := hP
  have X := And.intro hx (And.intro hb (And.intro hml (And.intro hown (And.intro hts (And.intro hK (And.intro hSt hA))))))
  have hl := lv_entry ([.ref h0]) (n := 3) (Nat.le_of_ble_eq_true rfl)
  rw [lg_entry_eq]
  generalize (lg_sl ([.ref h0]) ++ List.replicate (3 - (lg_sl ([.ref h0])).length) Slot.unset).toArray = ls at hl ⊢
  have hl : lv_has ls 3 [(0, .ref h0)] := hl
  obtain ⟨hW0, hW9, hH0, hH9, hg⟩ := id hG
  refine lv_iconst (v := iV 0) hx hb dX0_heightsTogether_0 (by decide) ?_
  refine lv_istore_n (lv' := [(1, .int (iV 0)), (0, .ref h0)]) hx hb dX0_heightsTogether_1 rfl hl (by decide) rfl (fun ls hl => ?_)
  refine lv_iconst (v := iV 0) hx hb dX0_heightsTogether_2 (by decide) ?_
  refine lv_istore_n (lv' := [(2, .int (iV 0)), (1, .int (iV 0)), (0, .ref h0)]) hx hb dX0_heightsTogether_3 rfl hl (by decide) rfl (fun ls hl => ?_)
  have lp_4 : ∀ (k : Nat) (n : Nat) , (n ≤ 81) → (81 - n) < k → ∀ (H : Heap) (locs : List Loc), va_P G.1 vwCl [(h0, .inr (0, [.int (iV wI), .int (iV hI), .ref ha])), (ha, .inl (G.2.1, 81, .inl (fun k => iV (gI k))))] H → va_S (zF s.heap.size) s.heap H locs → ∀ ls : Array Slot, lv_has ls 3 [(0, .ref h0), (1, .int (iV (sumN (fun k => if gIn wI hI (Nat.cast k : Int) then gI k else 0) n))), (2, .int (iV (Nat.cast n : Int)))] → W p l e (headSpec (Cond.code yX0_heightsTogether cX0_heightsTogether 3 (some .int) :: zT) (zRm 2 43)).room s m ([Value.ref h0] : List Value).toArray below meth c H locs 0 0 (MQ below (zQr (sumN (fun k => if gIn wI hI (Nat.cast k : Int) then gI k else 0) 81) s.heap.size) ([Value.ref h0] : List Value).toArray s 0 0 (zF s.heap.size)) (F0 m 4 ls []) := by
    intro k
    induction k with
    | zero => intro n hn hk_; exact absurd hk_ (Nat.not_lt_zero _)
    | succ k ih_4 =>
      intro n hn hk_4 H locs hP hS ls hl
      refine lv_iload_n hx hb dX0_heightsTogether_4 rfl (lv_at hl 2 rfl) ?_
      refine lv_bipush (v := iV 81) hx hb dX0_heightsTogether_5 (by decide) ?_
      refine z_icmp_ge (tgt := 33) hx hb (by omega) ⟨by decide, by decide⟩ dX0_heightsTogether_7 (by decide) (fun c_1 => ?_) (fun c_1 => ?_)
      · refine lv_iload_n hx hb dX0_heightsTogether_33 rfl (lv_at hl 1 rfl) ?_
        refine z_eq (z := sumN (fun k => if gIn wI hI (Nat.cast k : Int) then gI k else 0) 81) (by have h8 : n = 81 := (by omega); subst h8; rfl) ?_
        exact z_ret hx hb hr hlocks hS dX0_heightsTogether_34
      · refine lv_aload_n hx hb dX0_heightsTogether_10 rfl (lv_at hl 0 rfl) ?_
        refine lv_iload_n hx hb dX0_heightsTogether_11 rfl (lv_at hl 2 rfl) ?_
        refine z_callV X hP hS hl.1 (c_X0_hasNumber l G _ h0 ha wI hI gI (Nat.cast n : Int) (by first | assumption | omega) (by first | assumption | omega)) wd_585 kX0_hasNumber ⟨rfl, rfl, Nat.le_of_ble_eq_true rfl, Nat.le_of_ble_eq_true rfl⟩ [0, 1] rfl 0 rfl rfl rfl rfl (Nat.le_of_ble_eq_true rfl) dX0_heightsTogether_12 ⟨Nat.zero_le _, Nat.zero_le _⟩ (fun H locs hP hS => ?_)
        refine z_ifb_eq (tgt := 27) hx hb dX0_heightsTogether_15 (by decide) (fun c_2 => ?_) (fun c_2 => ?_)
        · refine z_iinc (lv' := [(2, .int (iV ((Nat.cast n : Int) + 1))), (0, .ref h0), (1, .int (iV (sumN (fun k => if gIn wI hI (Nat.cast k : Int) then gI k else 0) n)))]) hx hb dX0_heightsTogether_27 hl (k := 2) rfl (by decide) rfl (fun ls hl => ?_)
          refine lv_goto (tgt := 4) hx hb dX0_heightsTogether_30 (by decide) ?_
          exact ih_4 (n + 1) (by first | assumption | omega) (by omega) _ _ hP hS _ (lv_cons (lv_at hl 1 rfl) (lv_cons (lv_i hl 2 rfl (by first | rfl | omega | (simp only [sumN]; rw [if_pos (by assumption), cst0]) | (simp only [sumN]; rw [if_neg (by assumption)]; omega))) (lv_cons (lv_i hl 0 rfl (by first | rfl | omega | (simp only [sumN]; rw [if_pos (by assumption), cst0]) | (simp only [sumN]; rw [if_neg (by assumption)]; omega))) (lv_nil hl))))
        · refine lv_iload_n hx hb dX0_heightsTogether_18 rfl (lv_at hl 1 rfl) ?_
          refine lv_aload_n hx hb dX0_heightsTogether_19 rfl (lv_at hl 0 rfl) ?_
          refine va_get (D := G.1) (ci := 0) (v := .ref ha) (C := RX0) (T := TX0) (N := 3) hx hb hts inX0 hown hK hP 0 rfl rfl 2 (by decide) (hts _ wd_43) (fun _ h9 => h9) rfl dX0_heightsTogether_20 ?_
          refine lv_iload_n hx hb dX0_heightsTogether_23 rfl (lv_at hl 2 rfl) ?_
          refine z_iald (G := G) (f := gI) hx hb hK hP 1 rfl (by omega) (by omega) (by decide) dX0_heightsTogether_24 ?_
          refine z_iadd hx hb dX0_heightsTogether_25 ?_
          refine lv_istore_n (lv' := [(1, .int (iV (sumN (fun k => if gIn wI hI (Nat.cast k : Int) then gI k else 0) n + (gI (Nat.cast n : Int).toNat)))), (0, .ref h0), (2, .int (iV (Nat.cast n : Int)))]) hx hb dX0_heightsTogether_26 rfl hl (by decide) rfl (fun ls hl => ?_)
          refine z_iinc (lv' := [(2, .int (iV ((Nat.cast n : Int) + 1))), (1, .int (iV (sumN (fun k => if gIn wI hI (Nat.cast k : Int) then gI k else 0) n + (gI (Nat.cast n : Int).toNat)))), (0, .ref h0)]) hx hb dX0_heightsTogether_27 hl (k := 2) rfl (by decide) rfl (fun ls hl => ?_)
          refine lv_goto (tgt := 4) hx hb dX0_heightsTogether_30 (by decide) ?_
          exact ih_4 (n + 1) (by first | assumption | omega) (by omega) _ _ hP hS _ (lv_cons (lv_at hl 2 rfl) (lv_cons (lv_i hl 1 rfl (by first | rfl | omega | (simp only [sumN]; rw [if_pos (by assumption), cst0]) | (simp only [sumN]; rw [if_neg (by assumption)]; omega))) (lv_cons (lv_i hl 0 rfl (by first | rfl | omega | (simp only [sumN]; rw [if_pos (by assumption), cst0]) | (simp only [sumN]; rw [if_neg (by assumption)]; omega))) (lv_nil hl))))
  exact lp_4 _ 0 (by first | assumption | omega) (Nat.lt_succ_self _) _ _ hP hS _ (lv_cons (lv_at hl 2 rfl) (lv_cons (lv_i hl 1 rfl (by first | rfl | omega | (simp only [sumN]; rw [if_pos (by assumption), cst0]) | (simp only [sumN]; rw [if_neg (by assumption)]; omega))) (lv_cons (lv_i hl 0 rfl (by first | rfl | omega | (simp only [sumN]; rw [if_pos (by assumption), cst0]) | (simp only [sumN]; rw [if_neg (by assumption)]; omega))) (lv_nil hl))))

set_option maxHeartbeats 4000000 in
set_option maxRecDepth 100000 in
theorem c_X0_clear (l : Launch) (G : zG) (sz : Nat) (h0 : Nat) (ha : Nat) (wI : Int) (hI : Int) (gI : Nat → Int) (hG : gOK wI hI gI) : Met l yX0_clear (Cond.code yX0_clear cX0_clear 2 none :: zT) (zRm 0 0) (zPw G [.ref h0] [(h0, .inr (0, [.int (iV wI), .int (iV hI), .ref ha])), (ha, .inl (G.2.1, 81, .inl (fun k => iV (gI k))))] sz) (zQv G [(h0, .inr (0, [.int (iV wI), .int (iV hI), .ref ha])), (ha, .inl (G.2.1, 81, .inl (fun k => iV (gI k))))] [(h0, .inr (0, [.int (iV 0), .int (iV 0), .ref ha])), (ha, .inl (G.2.1, 81, .inl (fun k => iV (zFill 81 0 gI k))))] sz) 0 0 (va_A [(h0, .inr (0, [.int (iV wI), .int (iV hI), .ref ha])), (ha, .inl (G.2.1, 81, .inl (fun k => iV (gI k))))] sz) := by
  refine Met.ofW (cc := cX0_clear) (maxL := 2) (ret := none) (by decide) rfl ?_
  intro p e s m args below meth c s₁ B hml hv
  obtain ⟨rfl, hsz, hP, hK, hSt, hD0⟩ := hv
  have hx := B.exec
  have hb := B.bytes
  have hr := B.returns
  have hts : ∀ w ∈ zT, w.before _ s = true := fun w h => atoms_spec (ws := (Cond.code yX0_clear cX0_clear 2 none :: zT)) B.pre w (List.mem_cons_of_mem _ h)
  have hown : s.vm.findClass RX0 = some m.cls := findClass_of_methodNamed B.named
  have hlocks := B.notSynchronized
  subst hsz
  have hD : va_D (va_A [(h0, .inr (0, [.int (iV wI), .int (iV hI), .ref ha])), (ha, .inl (G.2.1, 81, .inl (fun k => iV (gI k))))] s.heap.size) [(h0, .inr (0, [.int (iV wI), .int (iV hI), .ref ha])), (ha, .inl (G.2.1, 81, .inl (fun k => iV (gI k))))] := hD0.self
  have hA : ∀ q : Nat, s.heap.size ≤ q → va_A [(h0, .inr (0, [.int (iV wI), .int (iV hI), .ref ha])), (ha, .inl (G.2.1, 81, .inl (fun k => iV (gI k))))] s.heap.size q := fun q h => Or.inr h
  have hS : va_S (va_A [(h0, .inr (0, [.int (iV wI), .int (iV hI), .ref ha])), (ha, .inl (G.2.1, 81, .inl (fun k => iV (gI k))))] s.heap.size) s.heap s.heap [] := va_S.rf
  have hP : va_P G.1 vwCl [(h0, .inr (0, [.int (iV wI), .int (iV hI), .ref ha])), (ha, .inl (G.2.1, 81, .inl (fun k => iV (gI k))))] s.heap := hP
  have X := And.intro hx (And.intro hb (And.intro hml (And.intro hown (And.intro hts (And.intro hK (And.intro hSt hA))))))
  have hl := lv_entry ([.ref h0]) (n := 2) (Nat.le_of_ble_eq_true rfl)
  rw [lg_entry_eq]
  generalize (lg_sl ([.ref h0]) ++ List.replicate (2 - (lg_sl ([.ref h0])).length) Slot.unset).toArray = ls at hl ⊢
  have hl : lv_has ls 2 [(0, .ref h0)] := hl
  obtain ⟨hW0, hW9, hH0, hH9, hg⟩ := id hG
  refine lv_aload_n hx hb dX0_clear_0 rfl (lv_at hl 0 rfl) ?_
  refine lv_iconst (v := iV 0) hx hb dX0_clear_1 (by decide) ?_
  refine va_put (D := G.1) (ci := 0) (v := .int (iV 0)) (ty := .int) (C := RX0) (T := TX0) (N := 3) hx hb hts inX0 tyX0 tyX0_ok nmX0 hown hK hP hD hS 0 rfl rfl 0 (by decide) (hts _ wd_37) (fun _ h9 => h9) rfl (by decide +kernel) rfl rfl (Nat.le_of_ble_eq_true rfl) dX0_clear_2 (fun H locs hP hD hS => ?_)
  have hP : va_P G.1 vwCl [(h0, .inr (0, [.int (iV 0), .int (iV hI), .ref ha])), (ha, .inl (G.2.1, 81, .inl (fun k => iV (gI k))))] H := hP
  have hD : va_D _ [(h0, .inr (0, [.int (iV 0), .int (iV hI), .ref ha])), (ha, .inl (G.2.1, 81, .inl (fun k => iV (gI k))))] := hD
  refine lv_aload_n hx hb dX0_clear_5 rfl (lv_at hl 0 rfl) ?_
  refine lv_iconst (v := iV 0) hx hb dX0_clear_6 (by decide) ?_
  refine va_put (D := G.1) (ci := 0) (v := .int (iV 0)) (ty := .int) (C := RX0) (T := TX0) (N := 3) hx hb hts inX0 tyX0 tyX0_ok nmX0 hown hK hP hD hS 0 rfl rfl 1 (by decide) (hts _ wd_40) (fun _ h9 => h9) rfl (by decide +kernel) rfl rfl (Nat.le_of_ble_eq_true rfl) dX0_clear_7 (fun H locs hP hD hS => ?_)
  have hP : va_P G.1 vwCl [(h0, .inr (0, [.int (iV 0), .int (iV 0), .ref ha])), (ha, .inl (G.2.1, 81, .inl (fun k => iV (gI k))))] H := hP
  have hD : va_D _ [(h0, .inr (0, [.int (iV 0), .int (iV 0), .ref ha])), (ha, .inl (G.2.1, 81, .inl (fun k => iV (gI k))))] := hD
  refine lv_iconst (v := iV 0) hx hb dX0_clear_10 (by decide) ?_
  refine lv_istore_n (lv' := [(1, .int (iV 0)), (0, .ref h0)]) hx hb dX0_clear_11 rfl hl (by decide) rfl (fun ls hl => ?_)
  have lp_12 : ∀ (k : Nat) (n : Nat) , (n ≤ 81) → (81 - n) < k → ∀ (H : Heap) (locs : List Loc), va_P G.1 vwCl [(h0, .inr (0, [.int (iV 0), .int (iV 0), .ref ha])), (ha, .inl (G.2.1, 81, .inl (fun k => iV (zFill n 0 gI k))))] H → va_D (va_A [(h0, .inr (0, [.int (iV wI), .int (iV hI), .ref ha])), (ha, .inl (G.2.1, 81, .inl (fun k => iV (gI k))))] s.heap.size) [(h0, .inr (0, [.int (iV 0), .int (iV 0), .ref ha])), (ha, .inl (G.2.1, 81, .inl (fun k => iV (zFill n 0 gI k))))] → va_S (va_A [(h0, .inr (0, [.int (iV wI), .int (iV hI), .ref ha])), (ha, .inl (G.2.1, 81, .inl (fun k => iV (gI k))))] s.heap.size) s.heap H locs → ∀ ls : Array Slot, lv_has ls 2 [(0, .ref h0), (1, .int (iV (Nat.cast n : Int)))] → W p l e (headSpec (Cond.code yX0_clear cX0_clear 2 none :: zT) (zRm 0 0)).room s m ([Value.ref h0] : List Value).toArray below meth c H locs 0 0 (MQ below (zQv G [(h0, .inr (0, [.int (iV wI), .int (iV hI), .ref ha])), (ha, .inl (G.2.1, 81, .inl (fun k => iV (gI k))))] [(h0, .inr (0, [.int (iV 0), .int (iV 0), .ref ha])), (ha, .inl (G.2.1, 81, .inl (fun k => iV (zFill 81 0 gI k))))] s.heap.size) ([Value.ref h0] : List Value).toArray s 0 0 (va_A [(h0, .inr (0, [.int (iV wI), .int (iV hI), .ref ha])), (ha, .inl (G.2.1, 81, .inl (fun k => iV (gI k))))] s.heap.size)) (F0 m 12 ls []) := by
    intro k
    induction k with
    | zero => intro n hn hk_; exact absurd hk_ (Nat.not_lt_zero _)
    | succ k ih_12 =>
      intro n hn hk_12 H locs hP hD hS ls hl
      refine lv_iload_n hx hb dX0_clear_12 rfl (lv_at hl 1 rfl) ?_
      refine lv_bipush (v := iV 81) hx hb dX0_clear_13 (by decide) ?_
      refine z_icmp_ge (tgt := 31) hx hb (by omega) ⟨by decide, by decide⟩ dX0_clear_15 (by decide) (fun c_1 => ?_) (fun c_1 => ?_)
      · have hP : va_P G.1 vwCl [(h0, .inr (0, [.int (iV 0), .int (iV 0), .ref ha])), (ha, .inl (G.2.1, 81, .inl (fun k => iV (zFill 81 0 gI k))))] _ := z_castP (by have h8 : n = 81 := (by omega); subst h8; rfl) hP
        exact z_retv hx hb hr hlocks hP hS dX0_clear_31
      · refine lv_aload_n hx hb dX0_clear_18 rfl (lv_at hl 0 rfl) ?_
        refine va_get (D := G.1) (ci := 0) (v := .ref ha) (C := RX0) (T := TX0) (N := 3) hx hb hts inX0 hown hK hP 0 rfl rfl 2 (by decide) (hts _ wd_43) (fun _ h9 => h9) rfl dX0_clear_19 ?_
        refine lv_iload_n hx hb dX0_clear_22 rfl (lv_at hl 1 rfl) ?_
        refine lv_iconst (v := iV 0) hx hb dX0_clear_23 (by decide) ?_
        refine z_iast (G := G) (f := zFill n 0 gI) hx hb hK hP hD hS 1 rfl (by omega) (by omega) (by decide) dX0_clear_24 (fun H locs hP hD hS => ?_)
        have hP : va_P G.1 vwCl [(h0, .inr (0, [.int (iV 0), .int (iV 0), .ref ha])), (ha, .inl (G.2.1, 81, .inl (fun k => iV ((uI (zFill n 0 gI) (Nat.cast n : Int).toNat 0) k))))] H := hP
        have hD : va_D _ [(h0, .inr (0, [.int (iV 0), .int (iV 0), .ref ha])), (ha, .inl (G.2.1, 81, .inl (fun k => iV ((uI (zFill n 0 gI) (Nat.cast n : Int).toNat 0) k))))] := hD
        refine z_iinc (lv' := [(1, .int (iV ((Nat.cast n : Int) + 1))), (0, .ref h0)]) hx hb dX0_clear_25 hl (k := 1) rfl (by decide) rfl (fun ls hl => ?_)
        refine lv_goto (tgt := 12) hx hb dX0_clear_28 (by decide) ?_
        have hP : va_P G.1 vwCl [(h0, .inr (0, [.int (iV 0), .int (iV 0), .ref ha])), (ha, .inl (G.2.1, 81, .inl (fun k => iV (zFill (n + 1) 0 gI k))))] _ := z_castP (by first | (rw [zFill_0]) | (rw [cst0, zFill_s])) hP
        have hD : va_D _ [(h0, .inr (0, [.int (iV 0), .int (iV 0), .ref ha])), (ha, .inl (G.2.1, 81, .inl (fun k => iV (zFill (n + 1) 0 gI k))))] := z_castD (by first | (rw [zFill_0]) | (rw [cst0, zFill_s])) hD
        exact ih_12 (n + 1) (by first | assumption | omega) (by omega) _ _ hP hD hS _ (lv_cons (lv_at hl 1 rfl) (lv_cons (lv_i hl 0 rfl (by omega)) (lv_nil hl)))
  have hP : va_P G.1 vwCl [(h0, .inr (0, [.int (iV 0), .int (iV 0), .ref ha])), (ha, .inl (G.2.1, 81, .inl (fun k => iV (zFill 0 0 gI k))))] _ := z_castP (by first | (rw [zFill_0]) | (rw [cst0, zFill_s])) hP
  have hD : va_D _ [(h0, .inr (0, [.int (iV 0), .int (iV 0), .ref ha])), (ha, .inl (G.2.1, 81, .inl (fun k => iV (zFill 0 0 gI k))))] := z_castD (by first | (rw [zFill_0]) | (rw [cst0, zFill_s])) hD
  exact lp_12 _ 0 (by first | assumption | omega) (Nat.lt_succ_self _) _ _ hP hD hS _ (lv_cons (lv_at hl 1 rfl) (lv_cons (lv_i hl 0 rfl (by omega)) (lv_nil hl)))

set_option maxHeartbeats 4000000 in
set_option maxRecDepth 100000 in
theorem c_X0_setHeight (l : Launch) (G : zG) (sz : Nat) (h0 : Nat) (ha : Nat) (wI : Int) (hI : Int) (gI : Nat → Int) (cI : Int) (v : Int) (hG : gOK wI hI gI) (hc : 0 ≤ cI ∧ cI < 81) (hv : iR v) : Met l yX0_setHeight (Cond.code yX0_setHeight cX0_setHeight 3 none :: zT) (zRm 0 0) (zPw G [.ref h0, .int (iV cI), .int (iV v)] [(h0, .inr (0, [.int (iV wI), .int (iV hI), .ref ha])), (ha, .inl (G.2.1, 81, .inl (fun k => iV (gI k))))] sz) (zQv G [(h0, .inr (0, [.int (iV wI), .int (iV hI), .ref ha])), (ha, .inl (G.2.1, 81, .inl (fun k => iV (gI k))))] [(h0, .inr (0, [.int (iV wI), .int (iV hI), .ref ha])), (ha, .inl (G.2.1, 81, .inl (fun k => iV (uI gI cI.toNat v k))))] sz) 0 0 (va_A [(h0, .inr (0, [.int (iV wI), .int (iV hI), .ref ha])), (ha, .inl (G.2.1, 81, .inl (fun k => iV (gI k))))] sz) := by
  refine Met.ofW (cc := cX0_setHeight) (maxL := 3) (ret := none) (by decide) rfl ?_
  intro p e s m args below meth c s₁ B hml hv
  obtain ⟨rfl, hsz, hP, hK, hSt, hD0⟩ := hv
  have hx := B.exec
  have hb := B.bytes
  have hr := B.returns
  have hts : ∀ w ∈ zT, w.before _ s = true := fun w h => atoms_spec (ws := (Cond.code yX0_setHeight cX0_setHeight 3 none :: zT)) B.pre w (List.mem_cons_of_mem _ h)
  have hown : s.vm.findClass RX0 = some m.cls := findClass_of_methodNamed B.named
  have hlocks := B.notSynchronized
  subst hsz
  have hD : va_D (va_A [(h0, .inr (0, [.int (iV wI), .int (iV hI), .ref ha])), (ha, .inl (G.2.1, 81, .inl (fun k => iV (gI k))))] s.heap.size) [(h0, .inr (0, [.int (iV wI), .int (iV hI), .ref ha])), (ha, .inl (G.2.1, 81, .inl (fun k => iV (gI k))))] := hD0.self
  have hA : ∀ q : Nat, s.heap.size ≤ q → va_A [(h0, .inr (0, [.int (iV wI), .int (iV hI), .ref ha])), (ha, .inl (G.2.1, 81, .inl (fun k => iV (gI k))))] s.heap.size q := fun q h => Or.inr h
  have hS : va_S (va_A [(h0, .inr (0, [.int (iV wI), .int (iV hI), .ref ha])), (ha, .inl (G.2.1, 81, .inl (fun k => iV (gI k))))] s.heap.size) s.heap s.heap [] := va_S.rf
  have hP : va_P G.1 vwCl [(h0, .inr (0, [.int (iV wI), .int (iV hI), .ref ha])), (ha, .inl (G.2.1, 81, .inl (fun k => iV (gI k))))] s.heap := hP
  have X := And.intro hx (And.intro hb (And.intro hml (And.intro hown (And.intro hts (And.intro hK (And.intro hSt hA))))))
  have hl := lv_entry ([.ref h0, .int (iV cI), .int (iV v)]) (n := 3) (Nat.le_of_ble_eq_true rfl)
  rw [lg_entry_eq]
  generalize (lg_sl ([.ref h0, .int (iV cI), .int (iV v)]) ++ List.replicate (3 - (lg_sl ([.ref h0, .int (iV cI), .int (iV v)])).length) Slot.unset).toArray = ls at hl ⊢
  have hl : lv_has ls 3 [(0, .ref h0), (1, .int (iV cI)), (2, .int (iV v))] := hl
  obtain ⟨hW0, hW9, hH0, hH9, hg⟩ := id hG
  refine lv_iload_n hx hb dX0_setHeight_0 rfl (lv_at hl 1 rfl) ?_
  refine z_if_lt (tgt := 17) hx hb (by omega) dX0_setHeight_1 (by decide) (fun c_1 => ?_) (fun c_1 => ?_)
  · have hP : va_P G.1 vwCl [(h0, .inr (0, [.int (iV wI), .int (iV hI), .ref ha])), (ha, .inl (G.2.1, 81, .inl (fun k => iV (uI gI cI.toNat v k))))] _ := z_castP (by first | rfl | (exfalso; omega)) hP
    exact z_retv hx hb hr hlocks hP hS dX0_setHeight_17
  · refine lv_iload_n hx hb dX0_setHeight_4 rfl (lv_at hl 1 rfl) ?_
    refine lv_bipush (v := iV 81) hx hb dX0_setHeight_5 (by decide) ?_
    refine z_icmp_ge (tgt := 17) hx hb (by omega) ⟨by decide, by decide⟩ dX0_setHeight_7 (by decide) (fun c_2 => ?_) (fun c_2 => ?_)
    · have hP : va_P G.1 vwCl [(h0, .inr (0, [.int (iV wI), .int (iV hI), .ref ha])), (ha, .inl (G.2.1, 81, .inl (fun k => iV (uI gI cI.toNat v k))))] _ := z_castP (by first | rfl | (exfalso; omega)) hP
      exact z_retv hx hb hr hlocks hP hS dX0_setHeight_17
    · refine lv_aload_n hx hb dX0_setHeight_10 rfl (lv_at hl 0 rfl) ?_
      refine va_get (D := G.1) (ci := 0) (v := .ref ha) (C := RX0) (T := TX0) (N := 3) hx hb hts inX0 hown hK hP 0 rfl rfl 2 (by decide) (hts _ wd_43) (fun _ h9 => h9) rfl dX0_setHeight_11 ?_
      refine lv_iload_n hx hb dX0_setHeight_14 rfl (lv_at hl 1 rfl) ?_
      refine lv_iload_n hx hb dX0_setHeight_15 rfl (lv_at hl 2 rfl) ?_
      refine z_iast (G := G) (f := gI) hx hb hK hP hD hS 1 rfl (by omega) (by omega) (by decide) dX0_setHeight_16 (fun H locs hP hD hS => ?_)
      have hP : va_P G.1 vwCl [(h0, .inr (0, [.int (iV wI), .int (iV hI), .ref ha])), (ha, .inl (G.2.1, 81, .inl (fun k => iV ((uI gI cI.toNat v) k))))] H := hP
      have hD : va_D _ [(h0, .inr (0, [.int (iV wI), .int (iV hI), .ref ha])), (ha, .inl (G.2.1, 81, .inl (fun k => iV ((uI gI cI.toNat v) k))))] := hD
      have hP : va_P G.1 vwCl [(h0, .inr (0, [.int (iV wI), .int (iV hI), .ref ha])), (ha, .inl (G.2.1, 81, .inl (fun k => iV (uI gI cI.toNat v k))))] _ := z_castP (by first | rfl | (exfalso; omega)) hP
      exact z_retv hx hb hr hlocks hP hS dX0_setHeight_17
