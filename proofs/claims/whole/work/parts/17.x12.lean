theorem kX3_keep : zM RX3 yX3_keep cX3_keep 2 none 1 := ⟨wd_388, wd_389, wd_5, wd_390, rfl, by decide +kernel⟩
theorem kX3_bringBack : zM RX3 yX3_bringBack cX3_bringBack 2 none 1 := ⟨wd_441, wd_442, wd_5, wd_443, rfl, by decide +kernel⟩
theorem kX3_forget : zM RX3 yX3_forget cX3_forget 1 none 0 := ⟨wd_369, wd_370, wd_5, wd_371, rfl, by decide +kernel⟩
theorem kX1_isSmallTurn : zMs RX1 yX1_isSmallTurn cX1_isSmallTurn 3 (some .boolean) 2 := ⟨wd_607, wd_7, wd_608, rfl, by decide +kernel⟩
theorem kX1_keepIfBetter : zM RX1 yX1_keepIfBetter cX1_keepIfBetter 6 none 4 := ⟨wd_615, ws_16, wd_7, wd_616, rfl, by decide +kernel⟩
theorem kX1_seekLower : zM RX1 yX1_seekLower cX1_seekLower 5 none 2 := ⟨wd_611, ws_15, wd_7, wd_612, rfl, by decide +kernel⟩
theorem kX1_seekBest : zM RX1 yX1_seekBest cX1_seekBest 4 none 1 := ⟨wd_602, wd_603, wd_7, wd_604, rfl, by decide +kernel⟩
theorem kX2_isUp : zMs RX2 yX2_isUp cX2_isUp 3 (some .boolean) 3 := ⟨wd_646, wd_9, wd_647, rfl, by decide +kernel⟩
theorem kX2_lowSides : zMs RX2 yX2_lowSides cX2_lowSides 6 (some .int) 3 := ⟨wd_660, wd_9, wd_661, rfl, by decide +kernel⟩
theorem kX2_lineLength : zM RX2 yX2_lineLength cX2_lineLength 5 (some .int) 2 := ⟨wd_656, wd_657, wd_9, wd_658, rfl, by decide +kernel⟩
theorem kX2_cellsUp : zM RX2 yX2_cellsUp cX2_cellsUp 5 (some .int) 2 := ⟨wd_663, wd_664, wd_9, wd_665, rfl, by decide +kernel⟩
theorem kX2_walkPiece : zM RX2 yX2_walkPiece cX2_walkPiece 8 none 3 := ⟨wd_652, ws_17, wd_9, wd_653, rfl, by decide +kernel⟩
theorem kX2_hills : zM RX2 yX2_hills cX2_hills 5 (some .int) 2 := ⟨wd_642, wd_643, wd_9, wd_644, rfl, by decide +kernel⟩
set_option maxHeartbeats 4000000 in
set_option maxRecDepth 100000 in
theorem c_X1_isSmallTurn (l : Launch) (G : zG) (sz : Nat) (fa : Int) (fb : Int) (hfa : 0 ≤ fa ∧ fa < 8) (hfb : 0 ≤ fb ∧ fb < 8) : Met l yX1_isSmallTurn (Cond.code yX1_isSmallTurn cX1_isSmallTurn 3 (some .boolean) :: zT) (zRm 0 0) (zPr G [.int (iV fa), .int (iV fb)] [] sz) (zQr (bP (tNear fa fb)) sz) 0 0 (zF sz) := by
  refine Met.ofW (cc := cX1_isSmallTurn) (maxL := 3) (ret := (some .boolean)) (by decide) rfl ?_
  intro p e s m args below meth c s₁ B hml hv
  obtain ⟨rfl, hsz, hP, hK, hSt⟩ := hv
  have hx := B.exec
  have hb := B.bytes
  have hr := B.returns
  have hts : ∀ w ∈ zT, w.before _ s = true := fun w h => atoms_spec (ws := (Cond.code yX1_isSmallTurn cX1_isSmallTurn 3 (some .boolean) :: zT)) B.pre w (List.mem_cons_of_mem _ h)
  have hown : s.vm.findClass RX1 = some m.cls := findClass_of_methodNamed B.named
  have hlocks := B.notSynchronized
  subst hsz
  have hA : ∀ q : Nat, s.heap.size ≤ q → zF s.heap.size q := fun _ h => h
  have hS : va_S (zF s.heap.size) s.heap s.heap [] := va_S.rf
  have hP : va_P G.1 vwCl [] s.heap := hP
  have X := And.intro hx (And.intro hb (And.intro hml (And.intro hown (And.intro hts (And.intro hK (And.intro hSt hA))))))
  have hl := lv_entry ([.int (iV fa), .int (iV fb)]) (n := 3) (Nat.le_of_ble_eq_true rfl)
  rw [lg_entry_eq]
  generalize (lg_sl ([.int (iV fa), .int (iV fb)]) ++ List.replicate (3 - (lg_sl ([.int (iV fa), .int (iV fb)])).length) Slot.unset).toArray = ls at hl ⊢
  have hl : lv_has ls 3 [(0, .int (iV fa)), (1, .int (iV fb))] := hl
  refine lv_iload_n hx hb dX1_isSmallTurn_0 rfl (lv_at hl 1 rfl) ?_
  refine lv_iload_n hx hb dX1_isSmallTurn_1 rfl (lv_at hl 0 rfl) ?_
  refine z_isub hx hb dX1_isSmallTurn_2 ?_
  refine lv_bipush (v := iV 7) hx hb dX1_isSmallTurn_3 (by decide) ?_
  refine z_iand7 hx hb dX1_isSmallTurn_5 ?_
  refine lv_istore_n (lv' := [(2, .int (iV ((fb - fa) % 8))), (0, .int (iV fa)), (1, .int (iV fb))]) hx hb dX1_isSmallTurn_6 rfl hl (by decide) rfl (fun ls hl => ?_)
  refine lv_iload_n hx hb dX1_isSmallTurn_7 rfl (lv_at hl 0 rfl) ?_
  refine lv_iconst (v := iV 1) hx hb dX1_isSmallTurn_8 (by decide) ?_
  refine z_icmp_le (tgt := 18) hx hb (by omega) ⟨by decide, by decide⟩ dX1_isSmallTurn_9 (by decide) (fun c_1 => ?_) (fun c_1 => ?_)
  · refine lv_iconst (v := iV 1) hx hb dX1_isSmallTurn_18 (by decide) ?_
    refine lv_goto (tgt := 23) hx hb dX1_isSmallTurn_19 (by decide) ?_
    refine z_eq (z := bP (tNear fa fb)) (by first | exact (bP_t (show _ ∨ _ by omega)).symm | exact (bP_f (show ¬ (_ ∨ _) by omega)).symm) ?_
    exact z_retb hx hb hr hlocks hS dX1_isSmallTurn_23
  · refine lv_iload_n hx hb dX1_isSmallTurn_12 rfl (lv_at hl 0 rfl) ?_
    refine lv_bipush (v := iV 7) hx hb dX1_isSmallTurn_13 (by decide) ?_
    refine z_icmp_ne (tgt := 22) hx hb (by omega) ⟨by decide, by decide⟩ dX1_isSmallTurn_15 (by decide) (fun c_2 => ?_) (fun c_2 => ?_)
    · refine lv_iconst (v := iV 0) hx hb dX1_isSmallTurn_22 (by decide) ?_
      refine z_eq (z := bP (tNear fa fb)) (by first | exact (bP_t (show _ ∨ _ by omega)).symm | exact (bP_f (show ¬ (_ ∨ _) by omega)).symm) ?_
      exact z_retb hx hb hr hlocks hS dX1_isSmallTurn_23
    · refine lv_iconst (v := iV 1) hx hb dX1_isSmallTurn_18 (by decide) ?_
      refine lv_goto (tgt := 23) hx hb dX1_isSmallTurn_19 (by decide) ?_
      refine z_eq (z := bP (tNear fa fb)) (by first | exact (bP_t (show _ ∨ _ by omega)).symm | exact (bP_f (show ¬ (_ ∨ _) by omega)).symm) ?_
      exact z_retb hx hb hr hlocks hS dX1_isSmallTurn_23

set_option maxHeartbeats 4000000 in
set_option maxRecDepth 100000 in
theorem c_X1_keepIfBetter (l : Launch) (G : zG) (sz : Nat) (l0 : Nat) (lb : Nat) (lc : Nat) (bS : Int) (bF : Nat → Int) (kF : Nat → Int) (fa : Int) (fb : Int) (fc : Int) (fd : Int) (hkF : ∀ k : Nat, -36 ≤ kF k ∧ kF k ≤ 36) (hbS : lOK (bS, bF)) (hfa : 0 ≤ fa ∧ fa < 8) (hfb : 0 ≤ fb ∧ fb < 8) (hfc : 0 ≤ fc ∧ fc < 8) (hfd : 0 ≤ fd ∧ fd < 8) : Met l yX1_keepIfBetter (Cond.code yX1_keepIfBetter cX1_keepIfBetter 6 none :: zT) (zRm 0 0) (zPw G [.ref l0, .int (iV fa), .int (iV fb), .int (iV fc), .int (iV fd)] [(l0, .inr (1, [.int (iV bS), .ref lb, .ref lc])), (lb, .inl (G.2.1, 4, .inl (fun k => iV (bF k)))), (lc, .inl (G.2.1, 32, .inl (fun k => iV (kF k))))] sz) (zQv G [(l0, .inr (1, [.int (iV bS), .ref lb, .ref lc])), (lb, .inl (G.2.1, 4, .inl (fun k => iV (bF k)))), (lc, .inl (G.2.1, 32, .inl (fun k => iV (kF k))))] [(l0, .inr (1, [.int (iV ((lKeep kF (bS, bF) fa fb fc fd).1)), .ref lb, .ref lc])), (lb, .inl (G.2.1, 4, .inl (fun k => iV ((lKeep kF (bS, bF) fa fb fc fd).2 k)))), (lc, .inl (G.2.1, 32, .inl (fun k => iV (kF k))))] sz) 0 0 (va_A [(l0, .inr (1, [.int (iV bS), .ref lb, .ref lc])), (lb, .inl (G.2.1, 4, .inl (fun k => iV (bF k)))), (lc, .inl (G.2.1, 32, .inl (fun k => iV (kF k))))] sz) := by
  refine Met.ofW (cc := cX1_keepIfBetter) (maxL := 6) (ret := none) (by decide) rfl ?_
  intro p e s m args below meth c s₁ B hml hv
  obtain ⟨rfl, hsz, hP, hK, hSt, hD0⟩ := hv
  have hx := B.exec
  have hb := B.bytes
  have hr := B.returns
  have hts : ∀ w ∈ zT, w.before _ s = true := fun w h => atoms_spec (ws := (Cond.code yX1_keepIfBetter cX1_keepIfBetter 6 none :: zT)) B.pre w (List.mem_cons_of_mem _ h)
  have hown : s.vm.findClass RX1 = some m.cls := findClass_of_methodNamed B.named
  have hlocks := B.notSynchronized
  subst hsz
  have hD : va_D (va_A [(l0, .inr (1, [.int (iV bS), .ref lb, .ref lc])), (lb, .inl (G.2.1, 4, .inl (fun k => iV (bF k)))), (lc, .inl (G.2.1, 32, .inl (fun k => iV (kF k))))] s.heap.size) [(l0, .inr (1, [.int (iV bS), .ref lb, .ref lc])), (lb, .inl (G.2.1, 4, .inl (fun k => iV (bF k)))), (lc, .inl (G.2.1, 32, .inl (fun k => iV (kF k))))] := hD0.self
  have hA : ∀ q : Nat, s.heap.size ≤ q → va_A [(l0, .inr (1, [.int (iV bS), .ref lb, .ref lc])), (lb, .inl (G.2.1, 4, .inl (fun k => iV (bF k)))), (lc, .inl (G.2.1, 32, .inl (fun k => iV (kF k))))] s.heap.size q := fun q h => Or.inr h
  have hS : va_S (va_A [(l0, .inr (1, [.int (iV bS), .ref lb, .ref lc])), (lb, .inl (G.2.1, 4, .inl (fun k => iV (bF k)))), (lc, .inl (G.2.1, 32, .inl (fun k => iV (kF k))))] s.heap.size) s.heap s.heap [] := va_S.rf
  have hP : va_P G.1 vwCl [(l0, .inr (1, [.int (iV bS), .ref lb, .ref lc])), (lb, .inl (G.2.1, 4, .inl (fun k => iV (bF k)))), (lc, .inl (G.2.1, 32, .inl (fun k => iV (kF k))))] s.heap := hP
  have X := And.intro hx (And.intro hb (And.intro hml (And.intro hown (And.intro hts (And.intro hK (And.intro hSt hA))))))
  have hl := lv_entry ([.ref l0, .int (iV fa), .int (iV fb), .int (iV fc), .int (iV fd)]) (n := 6) (Nat.le_of_ble_eq_true rfl)
  rw [lg_entry_eq]
  generalize (lg_sl ([.ref l0, .int (iV fa), .int (iV fb), .int (iV fc), .int (iV fd)]) ++ List.replicate (6 - (lg_sl ([.ref l0, .int (iV fa), .int (iV fb), .int (iV fc), .int (iV fd)])).length) Slot.unset).toArray = ls at hl ⊢
  have hl : lv_has ls 6 [(0, .ref l0), (1, .int (iV fa)), (2, .int (iV fb)), (3, .int (iV fc)), (4, .int (iV fd))] := hl
  have hb1 := hbS.1
  have hb2 := hbS.2
  simp only at hb1 hb2
  refine lv_aload_n hx hb dX1_keepIfBetter_0 rfl (lv_at hl 0 rfl) ?_
  refine va_get (D := G.1) (ci := 1) (v := .ref lc) (C := RX1) (T := TX1) (N := 3) hx hb hts inX1 hown hK hP 0 rfl rfl 2 (by decide) (hts _ wd_144) (fun _ h9 => h9) rfl dX1_keepIfBetter_1 ?_
  refine lv_iload_n hx hb dX1_keepIfBetter_4 rfl (lv_at hl 1 rfl) ?_
  refine z_iald (G := G) (f := kF) hx hb hK hP 2 rfl (by omega) (by omega) (by decide) dX1_keepIfBetter_5 ?_
  have f_1 := hkF fa.toNat
  refine lv_aload_n hx hb dX1_keepIfBetter_6 rfl (lv_at hl 0 rfl) ?_
  refine va_get (D := G.1) (ci := 1) (v := .ref lc) (C := RX1) (T := TX1) (N := 3) hx hb hts inX1 hown hK hP 0 rfl rfl 2 (by decide) (hts _ wd_144) (fun _ h9 => h9) rfl dX1_keepIfBetter_7 ?_
  refine lv_bipush (v := iV 8) hx hb dX1_keepIfBetter_10 (by decide) ?_
  refine lv_iload_n hx hb dX1_keepIfBetter_12 rfl (lv_at hl 2 rfl) ?_
  refine z_iadd hx hb dX1_keepIfBetter_13 ?_
  refine z_iald (G := G) (f := kF) hx hb hK hP 2 rfl (by omega) (by omega) (by decide) dX1_keepIfBetter_14 ?_
  have f_2 := hkF (8 + fb).toNat
  refine z_iadd hx hb dX1_keepIfBetter_15 ?_
  refine lv_aload_n hx hb dX1_keepIfBetter_16 rfl (lv_at hl 0 rfl) ?_
  refine va_get (D := G.1) (ci := 1) (v := .ref lc) (C := RX1) (T := TX1) (N := 3) hx hb hts inX1 hown hK hP 0 rfl rfl 2 (by decide) (hts _ wd_144) (fun _ h9 => h9) rfl dX1_keepIfBetter_17 ?_
  refine lv_bipush (v := iV 16) hx hb dX1_keepIfBetter_20 (by decide) ?_
  refine lv_iload_n hx hb dX1_keepIfBetter_22 rfl (lv_at hl 3 rfl) ?_
  refine z_iadd hx hb dX1_keepIfBetter_23 ?_
  refine z_iald (G := G) (f := kF) hx hb hK hP 2 rfl (by omega) (by omega) (by decide) dX1_keepIfBetter_24 ?_
  have f_3 := hkF (16 + fc).toNat
  refine z_iadd hx hb dX1_keepIfBetter_25 ?_
  refine lv_aload_n hx hb dX1_keepIfBetter_26 rfl (lv_at hl 0 rfl) ?_
  refine va_get (D := G.1) (ci := 1) (v := .ref lc) (C := RX1) (T := TX1) (N := 3) hx hb hts inX1 hown hK hP 0 rfl rfl 2 (by decide) (hts _ wd_144) (fun _ h9 => h9) rfl dX1_keepIfBetter_27 ?_
  refine lv_bipush (v := iV 24) hx hb dX1_keepIfBetter_30 (by decide) ?_
  refine lv_iload hx hb dX1_keepIfBetter_32 (lv_at hl 4 rfl) ?_
  refine z_iadd hx hb dX1_keepIfBetter_34 ?_
  refine z_iald (G := G) (f := kF) hx hb hK hP 2 rfl (by omega) (by omega) (by decide) dX1_keepIfBetter_35 ?_
  have f_4 := hkF (24 + fd).toNat
  refine z_iadd hx hb dX1_keepIfBetter_36 ?_
  refine lv_istore (lv' := [(5, .int (iV ((((kF fa.toNat) + (kF (8 + fb).toNat)) + (kF (16 + fc).toNat)) + (kF (24 + fd).toNat)))), (0, .ref l0), (1, .int (iV fa)), (2, .int (iV fb)), (3, .int (iV fc)), (4, .int (iV fd))]) hx hb dX1_keepIfBetter_37 hl (by decide) rfl (fun ls hl => ?_)
  refine lv_iload hx hb dX1_keepIfBetter_39 (lv_at hl 0 rfl) ?_
  refine lv_aload_n hx hb dX1_keepIfBetter_41 rfl (lv_at hl 1 rfl) ?_
  refine va_get (D := G.1) (ci := 1) (v := .int (iV bS)) (C := RX1) (T := TX1) (N := 3) hx hb hts inX1 hown hK hP 0 rfl rfl 0 (by decide) (hts _ wd_140) (fun _ h9 => h9) rfl dX1_keepIfBetter_42 ?_
  refine z_icmp_le (tgt := 83) hx hb (by omega) (by omega) dX1_keepIfBetter_45 (by decide) (fun c_5 => ?_) (fun c_5 => ?_)
  · have hP : va_P G.1 vwCl [(l0, .inr (1, [.int (iV ((lKeep kF (bS, bF) fa fb fc fd).1)), .ref lb, .ref lc])), (lb, .inl (G.2.1, 4, .inl (fun k => iV ((lKeep kF (bS, bF) fa fb fc fd).2 k)))), (lc, .inl (G.2.1, 32, .inl (fun k => iV (kF k))))] _ := z_castP (by first | (rw [lKeep_t (by assumption)]; done) | (rw [lKeep_f (by assumption)]; rfl)) hP
    exact z_retv hx hb hr hlocks hP hS dX1_keepIfBetter_83
  · refine lv_aload_n hx hb dX1_keepIfBetter_48 rfl (lv_at hl 1 rfl) ?_
    refine lv_iload hx hb dX1_keepIfBetter_49 (lv_at hl 0 rfl) ?_
    refine va_put (D := G.1) (ci := 1) (v := .int (iV ((((kF fa.toNat) + (kF (8 + fb).toNat)) + (kF (16 + fc).toNat)) + (kF (24 + fd).toNat)))) (ty := .int) (C := RX1) (T := TX1) (N := 3) hx hb hts inX1 tyX1 tyX1_ok nmX1 hown hK hP hD hS 0 rfl rfl 0 (by decide) (hts _ wd_140) (fun _ h9 => h9) rfl (by decide +kernel) rfl rfl (Nat.le_of_ble_eq_true rfl) dX1_keepIfBetter_51 (fun H locs hP hD hS => ?_)
    have hP : va_P G.1 vwCl [(l0, .inr (1, [.int (iV ((((kF fa.toNat) + (kF (8 + fb).toNat)) + (kF (16 + fc).toNat)) + (kF (24 + fd).toNat))), .ref lb, .ref lc])), (lb, .inl (G.2.1, 4, .inl (fun k => iV (bF k)))), (lc, .inl (G.2.1, 32, .inl (fun k => iV (kF k))))] H := hP
    have hD : va_D _ [(l0, .inr (1, [.int (iV ((((kF fa.toNat) + (kF (8 + fb).toNat)) + (kF (16 + fc).toNat)) + (kF (24 + fd).toNat))), .ref lb, .ref lc])), (lb, .inl (G.2.1, 4, .inl (fun k => iV (bF k)))), (lc, .inl (G.2.1, 32, .inl (fun k => iV (kF k))))] := hD
    refine lv_aload_n hx hb dX1_keepIfBetter_54 rfl (lv_at hl 1 rfl) ?_
    refine va_get (D := G.1) (ci := 1) (v := .ref lb) (C := RX1) (T := TX1) (N := 3) hx hb hts inX1 hown hK hP 0 rfl rfl 1 (by decide) (hts _ wd_142) (fun _ h9 => h9) rfl dX1_keepIfBetter_55 ?_
    refine lv_iconst (v := iV 0) hx hb dX1_keepIfBetter_58 (by decide) ?_
    refine lv_iload_n hx hb dX1_keepIfBetter_59 rfl (lv_at hl 2 rfl) ?_
    refine z_iast (G := G) (f := bF) hx hb hK hP hD hS 1 rfl (by omega) (by omega) (by decide) dX1_keepIfBetter_60 (fun H locs hP hD hS => ?_)
    have hP : va_P G.1 vwCl [(l0, .inr (1, [.int (iV ((((kF fa.toNat) + (kF (8 + fb).toNat)) + (kF (16 + fc).toNat)) + (kF (24 + fd).toNat))), .ref lb, .ref lc])), (lb, .inl (G.2.1, 4, .inl (fun k => iV ((uI bF 0 fa) k)))), (lc, .inl (G.2.1, 32, .inl (fun k => iV (kF k))))] H := hP
    have hD : va_D _ [(l0, .inr (1, [.int (iV ((((kF fa.toNat) + (kF (8 + fb).toNat)) + (kF (16 + fc).toNat)) + (kF (24 + fd).toNat))), .ref lb, .ref lc])), (lb, .inl (G.2.1, 4, .inl (fun k => iV ((uI bF 0 fa) k)))), (lc, .inl (G.2.1, 32, .inl (fun k => iV (kF k))))] := hD
    refine lv_aload_n hx hb dX1_keepIfBetter_61 rfl (lv_at hl 1 rfl) ?_
    refine va_get (D := G.1) (ci := 1) (v := .ref lb) (C := RX1) (T := TX1) (N := 3) hx hb hts inX1 hown hK hP 0 rfl rfl 1 (by decide) (hts _ wd_142) (fun _ h9 => h9) rfl dX1_keepIfBetter_62 ?_
    refine lv_iconst (v := iV 1) hx hb dX1_keepIfBetter_65 (by decide) ?_
    refine lv_iload_n hx hb dX1_keepIfBetter_66 rfl (lv_at hl 3 rfl) ?_
    refine z_iast (G := G) (f := (uI bF 0 fa)) hx hb hK hP hD hS 1 rfl (by omega) (by omega) (by decide) dX1_keepIfBetter_67 (fun H locs hP hD hS => ?_)
    have hP : va_P G.1 vwCl [(l0, .inr (1, [.int (iV ((((kF fa.toNat) + (kF (8 + fb).toNat)) + (kF (16 + fc).toNat)) + (kF (24 + fd).toNat))), .ref lb, .ref lc])), (lb, .inl (G.2.1, 4, .inl (fun k => iV ((uI (uI bF 0 fa) 1 fb) k)))), (lc, .inl (G.2.1, 32, .inl (fun k => iV (kF k))))] H := hP
    have hD : va_D _ [(l0, .inr (1, [.int (iV ((((kF fa.toNat) + (kF (8 + fb).toNat)) + (kF (16 + fc).toNat)) + (kF (24 + fd).toNat))), .ref lb, .ref lc])), (lb, .inl (G.2.1, 4, .inl (fun k => iV ((uI (uI bF 0 fa) 1 fb) k)))), (lc, .inl (G.2.1, 32, .inl (fun k => iV (kF k))))] := hD
    refine lv_aload_n hx hb dX1_keepIfBetter_68 rfl (lv_at hl 1 rfl) ?_
    refine va_get (D := G.1) (ci := 1) (v := .ref lb) (C := RX1) (T := TX1) (N := 3) hx hb hts inX1 hown hK hP 0 rfl rfl 1 (by decide) (hts _ wd_142) (fun _ h9 => h9) rfl dX1_keepIfBetter_69 ?_
    refine lv_iconst (v := iV 2) hx hb dX1_keepIfBetter_72 (by decide) ?_
    refine lv_iload_n hx hb dX1_keepIfBetter_73 rfl (lv_at hl 4 rfl) ?_
    refine z_iast (G := G) (f := (uI (uI bF 0 fa) 1 fb)) hx hb hK hP hD hS 1 rfl (by omega) (by omega) (by decide) dX1_keepIfBetter_74 (fun H locs hP hD hS => ?_)
    have hP : va_P G.1 vwCl [(l0, .inr (1, [.int (iV ((((kF fa.toNat) + (kF (8 + fb).toNat)) + (kF (16 + fc).toNat)) + (kF (24 + fd).toNat))), .ref lb, .ref lc])), (lb, .inl (G.2.1, 4, .inl (fun k => iV ((uI (uI (uI bF 0 fa) 1 fb) 2 fc) k)))), (lc, .inl (G.2.1, 32, .inl (fun k => iV (kF k))))] H := hP
    have hD : va_D _ [(l0, .inr (1, [.int (iV ((((kF fa.toNat) + (kF (8 + fb).toNat)) + (kF (16 + fc).toNat)) + (kF (24 + fd).toNat))), .ref lb, .ref lc])), (lb, .inl (G.2.1, 4, .inl (fun k => iV ((uI (uI (uI bF 0 fa) 1 fb) 2 fc) k)))), (lc, .inl (G.2.1, 32, .inl (fun k => iV (kF k))))] := hD
    refine lv_aload_n hx hb dX1_keepIfBetter_75 rfl (lv_at hl 1 rfl) ?_
    refine va_get (D := G.1) (ci := 1) (v := .ref lb) (C := RX1) (T := TX1) (N := 3) hx hb hts inX1 hown hK hP 0 rfl rfl 1 (by decide) (hts _ wd_142) (fun _ h9 => h9) rfl dX1_keepIfBetter_76 ?_
    refine lv_iconst (v := iV 3) hx hb dX1_keepIfBetter_79 (by decide) ?_
    refine lv_iload hx hb dX1_keepIfBetter_80 (lv_at hl 5 rfl) ?_
    refine z_iast (G := G) (f := (uI (uI (uI bF 0 fa) 1 fb) 2 fc)) hx hb hK hP hD hS 1 rfl (by omega) (by omega) (by decide) dX1_keepIfBetter_82 (fun H locs hP hD hS => ?_)
    have hP : va_P G.1 vwCl [(l0, .inr (1, [.int (iV ((((kF fa.toNat) + (kF (8 + fb).toNat)) + (kF (16 + fc).toNat)) + (kF (24 + fd).toNat))), .ref lb, .ref lc])), (lb, .inl (G.2.1, 4, .inl (fun k => iV ((uI (uI (uI (uI bF 0 fa) 1 fb) 2 fc) 3 fd) k)))), (lc, .inl (G.2.1, 32, .inl (fun k => iV (kF k))))] H := hP
    have hD : va_D _ [(l0, .inr (1, [.int (iV ((((kF fa.toNat) + (kF (8 + fb).toNat)) + (kF (16 + fc).toNat)) + (kF (24 + fd).toNat))), .ref lb, .ref lc])), (lb, .inl (G.2.1, 4, .inl (fun k => iV ((uI (uI (uI (uI bF 0 fa) 1 fb) 2 fc) 3 fd) k)))), (lc, .inl (G.2.1, 32, .inl (fun k => iV (kF k))))] := hD
    have hP : va_P G.1 vwCl [(l0, .inr (1, [.int (iV ((lKeep kF (bS, bF) fa fb fc fd).1)), .ref lb, .ref lc])), (lb, .inl (G.2.1, 4, .inl (fun k => iV ((lKeep kF (bS, bF) fa fb fc fd).2 k)))), (lc, .inl (G.2.1, 32, .inl (fun k => iV (kF k))))] _ := z_castP (by first | (rw [lKeep_t (by assumption)]; done) | (rw [lKeep_f (by assumption)]; rfl)) hP
    exact z_retv hx hb hr hlocks hP hS dX1_keepIfBetter_83

set_option maxHeartbeats 4000000 in
set_option maxRecDepth 100000 in
theorem c_X1_seekLower (l : Launch) (G : zG) (sz : Nat) (l0 : Nat) (lb : Nat) (lc : Nat) (bS : Int) (bF : Nat → Int) (kF : Nat → Int) (fa : Int) (fb : Int) (hkF : ∀ k : Nat, -36 ≤ kF k ∧ kF k ≤ 36) (hbS : lOK (bS, bF)) (hfa : 0 ≤ fa ∧ fa < 8) (hfb : 0 ≤ fb ∧ fb < 8) : Met l yX1_seekLower (Cond.code yX1_seekLower cX1_seekLower 5 none :: zT) (zRm 1 25) (zPw G [.ref l0, .int (iV fa), .int (iV fb)] [(l0, .inr (1, [.int (iV bS), .ref lb, .ref lc])), (lb, .inl (G.2.1, 4, .inl (fun k => iV (bF k)))), (lc, .inl (G.2.1, 32, .inl (fun k => iV (kF k))))] sz) (zQv G [(l0, .inr (1, [.int (iV bS), .ref lb, .ref lc])), (lb, .inl (G.2.1, 4, .inl (fun k => iV (bF k)))), (lc, .inl (G.2.1, 32, .inl (fun k => iV (kF k))))] [(l0, .inr (1, [.int (iV ((lR3 kF fa fb 8 0 (bS, bF)).1)), .ref lb, .ref lc])), (lb, .inl (G.2.1, 4, .inl (fun k => iV ((lR3 kF fa fb 8 0 (bS, bF)).2 k)))), (lc, .inl (G.2.1, 32, .inl (fun k => iV (kF k))))] sz) 0 0 (va_A [(l0, .inr (1, [.int (iV bS), .ref lb, .ref lc])), (lb, .inl (G.2.1, 4, .inl (fun k => iV (bF k)))), (lc, .inl (G.2.1, 32, .inl (fun k => iV (kF k))))] sz) := by
  refine Met.ofW (cc := cX1_seekLower) (maxL := 5) (ret := none) (by decide) rfl ?_
  intro p e s m args below meth c s₁ B hml hv
  obtain ⟨rfl, hsz, hP, hK, hSt, hD0⟩ := hv
  have hx := B.exec
  have hb := B.bytes
  have hr := B.returns
  have hts : ∀ w ∈ zT, w.before _ s = true := fun w h => atoms_spec (ws := (Cond.code yX1_seekLower cX1_seekLower 5 none :: zT)) B.pre w (List.mem_cons_of_mem _ h)
  have hown : s.vm.findClass RX1 = some m.cls := findClass_of_methodNamed B.named
  have hlocks := B.notSynchronized
  subst hsz
  have hD : va_D (va_A [(l0, .inr (1, [.int (iV bS), .ref lb, .ref lc])), (lb, .inl (G.2.1, 4, .inl (fun k => iV (bF k)))), (lc, .inl (G.2.1, 32, .inl (fun k => iV (kF k))))] s.heap.size) [(l0, .inr (1, [.int (iV bS), .ref lb, .ref lc])), (lb, .inl (G.2.1, 4, .inl (fun k => iV (bF k)))), (lc, .inl (G.2.1, 32, .inl (fun k => iV (kF k))))] := hD0.self
  have hA : ∀ q : Nat, s.heap.size ≤ q → va_A [(l0, .inr (1, [.int (iV bS), .ref lb, .ref lc])), (lb, .inl (G.2.1, 4, .inl (fun k => iV (bF k)))), (lc, .inl (G.2.1, 32, .inl (fun k => iV (kF k))))] s.heap.size q := fun q h => Or.inr h
  have hS : va_S (va_A [(l0, .inr (1, [.int (iV bS), .ref lb, .ref lc])), (lb, .inl (G.2.1, 4, .inl (fun k => iV (bF k)))), (lc, .inl (G.2.1, 32, .inl (fun k => iV (kF k))))] s.heap.size) s.heap s.heap [] := va_S.rf
  have hP : va_P G.1 vwCl [(l0, .inr (1, [.int (iV bS), .ref lb, .ref lc])), (lb, .inl (G.2.1, 4, .inl (fun k => iV (bF k)))), (lc, .inl (G.2.1, 32, .inl (fun k => iV (kF k))))] s.heap := hP
  have X := And.intro hx (And.intro hb (And.intro hml (And.intro hown (And.intro hts (And.intro hK (And.intro hSt hA))))))
  have hl := lv_entry ([.ref l0, .int (iV fa), .int (iV fb)]) (n := 5) (Nat.le_of_ble_eq_true rfl)
  rw [lg_entry_eq]
  generalize (lg_sl ([.ref l0, .int (iV fa), .int (iV fb)]) ++ List.replicate (5 - (lg_sl ([.ref l0, .int (iV fa), .int (iV fb)])).length) Slot.unset).toArray = ls at hl ⊢
  have hl : lv_has ls 5 [(0, .ref l0), (1, .int (iV fa)), (2, .int (iV fb))] := hl
  refine lv_iconst (v := iV 0) hx hb dX1_seekLower_0 (by decide) ?_
  refine lv_istore_n (lv' := [(3, .int (iV 0)), (0, .ref l0), (1, .int (iV fa)), (2, .int (iV fb))]) hx hb dX1_seekLower_1 rfl hl (by decide) rfl (fun ls hl => ?_)
  have lp_2 : ∀ (k : Nat) (iq : Nat) (s2 : Int) (b2 : Nat → Int) , (iq ≤ 8) → (lOK (s2, b2)) → ((lR3 kF fa fb 8 0 (bS, bF)) = lR3 kF fa fb (8 - iq) iq (s2, b2)) → (8 - iq) < k → ∀ (H : Heap) (locs : List Loc), va_P G.1 vwCl [(l0, .inr (1, [.int (iV s2), .ref lb, .ref lc])), (lb, .inl (G.2.1, 4, .inl (fun k => iV (b2 k)))), (lc, .inl (G.2.1, 32, .inl (fun k => iV (kF k))))] H → va_D (va_A [(l0, .inr (1, [.int (iV bS), .ref lb, .ref lc])), (lb, .inl (G.2.1, 4, .inl (fun k => iV (bF k)))), (lc, .inl (G.2.1, 32, .inl (fun k => iV (kF k))))] s.heap.size) [(l0, .inr (1, [.int (iV s2), .ref lb, .ref lc])), (lb, .inl (G.2.1, 4, .inl (fun k => iV (b2 k)))), (lc, .inl (G.2.1, 32, .inl (fun k => iV (kF k))))] → va_S (va_A [(l0, .inr (1, [.int (iV bS), .ref lb, .ref lc])), (lb, .inl (G.2.1, 4, .inl (fun k => iV (bF k)))), (lc, .inl (G.2.1, 32, .inl (fun k => iV (kF k))))] s.heap.size) s.heap H locs → ∀ ls : Array Slot, lv_has ls 5 [(0, .ref l0), (1, .int (iV fa)), (2, .int (iV fb)), (3, .int (iV (Nat.cast iq : Int)))] → W p l e (headSpec (Cond.code yX1_seekLower cX1_seekLower 5 none :: zT) (zRm 1 25)).room s m ([Value.ref l0, Value.int (iV fa), Value.int (iV fb)] : List Value).toArray below meth c H locs 0 0 (MQ below (zQv G [(l0, .inr (1, [.int (iV bS), .ref lb, .ref lc])), (lb, .inl (G.2.1, 4, .inl (fun k => iV (bF k)))), (lc, .inl (G.2.1, 32, .inl (fun k => iV (kF k))))] [(l0, .inr (1, [.int (iV ((lR3 kF fa fb 8 0 (bS, bF)).1)), .ref lb, .ref lc])), (lb, .inl (G.2.1, 4, .inl (fun k => iV ((lR3 kF fa fb 8 0 (bS, bF)).2 k)))), (lc, .inl (G.2.1, 32, .inl (fun k => iV (kF k))))] s.heap.size) ([Value.ref l0, Value.int (iV fa), Value.int (iV fb)] : List Value).toArray s 0 0 (va_A [(l0, .inr (1, [.int (iV bS), .ref lb, .ref lc])), (lb, .inl (G.2.1, 4, .inl (fun k => iV (bF k)))), (lc, .inl (G.2.1, 32, .inl (fun k => iV (kF k))))] s.heap.size)) (F0 m 2 ls []) := by
    intro k
    induction k with
    | zero => intro iq s2 b2 hi hb2 hp hk_; exact absurd hk_ (Nat.not_lt_zero _)
    | succ k ih_2 =>
      intro iq s2 b2 hi hb2 hp hk_2 H locs hP hD hS ls hl
      refine lv_iload_n hx hb dX1_seekLower_2 rfl (lv_at hl 3 rfl) ?_
      refine lv_bipush (v := iV 8) hx hb dX1_seekLower_3 (by decide) ?_
      refine z_icmp_ge (tgt := 65) hx hb (by omega) ⟨by decide, by decide⟩ dX1_seekLower_5 (by decide) (fun c_1 => ?_) (fun c_1 => ?_)
      · have hP : va_P G.1 vwCl [(l0, .inr (1, [.int (iV ((lR3 kF fa fb 8 0 (bS, bF)).1)), .ref lb, .ref lc])), (lb, .inl (G.2.1, 4, .inl (fun k => iV ((lR3 kF fa fb 8 0 (bS, bF)).2 k)))), (lc, .inl (G.2.1, 32, .inl (fun k => iV (kF k))))] _ := z_castP (by have h8 : iq = 8 := (by omega); subst h8; rw [hp]; rfl) hP
        exact z_retv hx hb hr hlocks hP hS dX1_seekLower_65
      · refine lv_iconst (v := iV 0) hx hb dX1_seekLower_8 (by decide) ?_
        refine lv_istore (lv' := [(4, .int (iV 0)), (0, .ref l0), (1, .int (iV fa)), (2, .int (iV fb)), (3, .int (iV (Nat.cast iq : Int)))]) hx hb dX1_seekLower_9 hl (by decide) rfl (fun ls hl => ?_)
        have lp_11 : ∀ (k : Nat) (jq : Nat) (s3 : Int) (b3 : Nat → Int) , (jq ≤ 8) → (lOK (s3, b3)) → (lR4 kF fa fb (Nat.cast iq : Int) 8 0 (s2, b2) = lR4 kF fa fb (Nat.cast iq : Int) (8 - jq) jq (s3, b3)) → (8 - jq) < k → ∀ (H : Heap) (locs : List Loc), va_P G.1 vwCl [(l0, .inr (1, [.int (iV s3), .ref lb, .ref lc])), (lb, .inl (G.2.1, 4, .inl (fun k => iV (b3 k)))), (lc, .inl (G.2.1, 32, .inl (fun k => iV (kF k))))] H → va_D (va_A [(l0, .inr (1, [.int (iV bS), .ref lb, .ref lc])), (lb, .inl (G.2.1, 4, .inl (fun k => iV (bF k)))), (lc, .inl (G.2.1, 32, .inl (fun k => iV (kF k))))] s.heap.size) [(l0, .inr (1, [.int (iV s3), .ref lb, .ref lc])), (lb, .inl (G.2.1, 4, .inl (fun k => iV (b3 k)))), (lc, .inl (G.2.1, 32, .inl (fun k => iV (kF k))))] → va_S (va_A [(l0, .inr (1, [.int (iV bS), .ref lb, .ref lc])), (lb, .inl (G.2.1, 4, .inl (fun k => iV (bF k)))), (lc, .inl (G.2.1, 32, .inl (fun k => iV (kF k))))] s.heap.size) s.heap H locs → ∀ ls : Array Slot, lv_has ls 5 [(0, .ref l0), (1, .int (iV fa)), (2, .int (iV fb)), (3, .int (iV (Nat.cast iq : Int))), (4, .int (iV (Nat.cast jq : Int)))] → W p l e (headSpec (Cond.code yX1_seekLower cX1_seekLower 5 none :: zT) (zRm 1 25)).room s m ([Value.ref l0, Value.int (iV fa), Value.int (iV fb)] : List Value).toArray below meth c H locs 0 0 (MQ below (zQv G [(l0, .inr (1, [.int (iV bS), .ref lb, .ref lc])), (lb, .inl (G.2.1, 4, .inl (fun k => iV (bF k)))), (lc, .inl (G.2.1, 32, .inl (fun k => iV (kF k))))] [(l0, .inr (1, [.int (iV ((lR3 kF fa fb 8 0 (bS, bF)).1)), .ref lb, .ref lc])), (lb, .inl (G.2.1, 4, .inl (fun k => iV ((lR3 kF fa fb 8 0 (bS, bF)).2 k)))), (lc, .inl (G.2.1, 32, .inl (fun k => iV (kF k))))] s.heap.size) ([Value.ref l0, Value.int (iV fa), Value.int (iV fb)] : List Value).toArray s 0 0 (va_A [(l0, .inr (1, [.int (iV bS), .ref lb, .ref lc])), (lb, .inl (G.2.1, 4, .inl (fun k => iV (bF k)))), (lc, .inl (G.2.1, 32, .inl (fun k => iV (kF k))))] s.heap.size)) (F0 m 11 ls []) := by
          intro k
          induction k with
          | zero => intro jq s3 b3 hj hb3 hp2 hk_; exact absurd hk_ (Nat.not_lt_zero _)
          | succ k ih_11 =>
            intro jq s3 b3 hj hb3 hp2 hk_11 H locs hP hD hS ls hl
            refine lv_iload hx hb dX1_seekLower_11 (lv_at hl 4 rfl) ?_
            refine lv_bipush (v := iV 8) hx hb dX1_seekLower_13 (by decide) ?_
            refine z_icmp_ge (tgt := 59) hx hb (by omega) ⟨by decide, by decide⟩ dX1_seekLower_15 (by decide) (fun c_2 => ?_) (fun c_2 => ?_)
            · refine z_iinc (lv' := [(3, .int (iV ((Nat.cast iq : Int) + 1))), (0, .ref l0), (1, .int (iV fa)), (2, .int (iV fb)), (4, .int (iV (Nat.cast jq : Int)))]) hx hb dX1_seekLower_59 hl (k := 3) rfl (by decide) rfl (fun ls hl => ?_)
              refine lv_goto (tgt := 2) hx hb dX1_seekLower_62 (by decide) ?_
              exact ih_2 (iq + 1) s3 b3 (by first | assumption | omega) (hb3) (by have h8 : jq = 8 := (by omega); subst h8; rw [hp, lR3_s (by omega), hp2]; rfl) (by omega) _ _ hP hD hS _ (lv_cons (lv_at hl 1 rfl) (lv_cons (lv_at hl 2 rfl) (lv_cons (lv_at hl 3 rfl) (lv_cons (lv_i hl 0 rfl (by omega)) (lv_nil hl)))))
            · refine lv_iload_n hx hb dX1_seekLower_18 rfl (lv_at hl 1 rfl) ?_
              refine lv_iload_n hx hb dX1_seekLower_19 rfl (lv_at hl 3 rfl) ?_
              refine z_callS X hP hS hl.1 (c_X1_isSmallTurn l G _ fa (Nat.cast iq : Int) (by first | assumption | omega) (by first | assumption | omega)) wd_606 kX1_isSmallTurn ⟨rfl, rfl, Nat.le_of_ble_eq_true rfl, Nat.le_of_ble_eq_true rfl⟩ [] rfl rfl rfl (Nat.le_of_ble_eq_true rfl) dX1_seekLower_20 ⟨Nat.zero_le _, Nat.zero_le _⟩ (fun H locs hP hS => ?_)
              refine z_ifb_eq (tgt := 53) hx hb dX1_seekLower_23 (by decide) (fun c_3 => ?_) (fun c_3 => ?_)
              · refine z_iinc (lv' := [(4, .int (iV ((Nat.cast jq : Int) + 1))), (0, .ref l0), (1, .int (iV fa)), (2, .int (iV fb)), (3, .int (iV (Nat.cast iq : Int)))]) hx hb dX1_seekLower_53 hl (k := 4) rfl (by decide) rfl (fun ls hl => ?_)
                refine lv_goto (tgt := 11) hx hb dX1_seekLower_56 (by decide) ?_
                exact ih_11 (jq + 1) s3 b3 (by first | assumption | omega) (by first | assumption | exact lKeep_ok hkF hb3 _ _ _ _) (by first | (rw [hp2, lR4_t (by omega) ⟨by assumption, by assumption, by assumption⟩] <;> rfl) | (rw [hp2, lR4_f (by omega) (fun q => by first | exact absurd q.1 (by assumption) | exact absurd q.2.1 (by assumption) | exact absurd q.2.2 (by assumption))])) (by omega) _ _ hP hD hS _ (lv_cons (lv_at hl 1 rfl) (lv_cons (lv_at hl 2 rfl) (lv_cons (lv_at hl 3 rfl) (lv_cons (lv_at hl 4 rfl) (lv_cons (lv_i hl 0 rfl (by omega)) (lv_nil hl))))))
              · refine lv_iload_n hx hb dX1_seekLower_26 rfl (lv_at hl 2 rfl) ?_
                refine lv_iload hx hb dX1_seekLower_27 (lv_at hl 4 rfl) ?_
                refine z_callS X hP hS hl.1 (c_X1_isSmallTurn l G _ fb (Nat.cast jq : Int) (by first | assumption | omega) (by first | assumption | omega)) wd_606 kX1_isSmallTurn ⟨rfl, rfl, Nat.le_of_ble_eq_true rfl, Nat.le_of_ble_eq_true rfl⟩ [] rfl rfl rfl (Nat.le_of_ble_eq_true rfl) dX1_seekLower_29 ⟨Nat.zero_le _, Nat.zero_le _⟩ (fun H locs hP hS => ?_)
                refine z_ifb_eq (tgt := 53) hx hb dX1_seekLower_32 (by decide) (fun c_4 => ?_) (fun c_4 => ?_)
                · refine z_iinc (lv' := [(4, .int (iV ((Nat.cast jq : Int) + 1))), (0, .ref l0), (1, .int (iV fa)), (2, .int (iV fb)), (3, .int (iV (Nat.cast iq : Int)))]) hx hb dX1_seekLower_53 hl (k := 4) rfl (by decide) rfl (fun ls hl => ?_)
                  refine lv_goto (tgt := 11) hx hb dX1_seekLower_56 (by decide) ?_
                  exact ih_11 (jq + 1) s3 b3 (by first | assumption | omega) (by first | assumption | exact lKeep_ok hkF hb3 _ _ _ _) (by first | (rw [hp2, lR4_t (by omega) ⟨by assumption, by assumption, by assumption⟩] <;> rfl) | (rw [hp2, lR4_f (by omega) (fun q => by first | exact absurd q.1 (by assumption) | exact absurd q.2.1 (by assumption) | exact absurd q.2.2 (by assumption))])) (by omega) _ _ hP hD hS _ (lv_cons (lv_at hl 1 rfl) (lv_cons (lv_at hl 2 rfl) (lv_cons (lv_at hl 3 rfl) (lv_cons (lv_at hl 4 rfl) (lv_cons (lv_i hl 0 rfl (by omega)) (lv_nil hl))))))
                · refine lv_iload_n hx hb dX1_seekLower_35 rfl (lv_at hl 3 rfl) ?_
                  refine lv_iload hx hb dX1_seekLower_36 (lv_at hl 4 rfl) ?_
                  refine z_callS X hP hS hl.1 (c_X1_isSmallTurn l G _ (Nat.cast iq : Int) (Nat.cast jq : Int) (by first | assumption | omega) (by first | assumption | omega)) wd_606 kX1_isSmallTurn ⟨rfl, rfl, Nat.le_of_ble_eq_true rfl, Nat.le_of_ble_eq_true rfl⟩ [] rfl rfl rfl (Nat.le_of_ble_eq_true rfl) dX1_seekLower_38 ⟨Nat.zero_le _, Nat.zero_le _⟩ (fun H locs hP hS => ?_)
                  refine z_ifb_eq (tgt := 53) hx hb dX1_seekLower_41 (by decide) (fun c_5 => ?_) (fun c_5 => ?_)
                  · refine z_iinc (lv' := [(4, .int (iV ((Nat.cast jq : Int) + 1))), (0, .ref l0), (1, .int (iV fa)), (2, .int (iV fb)), (3, .int (iV (Nat.cast iq : Int)))]) hx hb dX1_seekLower_53 hl (k := 4) rfl (by decide) rfl (fun ls hl => ?_)
                    refine lv_goto (tgt := 11) hx hb dX1_seekLower_56 (by decide) ?_
                    exact ih_11 (jq + 1) s3 b3 (by first | assumption | omega) (by first | assumption | exact lKeep_ok hkF hb3 _ _ _ _) (by first | (rw [hp2, lR4_t (by omega) ⟨by assumption, by assumption, by assumption⟩] <;> rfl) | (rw [hp2, lR4_f (by omega) (fun q => by first | exact absurd q.1 (by assumption) | exact absurd q.2.1 (by assumption) | exact absurd q.2.2 (by assumption))])) (by omega) _ _ hP hD hS _ (lv_cons (lv_at hl 1 rfl) (lv_cons (lv_at hl 2 rfl) (lv_cons (lv_at hl 3 rfl) (lv_cons (lv_at hl 4 rfl) (lv_cons (lv_i hl 0 rfl (by omega)) (lv_nil hl))))))
                  · refine lv_aload_n hx hb dX1_seekLower_44 rfl (lv_at hl 0 rfl) ?_
                    refine lv_iload_n hx hb dX1_seekLower_45 rfl (lv_at hl 1 rfl) ?_
                    refine lv_iload_n hx hb dX1_seekLower_46 rfl (lv_at hl 2 rfl) ?_
                    refine lv_iload_n hx hb dX1_seekLower_47 rfl (lv_at hl 3 rfl) ?_
                    refine lv_iload hx hb dX1_seekLower_48 (lv_at hl 4 rfl) ?_
                    refine z_callVwv (w2 := [(l0, .inr (1, [.int (iV ((lKeep kF (s3, b3) fa fb (Nat.cast iq : Int) (Nat.cast jq : Int)).1)), .ref lb, .ref lc])), (lb, .inl (G.2.1, 4, .inl (fun k => iV ((lKeep kF (s3, b3) fa fb (Nat.cast iq : Int) (Nat.cast jq : Int)).2 k)))), (lc, .inl (G.2.1, 32, .inl (fun k => iV (kF k))))]) X hP hD hS hl.1 (c_X1_keepIfBetter l G _ l0 lb lc s3 b3 kF fa fb (Nat.cast iq : Int) (Nat.cast jq : Int) (by first | assumption | omega) (by assumption) (by first | assumption | omega) (by first | assumption | omega) (by first | assumption | omega) (by first | assumption | omega)) wd_613 kX1_keepIfBetter ⟨rfl, rfl, Nat.le_of_ble_eq_true rfl, Nat.le_of_ble_eq_true rfl⟩ [0, 1, 2] [] rfl rfl rfl ⟨rfl, rfl⟩ rfl (by decide) 0 rfl rfl rfl rfl (Nat.le_of_ble_eq_true rfl) dX1_seekLower_50 ⟨Nat.zero_le _, Nat.zero_le _⟩ (fun H locs hP hD hS => ?_)
                    refine z_iinc (lv' := [(4, .int (iV ((Nat.cast jq : Int) + 1))), (0, .ref l0), (1, .int (iV fa)), (2, .int (iV fb)), (3, .int (iV (Nat.cast iq : Int)))]) hx hb dX1_seekLower_53 hl (k := 4) rfl (by decide) rfl (fun ls hl => ?_)
                    refine lv_goto (tgt := 11) hx hb dX1_seekLower_56 (by decide) ?_
                    have hP : va_P G.1 vwCl [(l0, .inr (1, [.int (iV ((lKeep kF (s3, b3) fa fb (Nat.cast iq : Int) (Nat.cast jq : Int)).1)), .ref lb, .ref lc])), (lb, .inl (G.2.1, 4, .inl (fun k => iV (((lKeep kF (s3, b3) fa fb (Nat.cast iq : Int) (Nat.cast jq : Int)).2) k)))), (lc, .inl (G.2.1, 32, .inl (fun k => iV (kF k))))] _ := z_castP (by rfl) hP
                    have hD : va_D _ [(l0, .inr (1, [.int (iV ((lKeep kF (s3, b3) fa fb (Nat.cast iq : Int) (Nat.cast jq : Int)).1)), .ref lb, .ref lc])), (lb, .inl (G.2.1, 4, .inl (fun k => iV (((lKeep kF (s3, b3) fa fb (Nat.cast iq : Int) (Nat.cast jq : Int)).2) k)))), (lc, .inl (G.2.1, 32, .inl (fun k => iV (kF k))))] := z_castD (by rfl) hD
                    exact ih_11 (jq + 1) ((lKeep kF (s3, b3) fa fb (Nat.cast iq : Int) (Nat.cast jq : Int)).1) ((lKeep kF (s3, b3) fa fb (Nat.cast iq : Int) (Nat.cast jq : Int)).2) (by first | assumption | omega) (by first | assumption | exact lKeep_ok hkF hb3 _ _ _ _) (by first | (rw [hp2, lR4_t (by omega) ⟨by assumption, by assumption, by assumption⟩] <;> rfl) | (rw [hp2, lR4_f (by omega) (fun q => by first | exact absurd q.1 (by assumption) | exact absurd q.2.1 (by assumption) | exact absurd q.2.2 (by assumption))])) (by omega) _ _ hP hD hS _ (lv_cons (lv_at hl 1 rfl) (lv_cons (lv_at hl 2 rfl) (lv_cons (lv_at hl 3 rfl) (lv_cons (lv_at hl 4 rfl) (lv_cons (lv_i hl 0 rfl (by omega)) (lv_nil hl))))))
        exact lp_11 _ 0 s2 b2 (by first | assumption | omega) (hb2) (rfl) (Nat.lt_succ_self _) _ _ hP hD hS _ (lv_cons (lv_at hl 1 rfl) (lv_cons (lv_at hl 2 rfl) (lv_cons (lv_at hl 3 rfl) (lv_cons (lv_at hl 4 rfl) (lv_cons (lv_i hl 0 rfl (by omega)) (lv_nil hl))))))
  exact lp_2 _ 0 bS bF (by first | assumption | omega) (hbS) (rfl) (Nat.lt_succ_self _) _ _ hP hD hS _ (lv_cons (lv_at hl 1 rfl) (lv_cons (lv_at hl 2 rfl) (lv_cons (lv_at hl 3 rfl) (lv_cons (lv_i hl 0 rfl (by omega)) (lv_nil hl)))))

set_option maxHeartbeats 4000000 in
set_option maxRecDepth 100000 in
theorem c_X1_seekBest (l : Launch) (G : zG) (sz : Nat) (l0 : Nat) (lb : Nat) (lc : Nat) (bS : Int) (bF : Nat → Int) (kF : Nat → Int) (h0 : Nat) (ha : Nat) (wI : Int) (hI : Int) (gI : Nat → Int) (hkF : ∀ k : Nat, -36 ≤ kF k ∧ kF k ≤ 36) (hG : gOK wI hI gI) : Met l yX1_seekBest (Cond.code yX1_seekBest cX1_seekBest 4 none :: zT) (zRm 5 121) (zPw G [.ref l0, .ref h0] [(l0, .inr (1, [.int (iV bS), .ref lb, .ref lc])), (lb, .inl (G.2.1, 4, .inl (fun k => iV (bF k)))), (lc, .inl (G.2.1, 32, .inl (fun k => iV (kF k)))), (h0, .inr (0, [.int (iV wI), .int (iV hI), .ref ha])), (ha, .inl (G.2.1, 81, .inl (fun k => iV (gI k))))] sz) (zQv G [(l0, .inr (1, [.int (iV bS), .ref lb, .ref lc])), (lb, .inl (G.2.1, 4, .inl (fun k => iV (bF k)))), (lc, .inl (G.2.1, 32, .inl (fun k => iV (kF k)))), (h0, .inr (0, [.int (iV wI), .int (iV hI), .ref ha])), (ha, .inl (G.2.1, 81, .inl (fun k => iV (gI k))))] [(l0, .inr (1, [.int (iV ((lR1 (zTake 32 (gK wI hI gI) kF) 8 0 (-1, bF)).1)), .ref lb, .ref lc])), (lb, .inl (G.2.1, 4, .inl (fun k => iV ((lR1 (zTake 32 (gK wI hI gI) kF) 8 0 (-1, bF)).2 k)))), (lc, .inl (G.2.1, 32, .inl (fun k => iV (zTake 32 (gK wI hI gI) kF k)))), (h0, .inr (0, [.int (iV wI), .int (iV hI), .ref ha])), (ha, .inl (G.2.1, 81, .inl (fun k => iV (gI k))))] sz) 0 0 (va_A [(l0, .inr (1, [.int (iV bS), .ref lb, .ref lc])), (lb, .inl (G.2.1, 4, .inl (fun k => iV (bF k)))), (lc, .inl (G.2.1, 32, .inl (fun k => iV (kF k)))), (h0, .inr (0, [.int (iV wI), .int (iV hI), .ref ha])), (ha, .inl (G.2.1, 81, .inl (fun k => iV (gI k))))] sz) := by
  refine Met.ofW (cc := cX1_seekBest) (maxL := 4) (ret := none) (by decide) rfl ?_
  intro p e s m args below meth c s₁ B hml hv
  obtain ⟨rfl, hsz, hP, hK, hSt, hD0⟩ := hv
  have hx := B.exec
  have hb := B.bytes
  have hr := B.returns
  have hts : ∀ w ∈ zT, w.before _ s = true := fun w h => atoms_spec (ws := (Cond.code yX1_seekBest cX1_seekBest 4 none :: zT)) B.pre w (List.mem_cons_of_mem _ h)
  have hown : s.vm.findClass RX1 = some m.cls := findClass_of_methodNamed B.named
  have hlocks := B.notSynchronized
  subst hsz
  have hD : va_D (va_A [(l0, .inr (1, [.int (iV bS), .ref lb, .ref lc])), (lb, .inl (G.2.1, 4, .inl (fun k => iV (bF k)))), (lc, .inl (G.2.1, 32, .inl (fun k => iV (kF k)))), (h0, .inr (0, [.int (iV wI), .int (iV hI), .ref ha])), (ha, .inl (G.2.1, 81, .inl (fun k => iV (gI k))))] s.heap.size) [(l0, .inr (1, [.int (iV bS), .ref lb, .ref lc])), (lb, .inl (G.2.1, 4, .inl (fun k => iV (bF k)))), (lc, .inl (G.2.1, 32, .inl (fun k => iV (kF k)))), (h0, .inr (0, [.int (iV wI), .int (iV hI), .ref ha])), (ha, .inl (G.2.1, 81, .inl (fun k => iV (gI k))))] := hD0.self
  have hA : ∀ q : Nat, s.heap.size ≤ q → va_A [(l0, .inr (1, [.int (iV bS), .ref lb, .ref lc])), (lb, .inl (G.2.1, 4, .inl (fun k => iV (bF k)))), (lc, .inl (G.2.1, 32, .inl (fun k => iV (kF k)))), (h0, .inr (0, [.int (iV wI), .int (iV hI), .ref ha])), (ha, .inl (G.2.1, 81, .inl (fun k => iV (gI k))))] s.heap.size q := fun q h => Or.inr h
  have hS : va_S (va_A [(l0, .inr (1, [.int (iV bS), .ref lb, .ref lc])), (lb, .inl (G.2.1, 4, .inl (fun k => iV (bF k)))), (lc, .inl (G.2.1, 32, .inl (fun k => iV (kF k)))), (h0, .inr (0, [.int (iV wI), .int (iV hI), .ref ha])), (ha, .inl (G.2.1, 81, .inl (fun k => iV (gI k))))] s.heap.size) s.heap s.heap [] := va_S.rf
  have hP : va_P G.1 vwCl [(l0, .inr (1, [.int (iV bS), .ref lb, .ref lc])), (lb, .inl (G.2.1, 4, .inl (fun k => iV (bF k)))), (lc, .inl (G.2.1, 32, .inl (fun k => iV (kF k)))), (h0, .inr (0, [.int (iV wI), .int (iV hI), .ref ha])), (ha, .inl (G.2.1, 81, .inl (fun k => iV (gI k))))] s.heap := hP
  have X := And.intro hx (And.intro hb (And.intro hml (And.intro hown (And.intro hts (And.intro hK (And.intro hSt hA))))))
  have hl := lv_entry ([.ref l0, .ref h0]) (n := 4) (Nat.le_of_ble_eq_true rfl)
  rw [lg_entry_eq]
  generalize (lg_sl ([.ref l0, .ref h0]) ++ List.replicate (4 - (lg_sl ([.ref l0, .ref h0])).length) Slot.unset).toArray = ls at hl ⊢
  have hl : lv_has ls 4 [(0, .ref l0), (1, .ref h0)] := hl
  obtain ⟨hW0, hW9, hH0, hH9, hg⟩ := id hG
  have hgK := gK_r hG
  have hkT := zTake_r hgK hkF 32
  refine lv_iconst (v := iV 0) hx hb dX1_seekBest_0 (by decide) ?_
  refine lv_istore_n (lv' := [(2, .int (iV 0)), (0, .ref l0), (1, .ref h0)]) hx hb dX1_seekBest_1 rfl hl (by decide) rfl (fun ls hl => ?_)
  have lp_2 : ∀ (k : Nat) (aq : Nat) , (aq ≤ 4) → (4 - aq) < k → ∀ (H : Heap) (locs : List Loc), va_P G.1 vwCl [(l0, .inr (1, [.int (iV bS), .ref lb, .ref lc])), (lb, .inl (G.2.1, 4, .inl (fun k => iV (bF k)))), (lc, .inl (G.2.1, 32, .inl (fun k => iV (zTake (8 * aq) (gK wI hI gI) kF k)))), (h0, .inr (0, [.int (iV wI), .int (iV hI), .ref ha])), (ha, .inl (G.2.1, 81, .inl (fun k => iV (gI k))))] H → va_D (va_A [(l0, .inr (1, [.int (iV bS), .ref lb, .ref lc])), (lb, .inl (G.2.1, 4, .inl (fun k => iV (bF k)))), (lc, .inl (G.2.1, 32, .inl (fun k => iV (kF k)))), (h0, .inr (0, [.int (iV wI), .int (iV hI), .ref ha])), (ha, .inl (G.2.1, 81, .inl (fun k => iV (gI k))))] s.heap.size) [(l0, .inr (1, [.int (iV bS), .ref lb, .ref lc])), (lb, .inl (G.2.1, 4, .inl (fun k => iV (bF k)))), (lc, .inl (G.2.1, 32, .inl (fun k => iV (zTake (8 * aq) (gK wI hI gI) kF k)))), (h0, .inr (0, [.int (iV wI), .int (iV hI), .ref ha])), (ha, .inl (G.2.1, 81, .inl (fun k => iV (gI k))))] → va_S (va_A [(l0, .inr (1, [.int (iV bS), .ref lb, .ref lc])), (lb, .inl (G.2.1, 4, .inl (fun k => iV (bF k)))), (lc, .inl (G.2.1, 32, .inl (fun k => iV (kF k)))), (h0, .inr (0, [.int (iV wI), .int (iV hI), .ref ha])), (ha, .inl (G.2.1, 81, .inl (fun k => iV (gI k))))] s.heap.size) s.heap H locs → ∀ ls : Array Slot, lv_has ls 4 [(0, .ref l0), (1, .ref h0), (2, .int (iV (Nat.cast aq : Int)))] → W p l e (headSpec (Cond.code yX1_seekBest cX1_seekBest 4 none :: zT) (zRm 5 121)).room s m ([Value.ref l0, Value.ref h0] : List Value).toArray below meth c H locs 0 0 (MQ below (zQv G [(l0, .inr (1, [.int (iV bS), .ref lb, .ref lc])), (lb, .inl (G.2.1, 4, .inl (fun k => iV (bF k)))), (lc, .inl (G.2.1, 32, .inl (fun k => iV (kF k)))), (h0, .inr (0, [.int (iV wI), .int (iV hI), .ref ha])), (ha, .inl (G.2.1, 81, .inl (fun k => iV (gI k))))] [(l0, .inr (1, [.int (iV ((lR1 (zTake 32 (gK wI hI gI) kF) 8 0 (-1, bF)).1)), .ref lb, .ref lc])), (lb, .inl (G.2.1, 4, .inl (fun k => iV ((lR1 (zTake 32 (gK wI hI gI) kF) 8 0 (-1, bF)).2 k)))), (lc, .inl (G.2.1, 32, .inl (fun k => iV (zTake 32 (gK wI hI gI) kF k)))), (h0, .inr (0, [.int (iV wI), .int (iV hI), .ref ha])), (ha, .inl (G.2.1, 81, .inl (fun k => iV (gI k))))] s.heap.size) ([Value.ref l0, Value.ref h0] : List Value).toArray s 0 0 (va_A [(l0, .inr (1, [.int (iV bS), .ref lb, .ref lc])), (lb, .inl (G.2.1, 4, .inl (fun k => iV (bF k)))), (lc, .inl (G.2.1, 32, .inl (fun k => iV (kF k)))), (h0, .inr (0, [.int (iV wI), .int (iV hI), .ref ha])), (ha, .inl (G.2.1, 81, .inl (fun k => iV (gI k))))] s.heap.size)) (F0 m 2 ls []) := by
    intro k
    induction k with
    | zero => intro aq ha_ hk_; exact absurd hk_ (Nat.not_lt_zero _)
    | succ k ih_2 =>
      intro aq ha_ hk_2 H locs hP hD hS ls hl
      refine lv_iload_n hx hb dX1_seekBest_2 rfl (lv_at hl 2 rfl) ?_
      refine lv_iconst (v := iV 4) hx hb dX1_seekBest_3 (by decide) ?_
      refine z_icmp_ge (tgt := 44) hx hb (by omega) ⟨by decide, by decide⟩ dX1_seekBest_4 (by decide) (fun c_1 => ?_) (fun c_1 => ?_)
      · refine lv_aload_n hx hb dX1_seekBest_44 rfl (lv_at hl 0 rfl) ?_
        refine lv_iconst (v := iV (-1)) hx hb dX1_seekBest_45 (by decide) ?_
        refine va_put (D := G.1) (ci := 1) (v := .int (iV (-1))) (ty := .int) (C := RX1) (T := TX1) (N := 3) hx hb hts inX1 tyX1 tyX1_ok nmX1 hown hK hP hD hS 0 rfl rfl 0 (by decide) (hts _ wd_140) (fun _ h9 => h9) rfl (by decide +kernel) rfl rfl (Nat.le_of_ble_eq_true rfl) dX1_seekBest_46 (fun H locs hP hD hS => ?_)
        have hP : va_P G.1 vwCl [(l0, .inr (1, [.int (iV (-1)), .ref lb, .ref lc])), (lb, .inl (G.2.1, 4, .inl (fun k => iV (bF k)))), (lc, .inl (G.2.1, 32, .inl (fun k => iV (zTake (8 * aq) (gK wI hI gI) kF k)))), (h0, .inr (0, [.int (iV wI), .int (iV hI), .ref ha])), (ha, .inl (G.2.1, 81, .inl (fun k => iV (gI k))))] H := hP
        have hD : va_D _ [(l0, .inr (1, [.int (iV (-1)), .ref lb, .ref lc])), (lb, .inl (G.2.1, 4, .inl (fun k => iV (bF k)))), (lc, .inl (G.2.1, 32, .inl (fun k => iV (zTake (8 * aq) (gK wI hI gI) kF k)))), (h0, .inr (0, [.int (iV wI), .int (iV hI), .ref ha])), (ha, .inl (G.2.1, 81, .inl (fun k => iV (gI k))))] := hD
        have hP : va_P G.1 vwCl [(l0, .inr (1, [.int (iV (-1)), .ref lb, .ref lc])), (lb, .inl (G.2.1, 4, .inl (fun k => iV (bF k)))), (lc, .inl (G.2.1, 32, .inl (fun k => iV (zTake 32 (gK wI hI gI) kF k)))), (h0, .inr (0, [.int (iV wI), .int (iV hI), .ref ha])), (ha, .inl (G.2.1, 81, .inl (fun k => iV (gI k))))] _ := z_castP (by have h8 : aq = 4 := (by omega); subst h8; rfl) hP
        have hD : va_D _ [(l0, .inr (1, [.int (iV (-1)), .ref lb, .ref lc])), (lb, .inl (G.2.1, 4, .inl (fun k => iV (bF k)))), (lc, .inl (G.2.1, 32, .inl (fun k => iV (zTake 32 (gK wI hI gI) kF k)))), (h0, .inr (0, [.int (iV wI), .int (iV hI), .ref ha])), (ha, .inl (G.2.1, 81, .inl (fun k => iV (gI k))))] := z_castD (by have h8 : aq = 4 := (by omega); subst h8; rfl) hD
        refine lv_iconst (v := iV 0) hx hb dX1_seekBest_49 (by decide) ?_
        refine lv_istore_n (lv' := [(2, .int (iV 0)), (0, .ref l0), (1, .ref h0)]) hx hb dX1_seekBest_50 rfl hl (by decide) rfl (fun ls hl => ?_)
        have lp_51 : ∀ (k : Nat) (iq : Nat) (s2 : Int) (b2 : Nat → Int) , (iq ≤ 8) → (lOK (s2, b2)) → ((lR1 (zTake 32 (gK wI hI gI) kF) 8 0 (-1, bF)) = lR1 (zTake 32 (gK wI hI gI) kF) (8 - iq) iq (s2, b2)) → (8 - iq) < k → ∀ (H : Heap) (locs : List Loc), va_P G.1 vwCl [(l0, .inr (1, [.int (iV s2), .ref lb, .ref lc])), (lb, .inl (G.2.1, 4, .inl (fun k => iV (b2 k)))), (lc, .inl (G.2.1, 32, .inl (fun k => iV (zTake 32 (gK wI hI gI) kF k)))), (h0, .inr (0, [.int (iV wI), .int (iV hI), .ref ha])), (ha, .inl (G.2.1, 81, .inl (fun k => iV (gI k))))] H → va_D (va_A [(l0, .inr (1, [.int (iV bS), .ref lb, .ref lc])), (lb, .inl (G.2.1, 4, .inl (fun k => iV (bF k)))), (lc, .inl (G.2.1, 32, .inl (fun k => iV (kF k)))), (h0, .inr (0, [.int (iV wI), .int (iV hI), .ref ha])), (ha, .inl (G.2.1, 81, .inl (fun k => iV (gI k))))] s.heap.size) [(l0, .inr (1, [.int (iV s2), .ref lb, .ref lc])), (lb, .inl (G.2.1, 4, .inl (fun k => iV (b2 k)))), (lc, .inl (G.2.1, 32, .inl (fun k => iV (zTake 32 (gK wI hI gI) kF k)))), (h0, .inr (0, [.int (iV wI), .int (iV hI), .ref ha])), (ha, .inl (G.2.1, 81, .inl (fun k => iV (gI k))))] → va_S (va_A [(l0, .inr (1, [.int (iV bS), .ref lb, .ref lc])), (lb, .inl (G.2.1, 4, .inl (fun k => iV (bF k)))), (lc, .inl (G.2.1, 32, .inl (fun k => iV (kF k)))), (h0, .inr (0, [.int (iV wI), .int (iV hI), .ref ha])), (ha, .inl (G.2.1, 81, .inl (fun k => iV (gI k))))] s.heap.size) s.heap H locs → ∀ ls : Array Slot, lv_has ls 4 [(0, .ref l0), (1, .ref h0), (2, .int (iV (Nat.cast iq : Int)))] → W p l e (headSpec (Cond.code yX1_seekBest cX1_seekBest 4 none :: zT) (zRm 5 121)).room s m ([Value.ref l0, Value.ref h0] : List Value).toArray below meth c H locs 0 0 (MQ below (zQv G [(l0, .inr (1, [.int (iV bS), .ref lb, .ref lc])), (lb, .inl (G.2.1, 4, .inl (fun k => iV (bF k)))), (lc, .inl (G.2.1, 32, .inl (fun k => iV (kF k)))), (h0, .inr (0, [.int (iV wI), .int (iV hI), .ref ha])), (ha, .inl (G.2.1, 81, .inl (fun k => iV (gI k))))] [(l0, .inr (1, [.int (iV ((lR1 (zTake 32 (gK wI hI gI) kF) 8 0 (-1, bF)).1)), .ref lb, .ref lc])), (lb, .inl (G.2.1, 4, .inl (fun k => iV ((lR1 (zTake 32 (gK wI hI gI) kF) 8 0 (-1, bF)).2 k)))), (lc, .inl (G.2.1, 32, .inl (fun k => iV (zTake 32 (gK wI hI gI) kF k)))), (h0, .inr (0, [.int (iV wI), .int (iV hI), .ref ha])), (ha, .inl (G.2.1, 81, .inl (fun k => iV (gI k))))] s.heap.size) ([Value.ref l0, Value.ref h0] : List Value).toArray s 0 0 (va_A [(l0, .inr (1, [.int (iV bS), .ref lb, .ref lc])), (lb, .inl (G.2.1, 4, .inl (fun k => iV (bF k)))), (lc, .inl (G.2.1, 32, .inl (fun k => iV (kF k)))), (h0, .inr (0, [.int (iV wI), .int (iV hI), .ref ha])), (ha, .inl (G.2.1, 81, .inl (fun k => iV (gI k))))] s.heap.size)) (F0 m 51 ls []) := by
          intro k
          induction k with
          | zero => intro iq s2 b2 hi hb2 hp hk_; exact absurd hk_ (Nat.not_lt_zero _)
          | succ k ih_51 =>
            intro iq s2 b2 hi hb2 hp hk_51 H locs hP hD hS ls hl
            refine lv_iload_n hx hb dX1_seekBest_51 rfl (lv_at hl 2 rfl) ?_
            refine lv_bipush (v := iV 8) hx hb dX1_seekBest_52 (by decide) ?_
            refine z_icmp_ge (tgt := 91) hx hb (by omega) ⟨by decide, by decide⟩ dX1_seekBest_54 (by decide) (fun c_2 => ?_) (fun c_2 => ?_)
            · have hP : va_P G.1 vwCl [(l0, .inr (1, [.int (iV ((lR1 (zTake 32 (gK wI hI gI) kF) 8 0 (-1, bF)).1)), .ref lb, .ref lc])), (lb, .inl (G.2.1, 4, .inl (fun k => iV ((lR1 (zTake 32 (gK wI hI gI) kF) 8 0 (-1, bF)).2 k)))), (lc, .inl (G.2.1, 32, .inl (fun k => iV (zTake 32 (gK wI hI gI) kF k)))), (h0, .inr (0, [.int (iV wI), .int (iV hI), .ref ha])), (ha, .inl (G.2.1, 81, .inl (fun k => iV (gI k))))] _ := z_castP (by have h8 : iq = 8 := (by omega); subst h8; rw [hp]; rfl) hP
              exact z_retv hx hb hr hlocks hP hS dX1_seekBest_91
            · refine lv_iconst (v := iV 0) hx hb dX1_seekBest_57 (by decide) ?_
              refine lv_istore_n (lv' := [(3, .int (iV 0)), (0, .ref l0), (1, .ref h0), (2, .int (iV (Nat.cast iq : Int)))]) hx hb dX1_seekBest_58 rfl hl (by decide) rfl (fun ls hl => ?_)
              have lp_59 : ∀ (k : Nat) (jq : Nat) (s3 : Int) (b3 : Nat → Int) , (jq ≤ 8) → (lOK (s3, b3)) → (lR2 (zTake 32 (gK wI hI gI) kF) (Nat.cast iq : Int) 8 0 (s2, b2) = lR2 (zTake 32 (gK wI hI gI) kF) (Nat.cast iq : Int) (8 - jq) jq (s3, b3)) → (8 - jq) < k → ∀ (H : Heap) (locs : List Loc), va_P G.1 vwCl [(l0, .inr (1, [.int (iV s3), .ref lb, .ref lc])), (lb, .inl (G.2.1, 4, .inl (fun k => iV (b3 k)))), (lc, .inl (G.2.1, 32, .inl (fun k => iV (zTake 32 (gK wI hI gI) kF k)))), (h0, .inr (0, [.int (iV wI), .int (iV hI), .ref ha])), (ha, .inl (G.2.1, 81, .inl (fun k => iV (gI k))))] H → va_D (va_A [(l0, .inr (1, [.int (iV bS), .ref lb, .ref lc])), (lb, .inl (G.2.1, 4, .inl (fun k => iV (bF k)))), (lc, .inl (G.2.1, 32, .inl (fun k => iV (kF k)))), (h0, .inr (0, [.int (iV wI), .int (iV hI), .ref ha])), (ha, .inl (G.2.1, 81, .inl (fun k => iV (gI k))))] s.heap.size) [(l0, .inr (1, [.int (iV s3), .ref lb, .ref lc])), (lb, .inl (G.2.1, 4, .inl (fun k => iV (b3 k)))), (lc, .inl (G.2.1, 32, .inl (fun k => iV (zTake 32 (gK wI hI gI) kF k)))), (h0, .inr (0, [.int (iV wI), .int (iV hI), .ref ha])), (ha, .inl (G.2.1, 81, .inl (fun k => iV (gI k))))] → va_S (va_A [(l0, .inr (1, [.int (iV bS), .ref lb, .ref lc])), (lb, .inl (G.2.1, 4, .inl (fun k => iV (bF k)))), (lc, .inl (G.2.1, 32, .inl (fun k => iV (kF k)))), (h0, .inr (0, [.int (iV wI), .int (iV hI), .ref ha])), (ha, .inl (G.2.1, 81, .inl (fun k => iV (gI k))))] s.heap.size) s.heap H locs → ∀ ls : Array Slot, lv_has ls 4 [(0, .ref l0), (1, .ref h0), (2, .int (iV (Nat.cast iq : Int))), (3, .int (iV (Nat.cast jq : Int)))] → W p l e (headSpec (Cond.code yX1_seekBest cX1_seekBest 4 none :: zT) (zRm 5 121)).room s m ([Value.ref l0, Value.ref h0] : List Value).toArray below meth c H locs 0 0 (MQ below (zQv G [(l0, .inr (1, [.int (iV bS), .ref lb, .ref lc])), (lb, .inl (G.2.1, 4, .inl (fun k => iV (bF k)))), (lc, .inl (G.2.1, 32, .inl (fun k => iV (kF k)))), (h0, .inr (0, [.int (iV wI), .int (iV hI), .ref ha])), (ha, .inl (G.2.1, 81, .inl (fun k => iV (gI k))))] [(l0, .inr (1, [.int (iV ((lR1 (zTake 32 (gK wI hI gI) kF) 8 0 (-1, bF)).1)), .ref lb, .ref lc])), (lb, .inl (G.2.1, 4, .inl (fun k => iV ((lR1 (zTake 32 (gK wI hI gI) kF) 8 0 (-1, bF)).2 k)))), (lc, .inl (G.2.1, 32, .inl (fun k => iV (zTake 32 (gK wI hI gI) kF k)))), (h0, .inr (0, [.int (iV wI), .int (iV hI), .ref ha])), (ha, .inl (G.2.1, 81, .inl (fun k => iV (gI k))))] s.heap.size) ([Value.ref l0, Value.ref h0] : List Value).toArray s 0 0 (va_A [(l0, .inr (1, [.int (iV bS), .ref lb, .ref lc])), (lb, .inl (G.2.1, 4, .inl (fun k => iV (bF k)))), (lc, .inl (G.2.1, 32, .inl (fun k => iV (kF k)))), (h0, .inr (0, [.int (iV wI), .int (iV hI), .ref ha])), (ha, .inl (G.2.1, 81, .inl (fun k => iV (gI k))))] s.heap.size)) (F0 m 59 ls []) := by
                intro k
                induction k with
                | zero => intro jq s3 b3 hj hb3 hp2 hk_; exact absurd hk_ (Nat.not_lt_zero _)
                | succ k ih_59 =>
                  intro jq s3 b3 hj hb3 hp2 hk_59 H locs hP hD hS ls hl
                  refine lv_iload_n hx hb dX1_seekBest_59 rfl (lv_at hl 3 rfl) ?_
                  refine lv_bipush (v := iV 8) hx hb dX1_seekBest_60 (by decide) ?_
                  refine z_icmp_ge (tgt := 85) hx hb (by omega) ⟨by decide, by decide⟩ dX1_seekBest_62 (by decide) (fun c_3 => ?_) (fun c_3 => ?_)
                  · refine z_iinc (lv' := [(2, .int (iV ((Nat.cast iq : Int) + 1))), (0, .ref l0), (1, .ref h0), (3, .int (iV (Nat.cast jq : Int)))]) hx hb dX1_seekBest_85 hl (k := 2) rfl (by decide) rfl (fun ls hl => ?_)
                    refine lv_goto (tgt := 51) hx hb dX1_seekBest_88 (by decide) ?_
                    exact ih_51 (iq + 1) s3 b3 (by first | assumption | omega) (hb3) (by have h8 : jq = 8 := (by omega); subst h8; rw [hp, lR1_s (by omega), hp2]; rfl) (by omega) _ _ hP hD hS _ (lv_cons (lv_at hl 1 rfl) (lv_cons (lv_at hl 2 rfl) (lv_cons (lv_i hl 0 rfl (by omega)) (lv_nil hl))))
                  · refine lv_iload_n hx hb dX1_seekBest_65 rfl (lv_at hl 2 rfl) ?_
                    refine lv_iload_n hx hb dX1_seekBest_66 rfl (lv_at hl 3 rfl) ?_
                    refine z_callS X hP hS hl.1 (c_X1_isSmallTurn l G _ (Nat.cast iq : Int) (Nat.cast jq : Int) (by first | assumption | omega) (by first | assumption | omega)) wd_606 kX1_isSmallTurn ⟨rfl, rfl, Nat.le_of_ble_eq_true rfl, Nat.le_of_ble_eq_true rfl⟩ [] rfl rfl rfl (Nat.le_of_ble_eq_true rfl) dX1_seekBest_67 ⟨Nat.zero_le _, Nat.zero_le _⟩ (fun H locs hP hS => ?_)
                    refine z_ifb_eq (tgt := 79) hx hb dX1_seekBest_70 (by decide) (fun c_4 => ?_) (fun c_4 => ?_)
                    · refine z_iinc (lv' := [(3, .int (iV ((Nat.cast jq : Int) + 1))), (0, .ref l0), (1, .ref h0), (2, .int (iV (Nat.cast iq : Int)))]) hx hb dX1_seekBest_79 hl (k := 3) rfl (by decide) rfl (fun ls hl => ?_)
                      refine lv_goto (tgt := 59) hx hb dX1_seekBest_82 (by decide) ?_
                      exact ih_59 (jq + 1) s3 b3 (by first | assumption | omega) (by first | assumption | exact lR3_ok hkT _ _ hb3) (by first | (rw [hp2, lR2_t (by omega) (by assumption)] <;> rfl) | (rw [hp2, lR2_f (by omega) (by assumption)])) (by omega) _ _ hP hD hS _ (lv_cons (lv_at hl 1 rfl) (lv_cons (lv_at hl 2 rfl) (lv_cons (lv_at hl 3 rfl) (lv_cons (lv_i hl 0 rfl (by omega)) (lv_nil hl)))))
                    · refine lv_aload_n hx hb dX1_seekBest_73 rfl (lv_at hl 0 rfl) ?_
                      refine lv_iload_n hx hb dX1_seekBest_74 rfl (lv_at hl 2 rfl) ?_
                      refine lv_iload_n hx hb dX1_seekBest_75 rfl (lv_at hl 3 rfl) ?_
                      refine z_callVwv (w2 := [(l0, .inr (1, [.int (iV ((lR3 (zTake 32 (gK wI hI gI) kF) (Nat.cast iq : Int) (Nat.cast jq : Int) 8 0 (s3, b3)).1)), .ref lb, .ref lc])), (lb, .inl (G.2.1, 4, .inl (fun k => iV ((lR3 (zTake 32 (gK wI hI gI) kF) (Nat.cast iq : Int) (Nat.cast jq : Int) 8 0 (s3, b3)).2 k)))), (lc, .inl (G.2.1, 32, .inl (fun k => iV ((zTake 32 (gK wI hI gI) kF) k)))), (h0, .inr (0, [.int (iV wI), .int (iV hI), .ref ha])), (ha, .inl (G.2.1, 81, .inl (fun k => iV (gI k))))]) X hP hD hS hl.1 (c_X1_seekLower l G _ l0 lb lc s3 b3 (zTake 32 (gK wI hI gI) kF) (Nat.cast iq : Int) (Nat.cast jq : Int) (hkT) (by assumption) (by first | assumption | omega) (by first | assumption | omega)) wd_609 kX1_seekLower ⟨rfl, rfl, Nat.le_of_ble_eq_true rfl, Nat.le_of_ble_eq_true rfl⟩ [0, 1, 2] [3, 4] rfl rfl rfl ⟨rfl, rfl⟩ rfl (by decide) 0 rfl rfl rfl rfl (Nat.le_of_ble_eq_true rfl) dX1_seekBest_76 ⟨Nat.zero_le _, Nat.zero_le _⟩ (fun H locs hP hD hS => ?_)
                      refine z_iinc (lv' := [(3, .int (iV ((Nat.cast jq : Int) + 1))), (0, .ref l0), (1, .ref h0), (2, .int (iV (Nat.cast iq : Int)))]) hx hb dX1_seekBest_79 hl (k := 3) rfl (by decide) rfl (fun ls hl => ?_)
                      refine lv_goto (tgt := 59) hx hb dX1_seekBest_82 (by decide) ?_
                      have hP : va_P G.1 vwCl [(l0, .inr (1, [.int (iV ((lR3 (zTake 32 (gK wI hI gI) kF) (Nat.cast iq : Int) (Nat.cast jq : Int) 8 0 (s3, b3)).1)), .ref lb, .ref lc])), (lb, .inl (G.2.1, 4, .inl (fun k => iV (((lR3 (zTake 32 (gK wI hI gI) kF) (Nat.cast iq : Int) (Nat.cast jq : Int) 8 0 (s3, b3)).2) k)))), (lc, .inl (G.2.1, 32, .inl (fun k => iV ((zTake 32 (gK wI hI gI) kF) k)))), (h0, .inr (0, [.int (iV wI), .int (iV hI), .ref ha])), (ha, .inl (G.2.1, 81, .inl (fun k => iV (gI k))))] _ := z_castP (by rfl) hP
                      have hD : va_D _ [(l0, .inr (1, [.int (iV ((lR3 (zTake 32 (gK wI hI gI) kF) (Nat.cast iq : Int) (Nat.cast jq : Int) 8 0 (s3, b3)).1)), .ref lb, .ref lc])), (lb, .inl (G.2.1, 4, .inl (fun k => iV (((lR3 (zTake 32 (gK wI hI gI) kF) (Nat.cast iq : Int) (Nat.cast jq : Int) 8 0 (s3, b3)).2) k)))), (lc, .inl (G.2.1, 32, .inl (fun k => iV ((zTake 32 (gK wI hI gI) kF) k)))), (h0, .inr (0, [.int (iV wI), .int (iV hI), .ref ha])), (ha, .inl (G.2.1, 81, .inl (fun k => iV (gI k))))] := z_castD (by rfl) hD
                      exact ih_59 (jq + 1) ((lR3 (zTake 32 (gK wI hI gI) kF) (Nat.cast iq : Int) (Nat.cast jq : Int) 8 0 (s3, b3)).1) ((lR3 (zTake 32 (gK wI hI gI) kF) (Nat.cast iq : Int) (Nat.cast jq : Int) 8 0 (s3, b3)).2) (by first | assumption | omega) (by first | assumption | exact lR3_ok hkT _ _ hb3) (by first | (rw [hp2, lR2_t (by omega) (by assumption)] <;> rfl) | (rw [hp2, lR2_f (by omega) (by assumption)])) (by omega) _ _ hP hD hS _ (lv_cons (lv_at hl 1 rfl) (lv_cons (lv_at hl 2 rfl) (lv_cons (lv_at hl 3 rfl) (lv_cons (lv_i hl 0 rfl (by omega)) (lv_nil hl)))))
              exact lp_59 _ 0 s2 b2 (by first | assumption | omega) (hb2) (rfl) (Nat.lt_succ_self _) _ _ hP hD hS _ (lv_cons (lv_at hl 1 rfl) (lv_cons (lv_at hl 2 rfl) (lv_cons (lv_at hl 3 rfl) (lv_cons (lv_i hl 0 rfl (by omega)) (lv_nil hl)))))
        exact lp_51 _ 0 (-1) bF (by first | assumption | omega) (⟨(by decide : (-1 : Int) ≤ -1), (by decide : (-1 : Int) ≤ 144)⟩) (rfl) (Nat.lt_succ_self _) _ _ hP hD hS _ (lv_cons (lv_at hl 1 rfl) (lv_cons (lv_at hl 2 rfl) (lv_cons (lv_i hl 0 rfl (by omega)) (lv_nil hl))))
      · refine lv_iconst (v := iV 0) hx hb dX1_seekBest_7 (by decide) ?_
        refine lv_istore_n (lv' := [(3, .int (iV 0)), (0, .ref l0), (1, .ref h0), (2, .int (iV (Nat.cast aq : Int)))]) hx hb dX1_seekBest_8 rfl hl (by decide) rfl (fun ls hl => ?_)
        have lp_9 : ∀ (k : Nat) (dq : Nat) , (dq ≤ 8) → (8 - dq) < k → ∀ (H : Heap) (locs : List Loc), va_P G.1 vwCl [(l0, .inr (1, [.int (iV bS), .ref lb, .ref lc])), (lb, .inl (G.2.1, 4, .inl (fun k => iV (bF k)))), (lc, .inl (G.2.1, 32, .inl (fun k => iV (zTake (8 * aq + dq) (gK wI hI gI) kF k)))), (h0, .inr (0, [.int (iV wI), .int (iV hI), .ref ha])), (ha, .inl (G.2.1, 81, .inl (fun k => iV (gI k))))] H → va_D (va_A [(l0, .inr (1, [.int (iV bS), .ref lb, .ref lc])), (lb, .inl (G.2.1, 4, .inl (fun k => iV (bF k)))), (lc, .inl (G.2.1, 32, .inl (fun k => iV (kF k)))), (h0, .inr (0, [.int (iV wI), .int (iV hI), .ref ha])), (ha, .inl (G.2.1, 81, .inl (fun k => iV (gI k))))] s.heap.size) [(l0, .inr (1, [.int (iV bS), .ref lb, .ref lc])), (lb, .inl (G.2.1, 4, .inl (fun k => iV (bF k)))), (lc, .inl (G.2.1, 32, .inl (fun k => iV (zTake (8 * aq + dq) (gK wI hI gI) kF k)))), (h0, .inr (0, [.int (iV wI), .int (iV hI), .ref ha])), (ha, .inl (G.2.1, 81, .inl (fun k => iV (gI k))))] → va_S (va_A [(l0, .inr (1, [.int (iV bS), .ref lb, .ref lc])), (lb, .inl (G.2.1, 4, .inl (fun k => iV (bF k)))), (lc, .inl (G.2.1, 32, .inl (fun k => iV (kF k)))), (h0, .inr (0, [.int (iV wI), .int (iV hI), .ref ha])), (ha, .inl (G.2.1, 81, .inl (fun k => iV (gI k))))] s.heap.size) s.heap H locs → ∀ ls : Array Slot, lv_has ls 4 [(0, .ref l0), (1, .ref h0), (2, .int (iV (Nat.cast aq : Int))), (3, .int (iV (Nat.cast dq : Int)))] → W p l e (headSpec (Cond.code yX1_seekBest cX1_seekBest 4 none :: zT) (zRm 5 121)).room s m ([Value.ref l0, Value.ref h0] : List Value).toArray below meth c H locs 0 0 (MQ below (zQv G [(l0, .inr (1, [.int (iV bS), .ref lb, .ref lc])), (lb, .inl (G.2.1, 4, .inl (fun k => iV (bF k)))), (lc, .inl (G.2.1, 32, .inl (fun k => iV (kF k)))), (h0, .inr (0, [.int (iV wI), .int (iV hI), .ref ha])), (ha, .inl (G.2.1, 81, .inl (fun k => iV (gI k))))] [(l0, .inr (1, [.int (iV ((lR1 (zTake 32 (gK wI hI gI) kF) 8 0 (-1, bF)).1)), .ref lb, .ref lc])), (lb, .inl (G.2.1, 4, .inl (fun k => iV ((lR1 (zTake 32 (gK wI hI gI) kF) 8 0 (-1, bF)).2 k)))), (lc, .inl (G.2.1, 32, .inl (fun k => iV (zTake 32 (gK wI hI gI) kF k)))), (h0, .inr (0, [.int (iV wI), .int (iV hI), .ref ha])), (ha, .inl (G.2.1, 81, .inl (fun k => iV (gI k))))] s.heap.size) ([Value.ref l0, Value.ref h0] : List Value).toArray s 0 0 (va_A [(l0, .inr (1, [.int (iV bS), .ref lb, .ref lc])), (lb, .inl (G.2.1, 4, .inl (fun k => iV (bF k)))), (lc, .inl (G.2.1, 32, .inl (fun k => iV (kF k)))), (h0, .inr (0, [.int (iV wI), .int (iV hI), .ref ha])), (ha, .inl (G.2.1, 81, .inl (fun k => iV (gI k))))] s.heap.size)) (F0 m 9 ls []) := by
          intro k
          induction k with
          | zero => intro dq hd_ hk_; exact absurd hk_ (Nat.not_lt_zero _)
          | succ k ih_9 =>
            intro dq hd_ hk_9 H locs hP hD hS ls hl
            refine lv_iload_n hx hb dX1_seekBest_9 rfl (lv_at hl 3 rfl) ?_
            refine lv_bipush (v := iV 8) hx hb dX1_seekBest_10 (by decide) ?_
            refine z_icmp_ge (tgt := 38) hx hb (by omega) ⟨by decide, by decide⟩ dX1_seekBest_12 (by decide) (fun c_5 => ?_) (fun c_5 => ?_)
            · refine z_iinc (lv' := [(2, .int (iV ((Nat.cast aq : Int) + 1))), (0, .ref l0), (1, .ref h0), (3, .int (iV (Nat.cast dq : Int)))]) hx hb dX1_seekBest_38 hl (k := 2) rfl (by decide) rfl (fun ls hl => ?_)
              refine lv_goto (tgt := 2) hx hb dX1_seekBest_41 (by decide) ?_
              have hP : va_P G.1 vwCl [(l0, .inr (1, [.int (iV bS), .ref lb, .ref lc])), (lb, .inl (G.2.1, 4, .inl (fun k => iV (bF k)))), (lc, .inl (G.2.1, 32, .inl (fun k => iV (zTake (8 * (aq + 1)) (gK wI hI gI) kF k)))), (h0, .inr (0, [.int (iV wI), .int (iV hI), .ref ha])), (ha, .inl (G.2.1, 81, .inl (fun k => iV (gI k))))] _ := z_castP (by have h8 : dq = 8 := (by omega); subst h8; rfl) hP
              have hD : va_D _ [(l0, .inr (1, [.int (iV bS), .ref lb, .ref lc])), (lb, .inl (G.2.1, 4, .inl (fun k => iV (bF k)))), (lc, .inl (G.2.1, 32, .inl (fun k => iV (zTake (8 * (aq + 1)) (gK wI hI gI) kF k)))), (h0, .inr (0, [.int (iV wI), .int (iV hI), .ref ha])), (ha, .inl (G.2.1, 81, .inl (fun k => iV (gI k))))] := z_castD (by have h8 : dq = 8 := (by omega); subst h8; rfl) hD
              exact ih_2 (aq + 1) (by first | assumption | omega) (by omega) _ _ hP hD hS _ (lv_cons (lv_at hl 1 rfl) (lv_cons (lv_at hl 2 rfl) (lv_cons (lv_i hl 0 rfl (by omega)) (lv_nil hl))))
            · refine lv_aload_n hx hb dX1_seekBest_15 rfl (lv_at hl 0 rfl) ?_
              refine va_get (D := G.1) (ci := 1) (v := .ref lc) (C := RX1) (T := TX1) (N := 3) hx hb hts inX1 hown hK hP 0 rfl rfl 2 (by decide) (hts _ wd_144) (fun _ h9 => h9) rfl dX1_seekBest_16 ?_
              refine lv_iload_n hx hb dX1_seekBest_19 rfl (lv_at hl 2 rfl) ?_
              refine lv_bipush (v := iV 8) hx hb dX1_seekBest_20 (by decide) ?_
              refine z_imul hx hb dX1_seekBest_22 ?_
              refine lv_iload_n hx hb dX1_seekBest_23 rfl (lv_at hl 3 rfl) ?_
              refine z_iadd hx hb dX1_seekBest_24 ?_
              refine lv_aload_n hx hb dX1_seekBest_25 rfl (lv_at hl 1 rfl) ?_
              refine lv_iload_n hx hb dX1_seekBest_26 rfl (lv_at hl 2 rfl) ?_
              refine lv_iload_n hx hb dX1_seekBest_27 rfl (lv_at hl 3 rfl) ?_
              refine z_callV X hP hS hl.1 (c_X0_contrastOf l G _ h0 ha wI hI gI (Nat.cast aq : Int) (Nat.cast dq : Int) (by first | assumption | omega) (by first | assumption | omega) (by first | assumption | omega)) wd_605 kX0_contrastOf ⟨rfl, rfl, Nat.le_of_ble_eq_true rfl, Nat.le_of_ble_eq_true rfl⟩ [3, 4] rfl 0 rfl rfl rfl rfl (Nat.le_of_ble_eq_true rfl) dX1_seekBest_28 ⟨Nat.zero_le _, Nat.zero_le _⟩ (fun H locs hP hS => ?_)
              have f_6 := gContrast_r hG (Nat.cast aq : Int) (Nat.cast dq : Int)
              refine z_iast (G := G) (f := zTake (8 * aq + dq) (gK wI hI gI) kF) hx hb hK hP hD hS 2 rfl (by omega) (by omega) (by decide) dX1_seekBest_31 (fun H locs hP hD hS => ?_)
              have hP : va_P G.1 vwCl [(l0, .inr (1, [.int (iV bS), .ref lb, .ref lc])), (lb, .inl (G.2.1, 4, .inl (fun k => iV (bF k)))), (lc, .inl (G.2.1, 32, .inl (fun k => iV ((uI (zTake (8 * aq + dq) (gK wI hI gI) kF) (((Nat.cast aq : Int) * 8) + (Nat.cast dq : Int)).toNat (gContrast wI hI gI (Nat.cast aq : Int) (Nat.cast dq : Int))) k)))), (h0, .inr (0, [.int (iV wI), .int (iV hI), .ref ha])), (ha, .inl (G.2.1, 81, .inl (fun k => iV (gI k))))] H := hP
              have hD : va_D _ [(l0, .inr (1, [.int (iV bS), .ref lb, .ref lc])), (lb, .inl (G.2.1, 4, .inl (fun k => iV (bF k)))), (lc, .inl (G.2.1, 32, .inl (fun k => iV ((uI (zTake (8 * aq + dq) (gK wI hI gI) kF) (((Nat.cast aq : Int) * 8) + (Nat.cast dq : Int)).toNat (gContrast wI hI gI (Nat.cast aq : Int) (Nat.cast dq : Int))) k)))), (h0, .inr (0, [.int (iV wI), .int (iV hI), .ref ha])), (ha, .inl (G.2.1, 81, .inl (fun k => iV (gI k))))] := hD
              refine z_iinc (lv' := [(3, .int (iV ((Nat.cast dq : Int) + 1))), (0, .ref l0), (1, .ref h0), (2, .int (iV (Nat.cast aq : Int)))]) hx hb dX1_seekBest_32 hl (k := 3) rfl (by decide) rfl (fun ls hl => ?_)
              refine lv_goto (tgt := 9) hx hb dX1_seekBest_35 (by decide) ?_
              have hP : va_P G.1 vwCl [(l0, .inr (1, [.int (iV bS), .ref lb, .ref lc])), (lb, .inl (G.2.1, 4, .inl (fun k => iV (bF k)))), (lc, .inl (G.2.1, 32, .inl (fun k => iV (zTake (8 * aq + (dq + 1)) (gK wI hI gI) kF k)))), (h0, .inr (0, [.int (iV wI), .int (iV hI), .ref ha])), (ha, .inl (G.2.1, 81, .inl (fun k => iV (gI k))))] _ := z_castP (by rw [gK_s (by omega)]) hP
              have hD : va_D _ [(l0, .inr (1, [.int (iV bS), .ref lb, .ref lc])), (lb, .inl (G.2.1, 4, .inl (fun k => iV (bF k)))), (lc, .inl (G.2.1, 32, .inl (fun k => iV (zTake (8 * aq + (dq + 1)) (gK wI hI gI) kF k)))), (h0, .inr (0, [.int (iV wI), .int (iV hI), .ref ha])), (ha, .inl (G.2.1, 81, .inl (fun k => iV (gI k))))] := z_castD (by rw [gK_s (by omega)]) hD
              exact ih_9 (dq + 1) (by first | assumption | omega) (by omega) _ _ hP hD hS _ (lv_cons (lv_at hl 1 rfl) (lv_cons (lv_at hl 2 rfl) (lv_cons (lv_at hl 3 rfl) (lv_cons (lv_i hl 0 rfl (by omega)) (lv_nil hl)))))
        have hP : va_P G.1 vwCl [(l0, .inr (1, [.int (iV bS), .ref lb, .ref lc])), (lb, .inl (G.2.1, 4, .inl (fun k => iV (bF k)))), (lc, .inl (G.2.1, 32, .inl (fun k => iV (zTake (8 * aq + 0) (gK wI hI gI) kF k)))), (h0, .inr (0, [.int (iV wI), .int (iV hI), .ref ha])), (ha, .inl (G.2.1, 81, .inl (fun k => iV (gI k))))] _ := z_castP (by rfl) hP
        have hD : va_D _ [(l0, .inr (1, [.int (iV bS), .ref lb, .ref lc])), (lb, .inl (G.2.1, 4, .inl (fun k => iV (bF k)))), (lc, .inl (G.2.1, 32, .inl (fun k => iV (zTake (8 * aq + 0) (gK wI hI gI) kF k)))), (h0, .inr (0, [.int (iV wI), .int (iV hI), .ref ha])), (ha, .inl (G.2.1, 81, .inl (fun k => iV (gI k))))] := z_castD (by rfl) hD
        exact lp_9 _ 0 (by first | assumption | omega) (Nat.lt_succ_self _) _ _ hP hD hS _ (lv_cons (lv_at hl 1 rfl) (lv_cons (lv_at hl 2 rfl) (lv_cons (lv_at hl 3 rfl) (lv_cons (lv_i hl 0 rfl (by omega)) (lv_nil hl)))))
  have hP : va_P G.1 vwCl [(l0, .inr (1, [.int (iV bS), .ref lb, .ref lc])), (lb, .inl (G.2.1, 4, .inl (fun k => iV (bF k)))), (lc, .inl (G.2.1, 32, .inl (fun k => iV (zTake (8 * 0) (gK wI hI gI) kF k)))), (h0, .inr (0, [.int (iV wI), .int (iV hI), .ref ha])), (ha, .inl (G.2.1, 81, .inl (fun k => iV (gI k))))] _ := z_castP (by rw [Nat.mul_zero, zTake_0]) hP
  have hD : va_D _ [(l0, .inr (1, [.int (iV bS), .ref lb, .ref lc])), (lb, .inl (G.2.1, 4, .inl (fun k => iV (bF k)))), (lc, .inl (G.2.1, 32, .inl (fun k => iV (zTake (8 * 0) (gK wI hI gI) kF k)))), (h0, .inr (0, [.int (iV wI), .int (iV hI), .ref ha])), (ha, .inl (G.2.1, 81, .inl (fun k => iV (gI k))))] := z_castD (by rw [Nat.mul_zero, zTake_0]) hD
  exact lp_2 _ 0 (by first | assumption | omega) (Nat.lt_succ_self _) _ _ hP hD hS _ (lv_cons (lv_at hl 1 rfl) (lv_cons (lv_at hl 2 rfl) (lv_cons (lv_i hl 0 rfl (by omega)) (lv_nil hl))))

set_option maxHeartbeats 4000000 in
set_option maxRecDepth 100000 in
theorem c_X2_isUp (l : Launch) (G : zG) (sz : Nat) (h0 : Nat) (ha : Nat) (wI : Int) (hI : Int) (gI : Nat → Int) (cI : Int) (v : Int) (hG : gOK wI hI gI) (hc : -1 ≤ cI ∧ cI < 81) (hv_ : 1 ≤ v ∧ v ≤ 9) : Met l yX2_isUp (Cond.code yX2_isUp cX2_isUp 3 (some .boolean) :: zT) (zRm 2 43) (zPr G [.ref h0, .int (iV cI), .int (iV v)] [(h0, .inr (0, [.int (iV wI), .int (iV hI), .ref ha])), (ha, .inl (G.2.1, 81, .inl (fun k => iV (gI k))))] sz) (zQr (bP (gUp wI hI gI v cI)) sz) 0 0 (zF sz) := by
  refine Met.ofW (cc := cX2_isUp) (maxL := 3) (ret := (some .boolean)) (by decide) rfl ?_
  intro p e s m args below meth c s₁ B hml hv
  obtain ⟨rfl, hsz, hP, hK, hSt⟩ := hv
  have hx := B.exec
  have hb := B.bytes
  have hr := B.returns
  have hts : ∀ w ∈ zT, w.before _ s = true := fun w h => atoms_spec (ws := (Cond.code yX2_isUp cX2_isUp 3 (some .boolean) :: zT)) B.pre w (List.mem_cons_of_mem _ h)
  have hown : s.vm.findClass RX2 = some m.cls := findClass_of_methodNamed B.named
  have hlocks := B.notSynchronized
  subst hsz
  have hA : ∀ q : Nat, s.heap.size ≤ q → zF s.heap.size q := fun _ h => h
  have hS : va_S (zF s.heap.size) s.heap s.heap [] := va_S.rf
  have hP : va_P G.1 vwCl [(h0, .inr (0, [.int (iV wI), .int (iV hI), .ref ha])), (ha, .inl (G.2.1, 81, .inl (fun k => iV (gI k))))] s.heap := hP
  have X := And.intro hx (And.intro hb (And.intro hml (And.intro hown (And.intro hts (And.intro hK (And.intro hSt hA))))))
  have hl := lv_entry ([.ref h0, .int (iV cI), .int (iV v)]) (n := 3) (Nat.le_of_ble_eq_true rfl)
  rw [lg_entry_eq]
  generalize (lg_sl ([.ref h0, .int (iV cI), .int (iV v)]) ++ List.replicate (3 - (lg_sl ([.ref h0, .int (iV cI), .int (iV v)])).length) Slot.unset).toArray = ls at hl ⊢
  have hl : lv_has ls 3 [(0, .ref h0), (1, .int (iV cI)), (2, .int (iV v))] := hl
  obtain ⟨hW0, hW9, hH0, hH9, hg⟩ := id hG
  refine lv_aload_n hx hb dX2_isUp_0 rfl (lv_at hl 0 rfl) ?_
  refine lv_iload_n hx hb dX2_isUp_1 rfl (lv_at hl 1 rfl) ?_
  refine z_callV X hP hS hl.1 (c_X0_hasNumber l G _ h0 ha wI hI gI cI (by first | assumption | omega) (by first | assumption | omega)) wd_648 kX0_hasNumber ⟨rfl, rfl, Nat.le_of_ble_eq_true rfl, Nat.le_of_ble_eq_true rfl⟩ [0, 1] rfl 0 rfl rfl rfl rfl (Nat.le_of_ble_eq_true rfl) dX2_isUp_2 ⟨Nat.zero_le _, Nat.zero_le _⟩ (fun H locs hP hS => ?_)
  refine z_ifb_eq (tgt := 21) hx hb dX2_isUp_5 (by decide) (fun c_1 => ?_) (fun c_1 => ?_)
  · refine lv_iconst (v := iV 0) hx hb dX2_isUp_21 (by decide) ?_
    refine z_eq (z := bP (gUp wI hI gI v cI)) (by first | exact (bP_t ⟨by assumption, by omega⟩).symm | exact (bP_f (fun q => absurd q.1 (by assumption))).symm | exact (bP_f (fun q => absurd q.2 (by omega))).symm) ?_
    exact z_retb hx hb hr hlocks hS dX2_isUp_22
  · refine lv_aload_n hx hb dX2_isUp_8 rfl (lv_at hl 0 rfl) ?_
    refine lv_iload_n hx hb dX2_isUp_9 rfl (lv_at hl 1 rfl) ?_
    refine z_callV X hP hS hl.1 (c_X0_height l G _ h0 ha wI hI gI cI (by first | assumption | omega) (by first | assumption | omega)) wd_649 kX0_height ⟨rfl, rfl, Nat.le_of_ble_eq_true rfl, Nat.le_of_ble_eq_true rfl⟩ [0, 1] rfl 0 rfl rfl rfl rfl (Nat.le_of_ble_eq_true rfl) dX2_isUp_10 ⟨Nat.zero_le _, Nat.zero_le _⟩ (fun H locs hP hS => ?_)
    have f_2 := gAt_r hG (cI % 9) (cI / 9)
    refine lv_iload_n hx hb dX2_isUp_13 rfl (lv_at hl 2 rfl) ?_
    refine z_icmp_lt (tgt := 21) hx hb (by omega) (by omega) dX2_isUp_14 (by decide) (fun c_3 => ?_) (fun c_3 => ?_)
    · refine lv_iconst (v := iV 0) hx hb dX2_isUp_21 (by decide) ?_
      refine z_eq (z := bP (gUp wI hI gI v cI)) (by first | exact (bP_t ⟨by assumption, by omega⟩).symm | exact (bP_f (fun q => absurd q.1 (by assumption))).symm | exact (bP_f (fun q => absurd q.2 (by omega))).symm) ?_
      exact z_retb hx hb hr hlocks hS dX2_isUp_22
    · refine lv_iconst (v := iV 1) hx hb dX2_isUp_17 (by decide) ?_
      refine lv_goto (tgt := 22) hx hb dX2_isUp_18 (by decide) ?_
      refine z_eq (z := bP (gUp wI hI gI v cI)) (by first | exact (bP_t ⟨by assumption, by omega⟩).symm | exact (bP_f (fun q => absurd q.1 (by assumption))).symm | exact (bP_f (fun q => absurd q.2 (by omega))).symm) ?_
      exact z_retb hx hb hr hlocks hS dX2_isUp_22

set_option maxHeartbeats 4000000 in
set_option maxRecDepth 100000 in
theorem c_X2_lowSides (l : Launch) (G : zG) (sz : Nat) (h0 : Nat) (ha : Nat) (wI : Int) (hI : Int) (gI : Nat → Int) (cI : Int) (v : Int) (hG : gOK wI hI gI) (hc : 0 ≤ cI ∧ cI < 81) (hv_ : 1 ≤ v ∧ v ≤ 9) : Met l yX2_lowSides (Cond.code yX2_lowSides cX2_lowSides 6 (some .int) :: zT) (zRm 3 65) (zPr G [.ref h0, .int (iV cI), .int (iV v)] [(h0, .inr (0, [.int (iV wI), .int (iV hI), .ref ha])), (ha, .inl (G.2.1, 81, .inl (fun k => iV (gI k))))] sz) (zQr (vLow wI hI gI v cI 4) sz) 0 0 (zF sz) := by
  refine Met.ofW (cc := cX2_lowSides) (maxL := 6) (ret := (some .int)) (by decide) rfl ?_
  intro p e s m args below meth c s₁ B hml hv
  obtain ⟨rfl, hsz, hP, hK, hSt⟩ := hv
  have hx := B.exec
  have hb := B.bytes
  have hr := B.returns
  have hts : ∀ w ∈ zT, w.before _ s = true := fun w h => atoms_spec (ws := (Cond.code yX2_lowSides cX2_lowSides 6 (some .int) :: zT)) B.pre w (List.mem_cons_of_mem _ h)
  have hown : s.vm.findClass RX2 = some m.cls := findClass_of_methodNamed B.named
  have hlocks := B.notSynchronized
  subst hsz
  have hA : ∀ q : Nat, s.heap.size ≤ q → zF s.heap.size q := fun _ h => h
  have hS : va_S (zF s.heap.size) s.heap s.heap [] := va_S.rf
  have hP : va_P G.1 vwCl [(h0, .inr (0, [.int (iV wI), .int (iV hI), .ref ha])), (ha, .inl (G.2.1, 81, .inl (fun k => iV (gI k))))] s.heap := hP
  have X := And.intro hx (And.intro hb (And.intro hml (And.intro hown (And.intro hts (And.intro hK (And.intro hSt hA))))))
  have hl := lv_entry ([.ref h0, .int (iV cI), .int (iV v)]) (n := 6) (Nat.le_of_ble_eq_true rfl)
  rw [lg_entry_eq]
  generalize (lg_sl ([.ref h0, .int (iV cI), .int (iV v)]) ++ List.replicate (6 - (lg_sl ([.ref h0, .int (iV cI), .int (iV v)])).length) Slot.unset).toArray = ls at hl ⊢
  have hl : lv_has ls 6 [(0, .ref h0), (1, .int (iV cI)), (2, .int (iV v))] := hl
  obtain ⟨hW0, hW9, hH0, hH9, hg⟩ := id hG
  refine lv_iconst (v := iV 0) hx hb dX2_lowSides_0 (by decide) ?_
  refine lv_istore_n (lv' := [(3, .int (iV 0)), (0, .ref h0), (1, .int (iV cI)), (2, .int (iV v))]) hx hb dX2_lowSides_1 rfl hl (by decide) rfl (fun ls hl => ?_)
  refine lv_iconst (v := iV 0) hx hb dX2_lowSides_2 (by decide) ?_
  refine lv_istore (lv' := [(4, .int (iV 0)), (3, .int (iV 0)), (0, .ref h0), (1, .int (iV cI)), (2, .int (iV v))]) hx hb dX2_lowSides_3 hl (by decide) rfl (fun ls hl => ?_)
  have lp_5 : ∀ (k : Nat) (nq : Nat) , (nq ≤ 4) → (4 - nq) < k → ∀ (H : Heap) (locs : List Loc), va_P G.1 vwCl [(h0, .inr (0, [.int (iV wI), .int (iV hI), .ref ha])), (ha, .inl (G.2.1, 81, .inl (fun k => iV (gI k))))] H → va_S (zF s.heap.size) s.heap H locs → ∀ ls : Array Slot, lv_has ls 6 [(0, .ref h0), (1, .int (iV cI)), (2, .int (iV v)), (3, .int (iV (vLow wI hI gI v cI nq))), (4, .int (iV (2 * (Nat.cast nq : Int))))] → W p l e (headSpec (Cond.code yX2_lowSides cX2_lowSides 6 (some .int) :: zT) (zRm 3 65)).room s m ([Value.ref h0, Value.int (iV cI), Value.int (iV v)] : List Value).toArray below meth c H locs 0 0 (MQ below (zQr (vLow wI hI gI v cI 4) s.heap.size) ([Value.ref h0, Value.int (iV cI), Value.int (iV v)] : List Value).toArray s 0 0 (zF s.heap.size)) (F0 m 5 ls []) := by
    intro k
    induction k with
    | zero => intro nq hn hk_; exact absurd hk_ (Nat.not_lt_zero _)
    | succ k ih_5 =>
      intro nq hn hk_5 H locs hP hS ls hl
      refine lv_iload hx hb dX2_lowSides_5 (lv_at hl 4 rfl) ?_
      refine lv_bipush (v := iV 8) hx hb dX2_lowSides_7 (by decide) ?_
      refine z_icmp_ge (tgt := 46) hx hb (by omega) ⟨by decide, by decide⟩ dX2_lowSides_9 (by decide) (fun c_1 => ?_) (fun c_1 => ?_)
      · refine lv_iload_n hx hb dX2_lowSides_46 rfl (lv_at hl 3 rfl) ?_
        refine z_eq (z := vLow wI hI gI v cI 4) (by have h8 : nq = 4 := (by omega); subst h8; rfl) ?_
        exact z_ret hx hb hr hlocks hS dX2_lowSides_47
      · refine lv_aload_n hx hb dX2_lowSides_12 rfl (lv_at hl 0 rfl) ?_
        refine lv_iload_n hx hb dX2_lowSides_13 rfl (lv_at hl 1 rfl) ?_
        refine lv_iload hx hb dX2_lowSides_14 (lv_at hl 4 rfl) ?_
        refine z_callV X hP hS hl.1 (c_X0_beside l G _ h0 ha wI hI gI cI (2 * (Nat.cast nq : Int)) (by first | assumption | omega) (by first | assumption | omega) (by first | assumption | omega)) wd_654 kX0_beside ⟨rfl, rfl, Nat.le_of_ble_eq_true rfl, Nat.le_of_ble_eq_true rfl⟩ [0, 1] rfl 0 rfl rfl rfl rfl (Nat.le_of_ble_eq_true rfl) dX2_lowSides_16 ⟨Nat.zero_le _, Nat.zero_le _⟩ (fun H locs hP hS => ?_)
        have f_2 := gNb_r hG cI (2 * (Nat.cast nq : Int))
        refine lv_istore (lv' := [(5, .int (iV (gNb wI hI cI (2 * (Nat.cast nq : Int))))), (0, .ref h0), (1, .int (iV cI)), (2, .int (iV v)), (3, .int (iV (vLow wI hI gI v cI nq))), (4, .int (iV (2 * (Nat.cast nq : Int))))]) hx hb dX2_lowSides_19 hl (by decide) rfl (fun ls hl => ?_)
        refine lv_iload hx hb dX2_lowSides_21 (lv_at hl 0 rfl) ?_
        refine lv_iconst (v := iV (-1)) hx hb dX2_lowSides_23 (by decide) ?_
        refine z_icmp_eq (tgt := 40) hx hb (by omega) ⟨by decide, by decide⟩ dX2_lowSides_24 (by decide) (fun c_3 => ?_) (fun c_3 => ?_)
        · refine z_iinc (lv' := [(4, .int (iV ((2 * (Nat.cast nq : Int)) + 2))), (5, .int (iV (gNb wI hI cI (2 * (Nat.cast nq : Int))))), (0, .ref h0), (1, .int (iV cI)), (2, .int (iV v)), (3, .int (iV (vLow wI hI gI v cI nq)))]) hx hb dX2_lowSides_40 hl (k := 5) rfl (by decide) rfl (fun ls hl => ?_)
          refine lv_goto (tgt := 5) hx hb dX2_lowSides_43 (by decide) ?_
          exact ih_5 (nq + 1) (by first | assumption | omega) (by omega) _ _ hP hS _ (lv_cons (lv_at hl 2 rfl) (lv_cons (lv_at hl 3 rfl) (lv_cons (lv_at hl 4 rfl) (lv_cons (lv_i hl 5 rfl (by first | rfl | omega | exact sumN_t (P := fun k => ¬ gNb wI hI cI (2 * (Nat.cast k : Int)) = -1 ∧ ¬ gUp wI hI gI v (gNb wI hI cI (2 * (Nat.cast k : Int)))) ⟨by assumption, by assumption⟩ | exact sumN_f (P := fun k => ¬ gNb wI hI cI (2 * (Nat.cast k : Int)) = -1 ∧ ¬ gUp wI hI gI v (gNb wI hI cI (2 * (Nat.cast k : Int)))) (fun h => by first | exact absurd (by assumption) h.1 | exact absurd (by assumption) h.2))) (lv_cons (lv_i hl 0 rfl (by first | rfl | omega | exact sumN_t (P := fun k => ¬ gNb wI hI cI (2 * (Nat.cast k : Int)) = -1 ∧ ¬ gUp wI hI gI v (gNb wI hI cI (2 * (Nat.cast k : Int)))) ⟨by assumption, by assumption⟩ | exact sumN_f (P := fun k => ¬ gNb wI hI cI (2 * (Nat.cast k : Int)) = -1 ∧ ¬ gUp wI hI gI v (gNb wI hI cI (2 * (Nat.cast k : Int)))) (fun h => by first | exact absurd (by assumption) h.1 | exact absurd (by assumption) h.2))) (lv_nil hl))))))
        · refine lv_aload_n hx hb dX2_lowSides_27 rfl (lv_at hl 1 rfl) ?_
          refine lv_iload hx hb dX2_lowSides_28 (lv_at hl 0 rfl) ?_
          refine lv_iload_n hx hb dX2_lowSides_30 rfl (lv_at hl 3 rfl) ?_
          refine z_callS X hP hS hl.1 (c_X2_isUp l G _ h0 ha wI hI gI (gNb wI hI cI (2 * (Nat.cast nq : Int))) v (by first | assumption | omega) (by first | assumption | omega) (by first | assumption | omega)) wd_645 kX2_isUp ⟨rfl, rfl, Nat.le_of_ble_eq_true rfl, Nat.le_of_ble_eq_true rfl⟩ [0, 1] rfl rfl rfl (Nat.le_of_ble_eq_true rfl) dX2_lowSides_31 ⟨Nat.zero_le _, Nat.zero_le _⟩ (fun H locs hP hS => ?_)
          refine z_ifb_ne (tgt := 40) hx hb dX2_lowSides_34 (by decide) (fun c_4 => ?_) (fun c_4 => ?_)
          · refine z_iinc (lv' := [(4, .int (iV ((2 * (Nat.cast nq : Int)) + 2))), (5, .int (iV (gNb wI hI cI (2 * (Nat.cast nq : Int))))), (0, .ref h0), (1, .int (iV cI)), (2, .int (iV v)), (3, .int (iV (vLow wI hI gI v cI nq)))]) hx hb dX2_lowSides_40 hl (k := 5) rfl (by decide) rfl (fun ls hl => ?_)
            refine lv_goto (tgt := 5) hx hb dX2_lowSides_43 (by decide) ?_
            exact ih_5 (nq + 1) (by first | assumption | omega) (by omega) _ _ hP hS _ (lv_cons (lv_at hl 2 rfl) (lv_cons (lv_at hl 3 rfl) (lv_cons (lv_at hl 4 rfl) (lv_cons (lv_i hl 5 rfl (by first | rfl | omega | exact sumN_t (P := fun k => ¬ gNb wI hI cI (2 * (Nat.cast k : Int)) = -1 ∧ ¬ gUp wI hI gI v (gNb wI hI cI (2 * (Nat.cast k : Int)))) ⟨by assumption, by assumption⟩ | exact sumN_f (P := fun k => ¬ gNb wI hI cI (2 * (Nat.cast k : Int)) = -1 ∧ ¬ gUp wI hI gI v (gNb wI hI cI (2 * (Nat.cast k : Int)))) (fun h => by first | exact absurd (by assumption) h.1 | exact absurd (by assumption) h.2))) (lv_cons (lv_i hl 0 rfl (by first | rfl | omega | exact sumN_t (P := fun k => ¬ gNb wI hI cI (2 * (Nat.cast k : Int)) = -1 ∧ ¬ gUp wI hI gI v (gNb wI hI cI (2 * (Nat.cast k : Int)))) ⟨by assumption, by assumption⟩ | exact sumN_f (P := fun k => ¬ gNb wI hI cI (2 * (Nat.cast k : Int)) = -1 ∧ ¬ gUp wI hI gI v (gNb wI hI cI (2 * (Nat.cast k : Int)))) (fun h => by first | exact absurd (by assumption) h.1 | exact absurd (by assumption) h.2))) (lv_nil hl))))))
          · refine z_iinc (lv' := [(3, .int (iV (vLow wI hI gI v cI nq + 1))), (5, .int (iV (gNb wI hI cI (2 * (Nat.cast nq : Int))))), (0, .ref h0), (1, .int (iV cI)), (2, .int (iV v)), (4, .int (iV (2 * (Nat.cast nq : Int))))]) hx hb dX2_lowSides_37 hl (k := 4) rfl (by decide) rfl (fun ls hl => ?_)
            refine z_iinc (lv' := [(4, .int (iV ((2 * (Nat.cast nq : Int)) + 2))), (3, .int (iV (vLow wI hI gI v cI nq + 1))), (5, .int (iV (gNb wI hI cI (2 * (Nat.cast nq : Int))))), (0, .ref h0), (1, .int (iV cI)), (2, .int (iV v))]) hx hb dX2_lowSides_40 hl (k := 5) rfl (by decide) rfl (fun ls hl => ?_)
            refine lv_goto (tgt := 5) hx hb dX2_lowSides_43 (by decide) ?_
            exact ih_5 (nq + 1) (by first | assumption | omega) (by omega) _ _ hP hS _ (lv_cons (lv_at hl 3 rfl) (lv_cons (lv_at hl 4 rfl) (lv_cons (lv_at hl 5 rfl) (lv_cons (lv_i hl 1 rfl (by first | rfl | omega | exact sumN_t (P := fun k => ¬ gNb wI hI cI (2 * (Nat.cast k : Int)) = -1 ∧ ¬ gUp wI hI gI v (gNb wI hI cI (2 * (Nat.cast k : Int)))) ⟨by assumption, by assumption⟩ | exact sumN_f (P := fun k => ¬ gNb wI hI cI (2 * (Nat.cast k : Int)) = -1 ∧ ¬ gUp wI hI gI v (gNb wI hI cI (2 * (Nat.cast k : Int)))) (fun h => by first | exact absurd (by assumption) h.1 | exact absurd (by assumption) h.2))) (lv_cons (lv_i hl 0 rfl (by first | rfl | omega | exact sumN_t (P := fun k => ¬ gNb wI hI cI (2 * (Nat.cast k : Int)) = -1 ∧ ¬ gUp wI hI gI v (gNb wI hI cI (2 * (Nat.cast k : Int)))) ⟨by assumption, by assumption⟩ | exact sumN_f (P := fun k => ¬ gNb wI hI cI (2 * (Nat.cast k : Int)) = -1 ∧ ¬ gUp wI hI gI v (gNb wI hI cI (2 * (Nat.cast k : Int)))) (fun h => by first | exact absurd (by assumption) h.1 | exact absurd (by assumption) h.2))) (lv_nil hl))))))
  exact lp_5 _ 0 (by first | assumption | omega) (Nat.lt_succ_self _) _ _ hP hS _ (lv_cons (lv_at hl 2 rfl) (lv_cons (lv_at hl 3 rfl) (lv_cons (lv_at hl 4 rfl) (lv_cons (lv_i hl 1 rfl (by first | rfl | omega | exact sumN_t (P := fun k => ¬ gNb wI hI cI (2 * (Nat.cast k : Int)) = -1 ∧ ¬ gUp wI hI gI v (gNb wI hI cI (2 * (Nat.cast k : Int)))) ⟨by assumption, by assumption⟩ | exact sumN_f (P := fun k => ¬ gNb wI hI cI (2 * (Nat.cast k : Int)) = -1 ∧ ¬ gUp wI hI gI v (gNb wI hI cI (2 * (Nat.cast k : Int)))) (fun h => by first | exact absurd (by assumption) h.1 | exact absurd (by assumption) h.2))) (lv_cons (lv_i hl 0 rfl (by first | rfl | omega | exact sumN_t (P := fun k => ¬ gNb wI hI cI (2 * (Nat.cast k : Int)) = -1 ∧ ¬ gUp wI hI gI v (gNb wI hI cI (2 * (Nat.cast k : Int)))) ⟨by assumption, by assumption⟩ | exact sumN_f (P := fun k => ¬ gNb wI hI cI (2 * (Nat.cast k : Int)) = -1 ∧ ¬ gUp wI hI gI v (gNb wI hI cI (2 * (Nat.cast k : Int)))) (fun h => by first | exact absurd (by assumption) h.1 | exact absurd (by assumption) h.2))) (lv_nil hl))))))

set_option maxHeartbeats 4000000 in
set_option maxRecDepth 100000 in
theorem c_X2_lineLength (l : Launch) (G : zG) (sz : Nat) (v0 : Nat) (vs : Nat) (vp : Nat) (h0 : Nat) (ha : Nat) (wI : Int) (hI : Int) (gI : Nat → Int) (v : Int) (hG : gOK wI hI gI) (hv_ : 1 ≤ v ∧ v ≤ 9) : Met l yX2_lineLength (Cond.code yX2_lineLength cX2_lineLength 5 (some .int) :: zT) (zRm 4 90) (zPr G [.ref v0, .ref h0, .int (iV v)] [(v0, .inr (2, [.ref vs, .ref vp])), (h0, .inr (0, [.int (iV wI), .int (iV hI), .ref ha])), (ha, .inl (G.2.1, 81, .inl (fun k => iV (gI k))))] sz) (zQr (vLine wI hI gI v 81) sz) 0 0 (zF sz) := by
  refine Met.ofW (cc := cX2_lineLength) (maxL := 5) (ret := (some .int)) (by decide) rfl ?_
  intro p e s m args below meth c s₁ B hml hv
  obtain ⟨rfl, hsz, hP, hK, hSt⟩ := hv
  have hx := B.exec
  have hb := B.bytes
  have hr := B.returns
  have hts : ∀ w ∈ zT, w.before _ s = true := fun w h => atoms_spec (ws := (Cond.code yX2_lineLength cX2_lineLength 5 (some .int) :: zT)) B.pre w (List.mem_cons_of_mem _ h)
  have hown : s.vm.findClass RX2 = some m.cls := findClass_of_methodNamed B.named
  have hlocks := B.notSynchronized
  subst hsz
  have hA : ∀ q : Nat, s.heap.size ≤ q → zF s.heap.size q := fun _ h => h
  have hS : va_S (zF s.heap.size) s.heap s.heap [] := va_S.rf
  have hP : va_P G.1 vwCl [(v0, .inr (2, [.ref vs, .ref vp])), (h0, .inr (0, [.int (iV wI), .int (iV hI), .ref ha])), (ha, .inl (G.2.1, 81, .inl (fun k => iV (gI k))))] s.heap := hP
  have X := And.intro hx (And.intro hb (And.intro hml (And.intro hown (And.intro hts (And.intro hK (And.intro hSt hA))))))
  have hl := lv_entry ([.ref v0, .ref h0, .int (iV v)]) (n := 5) (Nat.le_of_ble_eq_true rfl)
  rw [lg_entry_eq]
  generalize (lg_sl ([.ref v0, .ref h0, .int (iV v)]) ++ List.replicate (5 - (lg_sl ([.ref v0, .ref h0, .int (iV v)])).length) Slot.unset).toArray = ls at hl ⊢
  have hl : lv_has ls 5 [(0, .ref v0), (1, .ref h0), (2, .int (iV v))] := hl
  obtain ⟨hW0, hW9, hH0, hH9, hg⟩ := id hG
  refine lv_iconst (v := iV 0) hx hb dX2_lineLength_0 (by decide) ?_
  refine lv_istore_n (lv' := [(3, .int (iV 0)), (0, .ref v0), (1, .ref h0), (2, .int (iV v))]) hx hb dX2_lineLength_1 rfl hl (by decide) rfl (fun ls hl => ?_)
  refine lv_iconst (v := iV 0) hx hb dX2_lineLength_2 (by decide) ?_
  refine lv_istore (lv' := [(4, .int (iV 0)), (3, .int (iV 0)), (0, .ref v0), (1, .ref h0), (2, .int (iV v))]) hx hb dX2_lineLength_3 hl (by decide) rfl (fun ls hl => ?_)
  have lp_5 : ∀ (k : Nat) (nq : Nat) , (nq ≤ 81) → (81 - nq) < k → ∀ (H : Heap) (locs : List Loc), va_P G.1 vwCl [(v0, .inr (2, [.ref vs, .ref vp])), (h0, .inr (0, [.int (iV wI), .int (iV hI), .ref ha])), (ha, .inl (G.2.1, 81, .inl (fun k => iV (gI k))))] H → va_S (zF s.heap.size) s.heap H locs → ∀ ls : Array Slot, lv_has ls 5 [(0, .ref v0), (1, .ref h0), (2, .int (iV v)), (3, .int (iV (vLine wI hI gI v nq))), (4, .int (iV (Nat.cast nq : Int)))] → W p l e (headSpec (Cond.code yX2_lineLength cX2_lineLength 5 (some .int) :: zT) (zRm 4 90)).room s m ([Value.ref v0, Value.ref h0, Value.int (iV v)] : List Value).toArray below meth c H locs 0 0 (MQ below (zQr (vLine wI hI gI v 81) s.heap.size) ([Value.ref v0, Value.ref h0, Value.int (iV v)] : List Value).toArray s 0 0 (zF s.heap.size)) (F0 m 5 ls []) := by
    intro k
    induction k with
    | zero => intro nq hn hk_; exact absurd hk_ (Nat.not_lt_zero _)
    | succ k ih_5 =>
      intro nq hn hk_5 H locs hP hS ls hl
      refine lv_iload hx hb dX2_lineLength_5 (lv_at hl 4 rfl) ?_
      refine lv_bipush (v := iV 81) hx hb dX2_lineLength_7 (by decide) ?_
      refine z_icmp_ge (tgt := 38) hx hb (by omega) ⟨by decide, by decide⟩ dX2_lineLength_9 (by decide) (fun c_1 => ?_) (fun c_1 => ?_)
      · refine lv_iload_n hx hb dX2_lineLength_38 rfl (lv_at hl 3 rfl) ?_
        refine z_eq (z := vLine wI hI gI v 81) (by have h8 : nq = 81 := (by omega); subst h8; rfl) ?_
        exact z_ret hx hb hr hlocks hS dX2_lineLength_39
      · refine lv_aload_n hx hb dX2_lineLength_12 rfl (lv_at hl 1 rfl) ?_
        refine lv_iload hx hb dX2_lineLength_13 (lv_at hl 4 rfl) ?_
        refine lv_iload_n hx hb dX2_lineLength_15 rfl (lv_at hl 2 rfl) ?_
        refine z_callS X hP hS hl.1 (c_X2_isUp l G _ h0 ha wI hI gI (Nat.cast nq : Int) v (by first | assumption | omega) (by first | assumption | omega) (by first | assumption | omega)) wd_645 kX2_isUp ⟨rfl, rfl, Nat.le_of_ble_eq_true rfl, Nat.le_of_ble_eq_true rfl⟩ [1, 2] rfl rfl rfl (Nat.le_of_ble_eq_true rfl) dX2_lineLength_16 ⟨Nat.zero_le _, Nat.zero_le _⟩ (fun H locs hP hS => ?_)
        refine z_ifb_eq (tgt := 32) hx hb dX2_lineLength_19 (by decide) (fun c_2 => ?_) (fun c_2 => ?_)
        · refine z_iinc (lv' := [(4, .int (iV ((Nat.cast nq : Int) + 1))), (0, .ref v0), (1, .ref h0), (2, .int (iV v)), (3, .int (iV (vLine wI hI gI v nq)))]) hx hb dX2_lineLength_32 hl (k := 4) rfl (by decide) rfl (fun ls hl => ?_)
          refine lv_goto (tgt := 5) hx hb dX2_lineLength_35 (by decide) ?_
          exact ih_5 (nq + 1) (by first | assumption | omega) (by omega) _ _ hP hS _ (lv_cons (lv_at hl 1 rfl) (lv_cons (lv_at hl 2 rfl) (lv_cons (lv_at hl 3 rfl) (lv_cons (lv_i hl 4 rfl (by first | rfl | omega | (simp only [vLine, sumN]; rw [if_pos (bP_t (by assumption))]) | (simp only [vLine, sumN]; rw [if_neg (by rw [bP_f (by assumption)]; omega)]; omega))) (lv_cons (lv_i hl 0 rfl (by first | rfl | omega | (simp only [vLine, sumN]; rw [if_pos (bP_t (by assumption))]) | (simp only [vLine, sumN]; rw [if_neg (by rw [bP_f (by assumption)]; omega)]; omega))) (lv_nil hl))))))
        · refine lv_iload_n hx hb dX2_lineLength_22 rfl (lv_at hl 3 rfl) ?_
          refine lv_aload_n hx hb dX2_lineLength_23 rfl (lv_at hl 1 rfl) ?_
          refine lv_iload hx hb dX2_lineLength_24 (lv_at hl 4 rfl) ?_
          refine lv_iload_n hx hb dX2_lineLength_26 rfl (lv_at hl 2 rfl) ?_
          refine z_callS X hP hS hl.1 (c_X2_lowSides l G _ h0 ha wI hI gI (Nat.cast nq : Int) v (by first | assumption | omega) (by first | assumption | omega) (by first | assumption | omega)) wd_659 kX2_lowSides ⟨rfl, rfl, Nat.le_of_ble_eq_true rfl, Nat.le_of_ble_eq_true rfl⟩ [1, 2] rfl rfl rfl (Nat.le_of_ble_eq_true rfl) dX2_lineLength_27 ⟨Nat.zero_le _, Nat.zero_le _⟩ (fun H locs hP hS => ?_)
          refine z_iadd hx hb dX2_lineLength_30 ?_
          refine lv_istore_n (lv' := [(3, .int (iV (vLine wI hI gI v nq + vLow wI hI gI v (Nat.cast nq : Int) 4))), (0, .ref v0), (1, .ref h0), (2, .int (iV v)), (4, .int (iV (Nat.cast nq : Int)))]) hx hb dX2_lineLength_31 rfl hl (by decide) rfl (fun ls hl => ?_)
          refine z_iinc (lv' := [(4, .int (iV ((Nat.cast nq : Int) + 1))), (3, .int (iV (vLine wI hI gI v nq + vLow wI hI gI v (Nat.cast nq : Int) 4))), (0, .ref v0), (1, .ref h0), (2, .int (iV v))]) hx hb dX2_lineLength_32 hl (k := 4) rfl (by decide) rfl (fun ls hl => ?_)
          refine lv_goto (tgt := 5) hx hb dX2_lineLength_35 (by decide) ?_
          exact ih_5 (nq + 1) (by first | assumption | omega) (by omega) _ _ hP hS _ (lv_cons (lv_at hl 2 rfl) (lv_cons (lv_at hl 3 rfl) (lv_cons (lv_at hl 4 rfl) (lv_cons (lv_i hl 1 rfl (by first | rfl | omega | (simp only [vLine, sumN]; rw [if_pos (bP_t (by assumption))]) | (simp only [vLine, sumN]; rw [if_neg (by rw [bP_f (by assumption)]; omega)]; omega))) (lv_cons (lv_i hl 0 rfl (by first | rfl | omega | (simp only [vLine, sumN]; rw [if_pos (bP_t (by assumption))]) | (simp only [vLine, sumN]; rw [if_neg (by rw [bP_f (by assumption)]; omega)]; omega))) (lv_nil hl))))))
  exact lp_5 _ 0 (by first | assumption | omega) (Nat.lt_succ_self _) _ _ hP hS _ (lv_cons (lv_at hl 2 rfl) (lv_cons (lv_at hl 3 rfl) (lv_cons (lv_at hl 4 rfl) (lv_cons (lv_i hl 1 rfl (by first | rfl | omega | (simp only [vLine, sumN]; rw [if_pos (bP_t (by assumption))]) | (simp only [vLine, sumN]; rw [if_neg (by rw [bP_f (by assumption)]; omega)]; omega))) (lv_cons (lv_i hl 0 rfl (by first | rfl | omega | (simp only [vLine, sumN]; rw [if_pos (bP_t (by assumption))]) | (simp only [vLine, sumN]; rw [if_neg (by rw [bP_f (by assumption)]; omega)]; omega))) (lv_nil hl))))))

set_option maxHeartbeats 4000000 in
set_option maxRecDepth 100000 in
theorem c_X2_cellsUp (l : Launch) (G : zG) (sz : Nat) (v0 : Nat) (vs : Nat) (vp : Nat) (h0 : Nat) (ha : Nat) (wI : Int) (hI : Int) (gI : Nat → Int) (v : Int) (hG : gOK wI hI gI) (hv_ : 1 ≤ v ∧ v ≤ 9) : Met l yX2_cellsUp (Cond.code yX2_cellsUp cX2_cellsUp 5 (some .int) :: zT) (zRm 3 65) (zPr G [.ref v0, .ref h0, .int (iV v)] [(v0, .inr (2, [.ref vs, .ref vp])), (h0, .inr (0, [.int (iV wI), .int (iV hI), .ref ha])), (ha, .inl (G.2.1, 81, .inl (fun k => iV (gI k))))] sz) (zQr (sumN (fun k => bP (gUp wI hI gI v (Nat.cast k : Int))) 81) sz) 0 0 (zF sz) := by
  refine Met.ofW (cc := cX2_cellsUp) (maxL := 5) (ret := (some .int)) (by decide) rfl ?_
  intro p e s m args below meth c s₁ B hml hv
  obtain ⟨rfl, hsz, hP, hK, hSt⟩ := hv
  have hx := B.exec
  have hb := B.bytes
  have hr := B.returns
  have hts : ∀ w ∈ zT, w.before _ s = true := fun w h => atoms_spec (ws := (Cond.code yX2_cellsUp cX2_cellsUp 5 (some .int) :: zT)) B.pre w (List.mem_cons_of_mem _ h)
  have hown : s.vm.findClass RX2 = some m.cls := findClass_of_methodNamed B.named
  have hlocks := B.notSynchronized
  subst hsz
  have hA : ∀ q : Nat, s.heap.size ≤ q → zF s.heap.size q := fun _ h => h
  have hS : va_S (zF s.heap.size) s.heap s.heap [] := va_S.rf
  have hP : va_P G.1 vwCl [(v0, .inr (2, [.ref vs, .ref vp])), (h0, .inr (0, [.int (iV wI), .int (iV hI), .ref ha])), (ha, .inl (G.2.1, 81, .inl (fun k => iV (gI k))))] s.heap := hP
  have X := And.intro hx (And.intro hb (And.intro hml (And.intro hown (And.intro hts (And.intro hK (And.intro hSt hA))))))
  have hl := lv_entry ([.ref v0, .ref h0, .int (iV v)]) (n := 5) (Nat.le_of_ble_eq_true rfl)
  rw [lg_entry_eq]
  generalize (lg_sl ([.ref v0, .ref h0, .int (iV v)]) ++ List.replicate (5 - (lg_sl ([.ref v0, .ref h0, .int (iV v)])).length) Slot.unset).toArray = ls at hl ⊢
  have hl : lv_has ls 5 [(0, .ref v0), (1, .ref h0), (2, .int (iV v))] := hl
  obtain ⟨hW0, hW9, hH0, hH9, hg⟩ := id hG
  refine lv_iconst (v := iV 0) hx hb dX2_cellsUp_0 (by decide) ?_
  refine lv_istore_n (lv' := [(3, .int (iV 0)), (0, .ref v0), (1, .ref h0), (2, .int (iV v))]) hx hb dX2_cellsUp_1 rfl hl (by decide) rfl (fun ls hl => ?_)
  refine lv_iconst (v := iV 0) hx hb dX2_cellsUp_2 (by decide) ?_
  refine lv_istore (lv' := [(4, .int (iV 0)), (3, .int (iV 0)), (0, .ref v0), (1, .ref h0), (2, .int (iV v))]) hx hb dX2_cellsUp_3 hl (by decide) rfl (fun ls hl => ?_)
  have lp_5 : ∀ (k : Nat) (nq : Nat) , (nq ≤ 81) → (81 - nq) < k → ∀ (H : Heap) (locs : List Loc), va_P G.1 vwCl [(v0, .inr (2, [.ref vs, .ref vp])), (h0, .inr (0, [.int (iV wI), .int (iV hI), .ref ha])), (ha, .inl (G.2.1, 81, .inl (fun k => iV (gI k))))] H → va_S (zF s.heap.size) s.heap H locs → ∀ ls : Array Slot, lv_has ls 5 [(0, .ref v0), (1, .ref h0), (2, .int (iV v)), (3, .int (iV (sumN (fun k => bP (gUp wI hI gI v (Nat.cast k : Int))) nq))), (4, .int (iV (Nat.cast nq : Int)))] → W p l e (headSpec (Cond.code yX2_cellsUp cX2_cellsUp 5 (some .int) :: zT) (zRm 3 65)).room s m ([Value.ref v0, Value.ref h0, Value.int (iV v)] : List Value).toArray below meth c H locs 0 0 (MQ below (zQr (sumN (fun k => bP (gUp wI hI gI v (Nat.cast k : Int))) 81) s.heap.size) ([Value.ref v0, Value.ref h0, Value.int (iV v)] : List Value).toArray s 0 0 (zF s.heap.size)) (F0 m 5 ls []) := by
    intro k
    induction k with
    | zero => intro nq hn hk_; exact absurd hk_ (Nat.not_lt_zero _)
    | succ k ih_5 =>
      intro nq hn hk_5 H locs hP hS ls hl
      refine lv_iload hx hb dX2_cellsUp_5 (lv_at hl 4 rfl) ?_
      refine lv_bipush (v := iV 81) hx hb dX2_cellsUp_7 (by decide) ?_
      refine z_icmp_ge (tgt := 31) hx hb (by omega) ⟨by decide, by decide⟩ dX2_cellsUp_9 (by decide) (fun c_1 => ?_) (fun c_1 => ?_)
      · refine lv_iload_n hx hb dX2_cellsUp_31 rfl (lv_at hl 3 rfl) ?_
        refine z_eq (z := sumN (fun k => bP (gUp wI hI gI v (Nat.cast k : Int))) 81) (by have h8 : nq = 81 := (by omega); subst h8; rfl) ?_
        exact z_ret hx hb hr hlocks hS dX2_cellsUp_32
      · refine lv_aload_n hx hb dX2_cellsUp_12 rfl (lv_at hl 1 rfl) ?_
        refine lv_iload hx hb dX2_cellsUp_13 (lv_at hl 4 rfl) ?_
        refine lv_iload_n hx hb dX2_cellsUp_15 rfl (lv_at hl 2 rfl) ?_
        refine z_callS X hP hS hl.1 (c_X2_isUp l G _ h0 ha wI hI gI (Nat.cast nq : Int) v (by first | assumption | omega) (by first | assumption | omega) (by first | assumption | omega)) wd_645 kX2_isUp ⟨rfl, rfl, Nat.le_of_ble_eq_true rfl, Nat.le_of_ble_eq_true rfl⟩ [1, 2] rfl rfl rfl (Nat.le_of_ble_eq_true rfl) dX2_cellsUp_16 ⟨Nat.zero_le _, Nat.zero_le _⟩ (fun H locs hP hS => ?_)
        refine z_ifb_eq (tgt := 25) hx hb dX2_cellsUp_19 (by decide) (fun c_2 => ?_) (fun c_2 => ?_)
        · refine z_iinc (lv' := [(4, .int (iV ((Nat.cast nq : Int) + 1))), (0, .ref v0), (1, .ref h0), (2, .int (iV v)), (3, .int (iV (sumN (fun k => bP (gUp wI hI gI v (Nat.cast k : Int))) nq)))]) hx hb dX2_cellsUp_25 hl (k := 4) rfl (by decide) rfl (fun ls hl => ?_)
          refine lv_goto (tgt := 5) hx hb dX2_cellsUp_28 (by decide) ?_
          exact ih_5 (nq + 1) (by first | assumption | omega) (by omega) _ _ hP hS _ (lv_cons (lv_at hl 1 rfl) (lv_cons (lv_at hl 2 rfl) (lv_cons (lv_at hl 3 rfl) (lv_cons (lv_i hl 4 rfl (by first | rfl | omega | exact sumN_t (P := fun k => gUp wI hI gI v (Nat.cast k : Int)) (by assumption) | exact sumN_f (P := fun k => gUp wI hI gI v (Nat.cast k : Int)) (by assumption))) (lv_cons (lv_i hl 0 rfl (by first | rfl | omega | exact sumN_t (P := fun k => gUp wI hI gI v (Nat.cast k : Int)) (by assumption) | exact sumN_f (P := fun k => gUp wI hI gI v (Nat.cast k : Int)) (by assumption))) (lv_nil hl))))))
        · refine z_iinc (lv' := [(3, .int (iV (sumN (fun k => bP (gUp wI hI gI v (Nat.cast k : Int))) nq + 1))), (0, .ref v0), (1, .ref h0), (2, .int (iV v)), (4, .int (iV (Nat.cast nq : Int)))]) hx hb dX2_cellsUp_22 hl (k := 3) rfl (by decide) rfl (fun ls hl => ?_)
          refine z_iinc (lv' := [(4, .int (iV ((Nat.cast nq : Int) + 1))), (3, .int (iV (sumN (fun k => bP (gUp wI hI gI v (Nat.cast k : Int))) nq + 1))), (0, .ref v0), (1, .ref h0), (2, .int (iV v))]) hx hb dX2_cellsUp_25 hl (k := 4) rfl (by decide) rfl (fun ls hl => ?_)
          refine lv_goto (tgt := 5) hx hb dX2_cellsUp_28 (by decide) ?_
          exact ih_5 (nq + 1) (by first | assumption | omega) (by omega) _ _ hP hS _ (lv_cons (lv_at hl 2 rfl) (lv_cons (lv_at hl 3 rfl) (lv_cons (lv_at hl 4 rfl) (lv_cons (lv_i hl 1 rfl (by first | rfl | omega | exact sumN_t (P := fun k => gUp wI hI gI v (Nat.cast k : Int)) (by assumption) | exact sumN_f (P := fun k => gUp wI hI gI v (Nat.cast k : Int)) (by assumption))) (lv_cons (lv_i hl 0 rfl (by first | rfl | omega | exact sumN_t (P := fun k => gUp wI hI gI v (Nat.cast k : Int)) (by assumption) | exact sumN_f (P := fun k => gUp wI hI gI v (Nat.cast k : Int)) (by assumption))) (lv_nil hl))))))
  exact lp_5 _ 0 (by first | assumption | omega) (Nat.lt_succ_self _) _ _ hP hS _ (lv_cons (lv_at hl 2 rfl) (lv_cons (lv_at hl 3 rfl) (lv_cons (lv_at hl 4 rfl) (lv_cons (lv_i hl 1 rfl (by first | rfl | omega | exact sumN_t (P := fun k => gUp wI hI gI v (Nat.cast k : Int)) (by assumption) | exact sumN_f (P := fun k => gUp wI hI gI v (Nat.cast k : Int)) (by assumption))) (lv_cons (lv_i hl 0 rfl (by first | rfl | omega | exact sumN_t (P := fun k => gUp wI hI gI v (Nat.cast k : Int)) (by assumption) | exact sumN_f (P := fun k => gUp wI hI gI v (Nat.cast k : Int)) (by assumption))) (lv_nil hl))))))

set_option maxHeartbeats 4000000 in
set_option maxRecDepth 100000 in
theorem c_X2_walkPiece (l : Launch) (G : zG) (sz : Nat) (v0 : Nat) (vs : Nat) (vp : Nat) (sF : Nat → Int) (pF : Nat → Int) (h0 : Nat) (ha : Nat) (wI : Int) (hI : Int) (gI : Nat → Int) (cI : Int) (v : Int) (hsF : ∀ k : Nat, 0 ≤ sF k ∧ sF k ≤ 1) (hpF : ∀ k : Nat, 0 ≤ pF k ∧ pF k < 81) (hG : gOK wI hI gI) (hc : 0 ≤ cI ∧ cI < 81) (hv_ : 1 ≤ v ∧ v ≤ 9) : Met l yX2_walkPiece (Cond.code yX2_walkPiece cX2_walkPiece 8 none :: zT) (zRm 3 65) (zPw G [.ref v0, .ref h0, .int (iV cI), .int (iV v)] [(v0, .inr (2, [.ref vs, .ref vp])), (vs, .inl (G.2.2.1, 81, .inl (fun k => iV (sF k)))), (vp, .inl (G.2.1, 81, .inl (fun k => iV (pF k)))), (h0, .inr (0, [.int (iV wI), .int (iV hI), .ref ha])), (ha, .inl (G.2.1, 81, .inl (fun k => iV (gI k))))] sz) (zQv G [(v0, .inr (2, [.ref vs, .ref vp])), (vs, .inl (G.2.2.1, 81, .inl (fun k => iV (sF k)))), (vp, .inl (G.2.1, 81, .inl (fun k => iV (pF k)))), (h0, .inr (0, [.int (iV wI), .int (iV hI), .ref ha])), (ha, .inl (G.2.1, 81, .inl (fun k => iV (gI k))))] [(v0, .inr (2, [.ref vs, .ref vp])), (vs, .inl (G.2.2.1, 81, .inl (fun k => iV ((wPiece wI hI gI v cI sF pF).2.1 k)))), (vp, .inl (G.2.1, 81, .inl (fun k => iV ((wPiece wI hI gI v cI sF pF).2.2 k)))), (h0, .inr (0, [.int (iV wI), .int (iV hI), .ref ha])), (ha, .inl (G.2.1, 81, .inl (fun k => iV (gI k))))] sz) 0 0 (va_A [(v0, .inr (2, [.ref vs, .ref vp])), (vs, .inl (G.2.2.1, 81, .inl (fun k => iV (sF k)))), (vp, .inl (G.2.1, 81, .inl (fun k => iV (pF k)))), (h0, .inr (0, [.int (iV wI), .int (iV hI), .ref ha])), (ha, .inl (G.2.1, 81, .inl (fun k => iV (gI k))))] sz) := by
  refine Met.ofW (cc := cX2_walkPiece) (maxL := 8) (ret := none) (by decide) rfl ?_
  intro p e s m args below meth c s₁ B hml hv
  obtain ⟨rfl, hsz, hP, hK, hSt, hD0⟩ := hv
  have hx := B.exec
  have hb := B.bytes
  have hr := B.returns
  have hts : ∀ w ∈ zT, w.before _ s = true := fun w h => atoms_spec (ws := (Cond.code yX2_walkPiece cX2_walkPiece 8 none :: zT)) B.pre w (List.mem_cons_of_mem _ h)
  have hown : s.vm.findClass RX2 = some m.cls := findClass_of_methodNamed B.named
  have hlocks := B.notSynchronized
  subst hsz
  have hD : va_D (va_A [(v0, .inr (2, [.ref vs, .ref vp])), (vs, .inl (G.2.2.1, 81, .inl (fun k => iV (sF k)))), (vp, .inl (G.2.1, 81, .inl (fun k => iV (pF k)))), (h0, .inr (0, [.int (iV wI), .int (iV hI), .ref ha])), (ha, .inl (G.2.1, 81, .inl (fun k => iV (gI k))))] s.heap.size) [(v0, .inr (2, [.ref vs, .ref vp])), (vs, .inl (G.2.2.1, 81, .inl (fun k => iV (sF k)))), (vp, .inl (G.2.1, 81, .inl (fun k => iV (pF k)))), (h0, .inr (0, [.int (iV wI), .int (iV hI), .ref ha])), (ha, .inl (G.2.1, 81, .inl (fun k => iV (gI k))))] := hD0.self
  have hA : ∀ q : Nat, s.heap.size ≤ q → va_A [(v0, .inr (2, [.ref vs, .ref vp])), (vs, .inl (G.2.2.1, 81, .inl (fun k => iV (sF k)))), (vp, .inl (G.2.1, 81, .inl (fun k => iV (pF k)))), (h0, .inr (0, [.int (iV wI), .int (iV hI), .ref ha])), (ha, .inl (G.2.1, 81, .inl (fun k => iV (gI k))))] s.heap.size q := fun q h => Or.inr h
  have hS : va_S (va_A [(v0, .inr (2, [.ref vs, .ref vp])), (vs, .inl (G.2.2.1, 81, .inl (fun k => iV (sF k)))), (vp, .inl (G.2.1, 81, .inl (fun k => iV (pF k)))), (h0, .inr (0, [.int (iV wI), .int (iV hI), .ref ha])), (ha, .inl (G.2.1, 81, .inl (fun k => iV (gI k))))] s.heap.size) s.heap s.heap [] := va_S.rf
  have hP : va_P G.1 vwCl [(v0, .inr (2, [.ref vs, .ref vp])), (vs, .inl (G.2.2.1, 81, .inl (fun k => iV (sF k)))), (vp, .inl (G.2.1, 81, .inl (fun k => iV (pF k)))), (h0, .inr (0, [.int (iV wI), .int (iV hI), .ref ha])), (ha, .inl (G.2.1, 81, .inl (fun k => iV (gI k))))] s.heap := hP
  have X := And.intro hx (And.intro hb (And.intro hml (And.intro hown (And.intro hts (And.intro hK (And.intro hSt hA))))))
  have hl := lv_entry ([.ref v0, .ref h0, .int (iV cI), .int (iV v)]) (n := 8) (Nat.le_of_ble_eq_true rfl)
  rw [lg_entry_eq]
  generalize (lg_sl ([.ref v0, .ref h0, .int (iV cI), .int (iV v)]) ++ List.replicate (8 - (lg_sl ([.ref v0, .ref h0, .int (iV cI), .int (iV v)])).length) Slot.unset).toArray = ls at hl ⊢
  have hl : lv_has ls 8 [(0, .ref v0), (1, .ref h0), (2, .int (iV cI)), (3, .int (iV v))] := hl
  obtain ⟨hW0, hW9, hH0, hH9, hg⟩ := id hG
  refine lv_iconst (v := iV 1) hx hb dX2_walkPiece_0 (by decide) ?_
  refine lv_istore (lv' := [(4, .int (iV 1)), (0, .ref v0), (1, .ref h0), (2, .int (iV cI)), (3, .int (iV v))]) hx hb dX2_walkPiece_1 hl (by decide) rfl (fun ls hl => ?_)
  refine lv_aload_n hx hb dX2_walkPiece_3 rfl (lv_at hl 1 rfl) ?_
  refine va_get (D := G.1) (ci := 2) (v := .ref vp) (C := RX2) (T := TX2) (N := 2) hx hb hts inX2 hown hK hP 0 rfl rfl 1 (by decide) (hts _ wd_194) (fun _ h9 => h9) rfl dX2_walkPiece_4 ?_
  refine lv_iconst (v := iV 0) hx hb dX2_walkPiece_7 (by decide) ?_
  refine lv_iload_n hx hb dX2_walkPiece_8 rfl (lv_at hl 3 rfl) ?_
  refine z_iast (G := G) (f := pF) hx hb hK hP hD hS 2 rfl (by omega) (by omega) (by decide) dX2_walkPiece_9 (fun H locs hP hD hS => ?_)
  have hP : va_P G.1 vwCl [(v0, .inr (2, [.ref vs, .ref vp])), (vs, .inl (G.2.2.1, 81, .inl (fun k => iV (sF k)))), (vp, .inl (G.2.1, 81, .inl (fun k => iV ((uI pF 0 cI) k)))), (h0, .inr (0, [.int (iV wI), .int (iV hI), .ref ha])), (ha, .inl (G.2.1, 81, .inl (fun k => iV (gI k))))] H := hP
  have hD : va_D _ [(v0, .inr (2, [.ref vs, .ref vp])), (vs, .inl (G.2.2.1, 81, .inl (fun k => iV (sF k)))), (vp, .inl (G.2.1, 81, .inl (fun k => iV ((uI pF 0 cI) k)))), (h0, .inr (0, [.int (iV wI), .int (iV hI), .ref ha])), (ha, .inl (G.2.1, 81, .inl (fun k => iV (gI k))))] := hD
  refine lv_aload_n hx hb dX2_walkPiece_10 rfl (lv_at hl 1 rfl) ?_
  refine va_get (D := G.1) (ci := 2) (v := .ref vs) (C := RX2) (T := TX2) (N := 2) hx hb hts inX2 hown hK hP 0 rfl rfl 0 (by decide) (hts _ wd_193) (fun _ h9 => h9) rfl dX2_walkPiece_11 ?_
  refine lv_iload_n hx hb dX2_walkPiece_14 rfl (lv_at hl 3 rfl) ?_
  refine lv_iconst (v := iV 1) hx hb dX2_walkPiece_15 (by decide) ?_
  refine z_zast (G := G) (f := sF) hx hb hK hP hD hS 1 rfl (by omega) (by omega) (by decide) (by omega) dX2_walkPiece_16 (fun H locs hP hD hS => ?_)
  have hP : va_P G.1 vwCl [(v0, .inr (2, [.ref vs, .ref vp])), (vs, .inl (G.2.2.1, 81, .inl (fun k => iV ((uI sF cI.toNat 1) k)))), (vp, .inl (G.2.1, 81, .inl (fun k => iV ((uI pF 0 cI) k)))), (h0, .inr (0, [.int (iV wI), .int (iV hI), .ref ha])), (ha, .inl (G.2.1, 81, .inl (fun k => iV (gI k))))] H := hP
  have hD : va_D _ [(v0, .inr (2, [.ref vs, .ref vp])), (vs, .inl (G.2.2.1, 81, .inl (fun k => iV ((uI sF cI.toNat 1) k)))), (vp, .inl (G.2.1, 81, .inl (fun k => iV ((uI pF 0 cI) k)))), (h0, .inr (0, [.int (iV wI), .int (iV hI), .ref ha])), (ha, .inl (G.2.1, 81, .inl (fun k => iV (gI k))))] := hD
  refine lv_iconst (v := iV 0) hx hb dX2_walkPiece_17 (by decide) ?_
  refine lv_istore (lv' := [(5, .int (iV 0)), (4, .int (iV 1)), (0, .ref v0), (1, .ref h0), (2, .int (iV cI)), (3, .int (iV v))]) hx hb dX2_walkPiece_18 hl (by decide) rfl (fun ls hl => ?_)
  have lp_20 : ∀ (k : Nat) (iq : Nat) (f2 : Int) (s2 : Nat → Int) (p2 : Nat → Int) , (iq ≤ 81) → (wOK (f2, s2, p2)) → ((wPiece wI hI gI v cI sF pF) = wOut wI hI gI v (81 - iq) iq (f2, s2, p2)) → (81 - iq) < k → ∀ (H : Heap) (locs : List Loc), va_P G.1 vwCl [(v0, .inr (2, [.ref vs, .ref vp])), (vs, .inl (G.2.2.1, 81, .inl (fun k => iV (s2 k)))), (vp, .inl (G.2.1, 81, .inl (fun k => iV (p2 k)))), (h0, .inr (0, [.int (iV wI), .int (iV hI), .ref ha])), (ha, .inl (G.2.1, 81, .inl (fun k => iV (gI k))))] H → va_D (va_A [(v0, .inr (2, [.ref vs, .ref vp])), (vs, .inl (G.2.2.1, 81, .inl (fun k => iV (sF k)))), (vp, .inl (G.2.1, 81, .inl (fun k => iV (pF k)))), (h0, .inr (0, [.int (iV wI), .int (iV hI), .ref ha])), (ha, .inl (G.2.1, 81, .inl (fun k => iV (gI k))))] s.heap.size) [(v0, .inr (2, [.ref vs, .ref vp])), (vs, .inl (G.2.2.1, 81, .inl (fun k => iV (s2 k)))), (vp, .inl (G.2.1, 81, .inl (fun k => iV (p2 k)))), (h0, .inr (0, [.int (iV wI), .int (iV hI), .ref ha])), (ha, .inl (G.2.1, 81, .inl (fun k => iV (gI k))))] → va_S (va_A [(v0, .inr (2, [.ref vs, .ref vp])), (vs, .inl (G.2.2.1, 81, .inl (fun k => iV (sF k)))), (vp, .inl (G.2.1, 81, .inl (fun k => iV (pF k)))), (h0, .inr (0, [.int (iV wI), .int (iV hI), .ref ha])), (ha, .inl (G.2.1, 81, .inl (fun k => iV (gI k))))] s.heap.size) s.heap H locs → ∀ ls : Array Slot, lv_has ls 8 [(0, .ref v0), (1, .ref h0), (2, .int (iV cI)), (3, .int (iV v)), (4, .int (iV f2)), (5, .int (iV (Nat.cast iq : Int)))] → W p l e (headSpec (Cond.code yX2_walkPiece cX2_walkPiece 8 none :: zT) (zRm 3 65)).room s m ([Value.ref v0, Value.ref h0, Value.int (iV cI), Value.int (iV v)] : List Value).toArray below meth c H locs 0 0 (MQ below (zQv G [(v0, .inr (2, [.ref vs, .ref vp])), (vs, .inl (G.2.2.1, 81, .inl (fun k => iV (sF k)))), (vp, .inl (G.2.1, 81, .inl (fun k => iV (pF k)))), (h0, .inr (0, [.int (iV wI), .int (iV hI), .ref ha])), (ha, .inl (G.2.1, 81, .inl (fun k => iV (gI k))))] [(v0, .inr (2, [.ref vs, .ref vp])), (vs, .inl (G.2.2.1, 81, .inl (fun k => iV ((wPiece wI hI gI v cI sF pF).2.1 k)))), (vp, .inl (G.2.1, 81, .inl (fun k => iV ((wPiece wI hI gI v cI sF pF).2.2 k)))), (h0, .inr (0, [.int (iV wI), .int (iV hI), .ref ha])), (ha, .inl (G.2.1, 81, .inl (fun k => iV (gI k))))] s.heap.size) ([Value.ref v0, Value.ref h0, Value.int (iV cI), Value.int (iV v)] : List Value).toArray s 0 0 (va_A [(v0, .inr (2, [.ref vs, .ref vp])), (vs, .inl (G.2.2.1, 81, .inl (fun k => iV (sF k)))), (vp, .inl (G.2.1, 81, .inl (fun k => iV (pF k)))), (h0, .inr (0, [.int (iV wI), .int (iV hI), .ref ha])), (ha, .inl (G.2.1, 81, .inl (fun k => iV (gI k))))] s.heap.size)) (F0 m 20 ls []) := by
    intro k
    induction k with
    | zero => intro iq f2 s2 p2 hi hw2 hp hk_; exact absurd hk_ (Nat.not_lt_zero _)
    | succ k ih_20 =>
      intro iq f2 s2 p2 hi hw2 hp hk_20 H locs hP hD hS ls hl
      have hf0 := hw2.1
      have hf1 := hw2.2.1
      simp only at hf0 hf1
      refine lv_iload hx hb dX2_walkPiece_20 (lv_at hl 5 rfl) ?_
      refine lv_iload hx hb dX2_walkPiece_22 (lv_at hl 4 rfl) ?_
      refine z_icmp_ge (tgt := 118) hx hb (by omega) (by omega) dX2_walkPiece_24 (by decide) (fun c_1 => ?_) (fun c_1 => ?_)
      · have hP : va_P G.1 vwCl [(v0, .inr (2, [.ref vs, .ref vp])), (vs, .inl (G.2.2.1, 81, .inl (fun k => iV ((wPiece wI hI gI v cI sF pF).2.1 k)))), (vp, .inl (G.2.1, 81, .inl (fun k => iV ((wPiece wI hI gI v cI sF pF).2.2 k)))), (h0, .inr (0, [.int (iV wI), .int (iV hI), .ref ha])), (ha, .inl (G.2.1, 81, .inl (fun k => iV (gI k))))] _ := z_castP (by rw [hp, wOut_f (by omega)]) hP
        exact z_retv hx hb hr hlocks hP hS dX2_walkPiece_118
      · refine lv_iload hx hb dX2_walkPiece_27 (lv_at hl 5 rfl) ?_
        refine lv_bipush (v := iV 81) hx hb dX2_walkPiece_29 (by decide) ?_
        refine z_icmp_ge (tgt := 118) hx hb (by omega) ⟨by decide, by decide⟩ dX2_walkPiece_31 (by decide) (fun c_2 => ?_) (fun c_2 => ?_)
        · have hP : va_P G.1 vwCl [(v0, .inr (2, [.ref vs, .ref vp])), (vs, .inl (G.2.2.1, 81, .inl (fun k => iV ((wPiece wI hI gI v cI sF pF).2.1 k)))), (vp, .inl (G.2.1, 81, .inl (fun k => iV ((wPiece wI hI gI v cI sF pF).2.2 k)))), (h0, .inr (0, [.int (iV wI), .int (iV hI), .ref ha])), (ha, .inl (G.2.1, 81, .inl (fun k => iV (gI k))))] _ := z_castP (by rw [hp, wOut_f (by omega)]) hP
          exact z_retv hx hb hr hlocks hP hS dX2_walkPiece_118
        · refine lv_iconst (v := iV 0) hx hb dX2_walkPiece_34 (by decide) ?_
          refine lv_istore (lv' := [(6, .int (iV 0)), (0, .ref v0), (1, .ref h0), (2, .int (iV cI)), (3, .int (iV v)), (4, .int (iV f2)), (5, .int (iV (Nat.cast iq : Int)))]) hx hb dX2_walkPiece_35 hl (by decide) rfl (fun ls hl => ?_)
          have lp_37 : ∀ (k : Nat) (jq : Nat) (f3 : Int) (s3 : Nat → Int) (p3 : Nat → Int) , (jq ≤ 4) → (wOK (f3, s3, p3)) → (wI4 wI hI gI v iq 4 0 (f2, s2, p2) = wI4 wI hI gI v iq (4 - jq) jq (f3, s3, p3)) → (4 - jq) < k → ∀ (H : Heap) (locs : List Loc), va_P G.1 vwCl [(v0, .inr (2, [.ref vs, .ref vp])), (vs, .inl (G.2.2.1, 81, .inl (fun k => iV (s3 k)))), (vp, .inl (G.2.1, 81, .inl (fun k => iV (p3 k)))), (h0, .inr (0, [.int (iV wI), .int (iV hI), .ref ha])), (ha, .inl (G.2.1, 81, .inl (fun k => iV (gI k))))] H → va_D (va_A [(v0, .inr (2, [.ref vs, .ref vp])), (vs, .inl (G.2.2.1, 81, .inl (fun k => iV (sF k)))), (vp, .inl (G.2.1, 81, .inl (fun k => iV (pF k)))), (h0, .inr (0, [.int (iV wI), .int (iV hI), .ref ha])), (ha, .inl (G.2.1, 81, .inl (fun k => iV (gI k))))] s.heap.size) [(v0, .inr (2, [.ref vs, .ref vp])), (vs, .inl (G.2.2.1, 81, .inl (fun k => iV (s3 k)))), (vp, .inl (G.2.1, 81, .inl (fun k => iV (p3 k)))), (h0, .inr (0, [.int (iV wI), .int (iV hI), .ref ha])), (ha, .inl (G.2.1, 81, .inl (fun k => iV (gI k))))] → va_S (va_A [(v0, .inr (2, [.ref vs, .ref vp])), (vs, .inl (G.2.2.1, 81, .inl (fun k => iV (sF k)))), (vp, .inl (G.2.1, 81, .inl (fun k => iV (pF k)))), (h0, .inr (0, [.int (iV wI), .int (iV hI), .ref ha])), (ha, .inl (G.2.1, 81, .inl (fun k => iV (gI k))))] s.heap.size) s.heap H locs → ∀ ls : Array Slot, lv_has ls 8 [(0, .ref v0), (1, .ref h0), (2, .int (iV cI)), (3, .int (iV v)), (4, .int (iV f3)), (5, .int (iV (Nat.cast iq : Int))), (6, .int (iV (2 * (Nat.cast jq : Int))))] → W p l e (headSpec (Cond.code yX2_walkPiece cX2_walkPiece 8 none :: zT) (zRm 3 65)).room s m ([Value.ref v0, Value.ref h0, Value.int (iV cI), Value.int (iV v)] : List Value).toArray below meth c H locs 0 0 (MQ below (zQv G [(v0, .inr (2, [.ref vs, .ref vp])), (vs, .inl (G.2.2.1, 81, .inl (fun k => iV (sF k)))), (vp, .inl (G.2.1, 81, .inl (fun k => iV (pF k)))), (h0, .inr (0, [.int (iV wI), .int (iV hI), .ref ha])), (ha, .inl (G.2.1, 81, .inl (fun k => iV (gI k))))] [(v0, .inr (2, [.ref vs, .ref vp])), (vs, .inl (G.2.2.1, 81, .inl (fun k => iV ((wPiece wI hI gI v cI sF pF).2.1 k)))), (vp, .inl (G.2.1, 81, .inl (fun k => iV ((wPiece wI hI gI v cI sF pF).2.2 k)))), (h0, .inr (0, [.int (iV wI), .int (iV hI), .ref ha])), (ha, .inl (G.2.1, 81, .inl (fun k => iV (gI k))))] s.heap.size) ([Value.ref v0, Value.ref h0, Value.int (iV cI), Value.int (iV v)] : List Value).toArray s 0 0 (va_A [(v0, .inr (2, [.ref vs, .ref vp])), (vs, .inl (G.2.2.1, 81, .inl (fun k => iV (sF k)))), (vp, .inl (G.2.1, 81, .inl (fun k => iV (pF k)))), (h0, .inr (0, [.int (iV wI), .int (iV hI), .ref ha])), (ha, .inl (G.2.1, 81, .inl (fun k => iV (gI k))))] s.heap.size)) (F0 m 37 ls []) := by
            intro k
            induction k with
            | zero => intro jq f3 s3 p3 hj hw3 hp2 hk_; exact absurd hk_ (Nat.not_lt_zero _)
            | succ k ih_37 =>
              intro jq f3 s3 p3 hj hw3 hp2 hk_37 H locs hP hD hS ls hl
              have hg0 := hw3.1
              have hg1 := hw3.2.1
              have hs3 := hw3.2.2.1
              have hp3 := hw3.2.2.2
              simp only at hg0 hg1 hs3 hp3
              refine lv_iload hx hb dX2_walkPiece_37 (lv_at hl 6 rfl) ?_
              refine lv_bipush (v := iV 8) hx hb dX2_walkPiece_39 (by decide) ?_
              refine z_icmp_ge (tgt := 112) hx hb (by omega) ⟨by decide, by decide⟩ dX2_walkPiece_41 (by decide) (fun c_3 => ?_) (fun c_3 => ?_)
              · refine z_iinc (lv' := [(5, .int (iV ((Nat.cast iq : Int) + 1))), (0, .ref v0), (1, .ref h0), (2, .int (iV cI)), (3, .int (iV v)), (4, .int (iV f3)), (6, .int (iV (2 * (Nat.cast jq : Int))))]) hx hb dX2_walkPiece_112 hl (k := 5) rfl (by decide) rfl (fun ls hl => ?_)
                refine lv_goto (tgt := 20) hx hb dX2_walkPiece_115 (by decide) ?_
                exact ih_20 (iq + 1) f3 s3 p3 (by first | assumption | omega) (by assumption) (by have h8 : jq = 4 := (by omega); subst h8; rw [hp, wOut_t (by omega) (by omega), hp2]; rfl) (by omega) _ _ hP hD hS _ (lv_cons (lv_at hl 1 rfl) (lv_cons (lv_at hl 2 rfl) (lv_cons (lv_at hl 3 rfl) (lv_cons (lv_at hl 4 rfl) (lv_cons (lv_at hl 5 rfl) (lv_cons (lv_i hl 0 rfl (by omega)) (lv_nil hl)))))))
              · refine lv_aload_n hx hb dX2_walkPiece_44 rfl (lv_at hl 1 rfl) ?_
                refine lv_aload_n hx hb dX2_walkPiece_45 rfl (lv_at hl 0 rfl) ?_
                refine va_get (D := G.1) (ci := 2) (v := .ref vp) (C := RX2) (T := TX2) (N := 2) hx hb hts inX2 hown hK hP 0 rfl rfl 1 (by decide) (hts _ wd_194) (fun _ h9 => h9) rfl dX2_walkPiece_46 ?_
                refine lv_iload hx hb dX2_walkPiece_49 (lv_at hl 5 rfl) ?_
                refine z_iald (G := G) (f := p3) hx hb hK hP 2 rfl (by omega) (by omega) (by decide) dX2_walkPiece_51 ?_
                refine z_eq (z := p3 iq) (by rw [cst0]) ?_
                refine lv_iload hx hb dX2_walkPiece_52 (lv_at hl 6 rfl) ?_
                have hpr := hp3 iq
                refine z_callV X hP hS hl.1 (c_X0_beside l G _ h0 ha wI hI gI (p3 iq) (2 * (Nat.cast jq : Int)) (by first | assumption | omega) (by first | assumption | omega) (by first | assumption | omega)) wd_654 kX0_beside ⟨rfl, rfl, Nat.le_of_ble_eq_true rfl, Nat.le_of_ble_eq_true rfl⟩ [3, 4] rfl 0 rfl rfl rfl rfl (Nat.le_of_ble_eq_true rfl) dX2_walkPiece_54 ⟨Nat.zero_le _, Nat.zero_le _⟩ (fun H locs hP hS => ?_)
                have f_4 := gNb_r hG (p3 iq) (2 * (Nat.cast jq : Int))
                refine lv_istore (lv' := [(7, .int (iV (gNb wI hI (p3 iq) (2 * (Nat.cast jq : Int))))), (0, .ref v0), (1, .ref h0), (2, .int (iV cI)), (3, .int (iV v)), (4, .int (iV f3)), (5, .int (iV (Nat.cast iq : Int))), (6, .int (iV (2 * (Nat.cast jq : Int))))]) hx hb dX2_walkPiece_57 hl (by decide) rfl (fun ls hl => ?_)
                refine lv_aload_n hx hb dX2_walkPiece_59 rfl (lv_at hl 2 rfl) ?_
                refine lv_iload hx hb dX2_walkPiece_60 (lv_at hl 0 rfl) ?_
                refine lv_iload_n hx hb dX2_walkPiece_62 rfl (lv_at hl 4 rfl) ?_
                refine z_callS X hP hS hl.1 (c_X2_isUp l G _ h0 ha wI hI gI (gNb wI hI (p3 iq) (2 * (Nat.cast jq : Int))) v (by first | assumption | omega) (by first | assumption | omega) (by first | assumption | omega)) wd_645 kX2_isUp ⟨rfl, rfl, Nat.le_of_ble_eq_true rfl, Nat.le_of_ble_eq_true rfl⟩ [3, 4] rfl rfl rfl (Nat.le_of_ble_eq_true rfl) dX2_walkPiece_63 ⟨Nat.zero_le _, Nat.zero_le _⟩ (fun H locs hP hS => ?_)
                refine z_ifb_eq (tgt := 106) hx hb dX2_walkPiece_66 (by decide) (fun c_5 => ?_) (fun c_5 => ?_)
                · refine z_iinc (lv' := [(6, .int (iV ((2 * (Nat.cast jq : Int)) + 2))), (7, .int (iV (gNb wI hI (p3 iq) (2 * (Nat.cast jq : Int))))), (0, .ref v0), (1, .ref h0), (2, .int (iV cI)), (3, .int (iV v)), (4, .int (iV f3)), (5, .int (iV (Nat.cast iq : Int)))]) hx hb dX2_walkPiece_106 hl (k := 7) rfl (by decide) rfl (fun ls hl => ?_)
                  refine lv_goto (tgt := 37) hx hb dX2_walkPiece_109 (by decide) ?_
                  exact ih_37 (jq + 1) f3 s3 p3 (by first | assumption | omega) (by first | assumption | exact wOK_u hw3 (by omega) ⟨(by assumption : gUp wI hI gI v (gNb wI hI (p3 iq) (2 * (Nat.cast jq : Int)))).1.1, by omega⟩) (by rw [hp2, wI4_s (by omega)]; first | (rw [wD_t rfl (by assumption) (by assumption) (by omega)] <;> rfl) | (rw [wD_f rfl (fun q => by first | exact absurd q.1 (by assumption) | exact absurd q.2.1 (by assumption) | exact absurd q.2.2 (by omega))])) (by omega) _ _ hP hD hS _ (lv_cons (lv_at hl 2 rfl) (lv_cons (lv_at hl 3 rfl) (lv_cons (lv_at hl 4 rfl) (lv_cons (lv_at hl 5 rfl) (lv_cons (lv_at hl 6 rfl) (lv_cons (lv_at hl 7 rfl) (lv_cons (lv_i hl 0 rfl (by omega)) (lv_nil hl))))))))
                · have hou : gUp wI hI gI v (gNb wI hI (p3 iq) (2 * (Nat.cast jq : Int))) := by assumption
                  have hou1 := hou.1.1
                  refine lv_aload_n hx hb dX2_walkPiece_69 rfl (lv_at hl 1 rfl) ?_
                  refine va_get (D := G.1) (ci := 2) (v := .ref vs) (C := RX2) (T := TX2) (N := 2) hx hb hts inX2 hown hK hP 0 rfl rfl 0 (by decide) (hts _ wd_193) (fun _ h9 => h9) rfl dX2_walkPiece_70 ?_
                  refine lv_iload hx hb dX2_walkPiece_73 (lv_at hl 0 rfl) ?_
                  refine z_zald (G := G) (f := s3) hx hb hK hP 1 rfl (by omega) (by omega) (by decide) dX2_walkPiece_75 ?_
                  have f_6 := hs3 (gNb wI hI (p3 iq) (2 * (Nat.cast jq : Int))).toNat
                  refine z_if_ne (tgt := 106) hx hb (by omega) dX2_walkPiece_76 (by decide) (fun c_7 => ?_) (fun c_7 => ?_)
                  · refine z_iinc (lv' := [(6, .int (iV ((2 * (Nat.cast jq : Int)) + 2))), (7, .int (iV (gNb wI hI (p3 iq) (2 * (Nat.cast jq : Int))))), (0, .ref v0), (1, .ref h0), (2, .int (iV cI)), (3, .int (iV v)), (4, .int (iV f3)), (5, .int (iV (Nat.cast iq : Int)))]) hx hb dX2_walkPiece_106 hl (k := 7) rfl (by decide) rfl (fun ls hl => ?_)
                    refine lv_goto (tgt := 37) hx hb dX2_walkPiece_109 (by decide) ?_
                    exact ih_37 (jq + 1) f3 s3 p3 (by first | assumption | omega) (by first | assumption | exact wOK_u hw3 (by omega) ⟨(by assumption : gUp wI hI gI v (gNb wI hI (p3 iq) (2 * (Nat.cast jq : Int)))).1.1, by omega⟩) (by rw [hp2, wI4_s (by omega)]; first | (rw [wD_t rfl (by assumption) (by assumption) (by omega)] <;> rfl) | (rw [wD_f rfl (fun q => by first | exact absurd q.1 (by assumption) | exact absurd q.2.1 (by assumption) | exact absurd q.2.2 (by omega))])) (by omega) _ _ hP hD hS _ (lv_cons (lv_at hl 2 rfl) (lv_cons (lv_at hl 3 rfl) (lv_cons (lv_at hl 4 rfl) (lv_cons (lv_at hl 5 rfl) (lv_cons (lv_at hl 6 rfl) (lv_cons (lv_at hl 7 rfl) (lv_cons (lv_i hl 0 rfl (by omega)) (lv_nil hl))))))))
                  · refine lv_iload hx hb dX2_walkPiece_79 (lv_at hl 5 rfl) ?_
                    refine lv_bipush (v := iV 81) hx hb dX2_walkPiece_81 (by decide) ?_
                    refine z_icmp_ge (tgt := 106) hx hb (by omega) ⟨by decide, by decide⟩ dX2_walkPiece_83 (by decide) (fun c_8 => ?_) (fun c_8 => ?_)
                    · refine z_iinc (lv' := [(6, .int (iV ((2 * (Nat.cast jq : Int)) + 2))), (7, .int (iV (gNb wI hI (p3 iq) (2 * (Nat.cast jq : Int))))), (0, .ref v0), (1, .ref h0), (2, .int (iV cI)), (3, .int (iV v)), (4, .int (iV f3)), (5, .int (iV (Nat.cast iq : Int)))]) hx hb dX2_walkPiece_106 hl (k := 7) rfl (by decide) rfl (fun ls hl => ?_)
                      refine lv_goto (tgt := 37) hx hb dX2_walkPiece_109 (by decide) ?_
                      exact ih_37 (jq + 1) f3 s3 p3 (by first | assumption | omega) (by first | assumption | exact wOK_u hw3 (by omega) ⟨(by assumption : gUp wI hI gI v (gNb wI hI (p3 iq) (2 * (Nat.cast jq : Int)))).1.1, by omega⟩) (by rw [hp2, wI4_s (by omega)]; first | (rw [wD_t rfl (by assumption) (by assumption) (by omega)] <;> rfl) | (rw [wD_f rfl (fun q => by first | exact absurd q.1 (by assumption) | exact absurd q.2.1 (by assumption) | exact absurd q.2.2 (by omega))])) (by omega) _ _ hP hD hS _ (lv_cons (lv_at hl 2 rfl) (lv_cons (lv_at hl 3 rfl) (lv_cons (lv_at hl 4 rfl) (lv_cons (lv_at hl 5 rfl) (lv_cons (lv_at hl 6 rfl) (lv_cons (lv_at hl 7 rfl) (lv_cons (lv_i hl 0 rfl (by omega)) (lv_nil hl))))))))
                    · refine lv_aload_n hx hb dX2_walkPiece_86 rfl (lv_at hl 1 rfl) ?_
                      refine va_get (D := G.1) (ci := 2) (v := .ref vs) (C := RX2) (T := TX2) (N := 2) hx hb hts inX2 hown hK hP 0 rfl rfl 0 (by decide) (hts _ wd_193) (fun _ h9 => h9) rfl dX2_walkPiece_87 ?_
                      refine lv_iload hx hb dX2_walkPiece_90 (lv_at hl 0 rfl) ?_
                      refine lv_iconst (v := iV 1) hx hb dX2_walkPiece_92 (by decide) ?_
                      refine z_zast (G := G) (f := s3) hx hb hK hP hD hS 1 rfl (by omega) (by omega) (by decide) (by omega) dX2_walkPiece_93 (fun H locs hP hD hS => ?_)
                      have hP : va_P G.1 vwCl [(v0, .inr (2, [.ref vs, .ref vp])), (vs, .inl (G.2.2.1, 81, .inl (fun k => iV ((uI s3 (gNb wI hI (p3 iq) (2 * (Nat.cast jq : Int))).toNat 1) k)))), (vp, .inl (G.2.1, 81, .inl (fun k => iV (p3 k)))), (h0, .inr (0, [.int (iV wI), .int (iV hI), .ref ha])), (ha, .inl (G.2.1, 81, .inl (fun k => iV (gI k))))] H := hP
                      have hD : va_D _ [(v0, .inr (2, [.ref vs, .ref vp])), (vs, .inl (G.2.2.1, 81, .inl (fun k => iV ((uI s3 (gNb wI hI (p3 iq) (2 * (Nat.cast jq : Int))).toNat 1) k)))), (vp, .inl (G.2.1, 81, .inl (fun k => iV (p3 k)))), (h0, .inr (0, [.int (iV wI), .int (iV hI), .ref ha])), (ha, .inl (G.2.1, 81, .inl (fun k => iV (gI k))))] := hD
                      refine lv_aload_n hx hb dX2_walkPiece_94 rfl (lv_at hl 1 rfl) ?_
                      refine va_get (D := G.1) (ci := 2) (v := .ref vp) (C := RX2) (T := TX2) (N := 2) hx hb hts inX2 hown hK hP 0 rfl rfl 1 (by decide) (hts _ wd_194) (fun _ h9 => h9) rfl dX2_walkPiece_95 ?_
                      refine lv_iload hx hb dX2_walkPiece_98 (lv_at hl 5 rfl) ?_
                      refine lv_iload hx hb dX2_walkPiece_100 (lv_at hl 0 rfl) ?_
                      refine z_iast (G := G) (f := p3) hx hb hK hP hD hS 2 rfl (by omega) (by omega) (by decide) dX2_walkPiece_102 (fun H locs hP hD hS => ?_)
                      have hP : va_P G.1 vwCl [(v0, .inr (2, [.ref vs, .ref vp])), (vs, .inl (G.2.2.1, 81, .inl (fun k => iV ((uI s3 (gNb wI hI (p3 iq) (2 * (Nat.cast jq : Int))).toNat 1) k)))), (vp, .inl (G.2.1, 81, .inl (fun k => iV ((uI p3 f3.toNat (gNb wI hI (p3 iq) (2 * (Nat.cast jq : Int)))) k)))), (h0, .inr (0, [.int (iV wI), .int (iV hI), .ref ha])), (ha, .inl (G.2.1, 81, .inl (fun k => iV (gI k))))] H := hP
                      have hD : va_D _ [(v0, .inr (2, [.ref vs, .ref vp])), (vs, .inl (G.2.2.1, 81, .inl (fun k => iV ((uI s3 (gNb wI hI (p3 iq) (2 * (Nat.cast jq : Int))).toNat 1) k)))), (vp, .inl (G.2.1, 81, .inl (fun k => iV ((uI p3 f3.toNat (gNb wI hI (p3 iq) (2 * (Nat.cast jq : Int)))) k)))), (h0, .inr (0, [.int (iV wI), .int (iV hI), .ref ha])), (ha, .inl (G.2.1, 81, .inl (fun k => iV (gI k))))] := hD
                      refine z_iinc (lv' := [(4, .int (iV (f3 + 1))), (7, .int (iV (gNb wI hI (p3 iq) (2 * (Nat.cast jq : Int))))), (0, .ref v0), (1, .ref h0), (2, .int (iV cI)), (3, .int (iV v)), (5, .int (iV (Nat.cast iq : Int))), (6, .int (iV (2 * (Nat.cast jq : Int))))]) hx hb dX2_walkPiece_103 hl (k := 5) rfl (by decide) rfl (fun ls hl => ?_)
                      refine z_iinc (lv' := [(6, .int (iV ((2 * (Nat.cast jq : Int)) + 2))), (4, .int (iV (f3 + 1))), (7, .int (iV (gNb wI hI (p3 iq) (2 * (Nat.cast jq : Int))))), (0, .ref v0), (1, .ref h0), (2, .int (iV cI)), (3, .int (iV v)), (5, .int (iV (Nat.cast iq : Int)))]) hx hb dX2_walkPiece_106 hl (k := 7) rfl (by decide) rfl (fun ls hl => ?_)
                      refine lv_goto (tgt := 37) hx hb dX2_walkPiece_109 (by decide) ?_
                      exact ih_37 (jq + 1) (f3 + 1) (uI s3 (gNb wI hI (p3 iq) (2 * (Nat.cast jq : Int))).toNat 1) (uI p3 f3.toNat (gNb wI hI (p3 iq) (2 * (Nat.cast jq : Int)))) (by first | assumption | omega) (by first | assumption | exact wOK_u hw3 (by omega) ⟨(by assumption : gUp wI hI gI v (gNb wI hI (p3 iq) (2 * (Nat.cast jq : Int)))).1.1, by omega⟩) (by rw [hp2, wI4_s (by omega)]; first | (rw [wD_t rfl (by assumption) (by assumption) (by omega)] <;> rfl) | (rw [wD_f rfl (fun q => by first | exact absurd q.1 (by assumption) | exact absurd q.2.1 (by assumption) | exact absurd q.2.2 (by omega))])) (by omega) _ _ hP hD hS _ (lv_cons (lv_at hl 3 rfl) (lv_cons (lv_at hl 4 rfl) (lv_cons (lv_at hl 5 rfl) (lv_cons (lv_at hl 6 rfl) (lv_cons (lv_at hl 1 rfl) (lv_cons (lv_at hl 7 rfl) (lv_cons (lv_i hl 0 rfl (by omega)) (lv_nil hl))))))))
          exact lp_37 _ 0 f2 s2 p2 (by first | assumption | omega) (hw2) (rfl) (Nat.lt_succ_self _) _ _ hP hD hS _ (lv_cons (lv_at hl 1 rfl) (lv_cons (lv_at hl 2 rfl) (lv_cons (lv_at hl 3 rfl) (lv_cons (lv_at hl 4 rfl) (lv_cons (lv_at hl 5 rfl) (lv_cons (lv_at hl 6 rfl) (lv_cons (lv_i hl 0 rfl (by omega)) (lv_nil hl))))))))
  exact lp_20 _ 0 1 (uI sF cI.toNat 1) (uI pF 0 cI) (by first | assumption | omega) (wOK_0 hsF hpF hc) (rfl) (Nat.lt_succ_self _) _ _ hP hD hS _ (lv_cons (lv_at hl 2 rfl) (lv_cons (lv_at hl 3 rfl) (lv_cons (lv_at hl 4 rfl) (lv_cons (lv_at hl 5 rfl) (lv_cons (lv_at hl 1 rfl) (lv_cons (lv_i hl 0 rfl (by omega)) (lv_nil hl)))))))

set_option maxHeartbeats 4000000 in
set_option maxRecDepth 100000 in
theorem c_X2_hills (l : Launch) (G : zG) (sz : Nat) (v0 : Nat) (vs : Nat) (vp : Nat) (sF : Nat → Int) (pF : Nat → Int) (h0 : Nat) (ha : Nat) (wI : Int) (hI : Int) (gI : Nat → Int) (v : Int) (hsF : ∀ k : Nat, 0 ≤ sF k ∧ sF k ≤ 1) (hpF : ∀ k : Nat, 0 ≤ pF k ∧ pF k < 81) (hG : gOK wI hI gI) (hv_ : 1 ≤ v ∧ v ≤ 9) : Met l yX2_hills (Cond.code yX2_hills cX2_hills 5 (some .int) :: zT) (zRm 4 92) (zPw G [.ref v0, .ref h0, .int (iV v)] [(v0, .inr (2, [.ref vs, .ref vp])), (vs, .inl (G.2.2.1, 81, .inl (fun k => iV (sF k)))), (vp, .inl (G.2.1, 81, .inl (fun k => iV (pF k)))), (h0, .inr (0, [.int (iV wI), .int (iV hI), .ref ha])), (ha, .inl (G.2.1, 81, .inl (fun k => iV (gI k))))] sz) (zQw G ((wH wI hI gI v 81 0 (0, zFill 81 0 sF, pF)).1) [(v0, .inr (2, [.ref vs, .ref vp])), (vs, .inl (G.2.2.1, 81, .inl (fun k => iV (sF k)))), (vp, .inl (G.2.1, 81, .inl (fun k => iV (pF k)))), (h0, .inr (0, [.int (iV wI), .int (iV hI), .ref ha])), (ha, .inl (G.2.1, 81, .inl (fun k => iV (gI k))))] [(v0, .inr (2, [.ref vs, .ref vp])), (vs, .inl (G.2.2.1, 81, .inl (fun k => iV ((wH wI hI gI v 81 0 (0, zFill 81 0 sF, pF)).2.1 k)))), (vp, .inl (G.2.1, 81, .inl (fun k => iV ((wH wI hI gI v 81 0 (0, zFill 81 0 sF, pF)).2.2 k)))), (h0, .inr (0, [.int (iV wI), .int (iV hI), .ref ha])), (ha, .inl (G.2.1, 81, .inl (fun k => iV (gI k))))] sz) 0 0 (va_A [(v0, .inr (2, [.ref vs, .ref vp])), (vs, .inl (G.2.2.1, 81, .inl (fun k => iV (sF k)))), (vp, .inl (G.2.1, 81, .inl (fun k => iV (pF k)))), (h0, .inr (0, [.int (iV wI), .int (iV hI), .ref ha])), (ha, .inl (G.2.1, 81, .inl (fun k => iV (gI k))))] sz) := by
  refine Met.ofW (cc := cX2_hills) (maxL := 5) (ret := (some .int)) (by decide) rfl ?_
  intro p e s m args below meth c s₁ B hml hv
  obtain ⟨rfl, hsz, hP, hK, hSt, hD0⟩ := hv
  have hx := B.exec
  have hb := B.bytes
  have hr := B.returns
  have hts : ∀ w ∈ zT, w.before _ s = true := fun w h => atoms_spec (ws := (Cond.code yX2_hills cX2_hills 5 (some .int) :: zT)) B.pre w (List.mem_cons_of_mem _ h)
  have hown : s.vm.findClass RX2 = some m.cls := findClass_of_methodNamed B.named
  have hlocks := B.notSynchronized
  subst hsz
  have hD : va_D (va_A [(v0, .inr (2, [.ref vs, .ref vp])), (vs, .inl (G.2.2.1, 81, .inl (fun k => iV (sF k)))), (vp, .inl (G.2.1, 81, .inl (fun k => iV (pF k)))), (h0, .inr (0, [.int (iV wI), .int (iV hI), .ref ha])), (ha, .inl (G.2.1, 81, .inl (fun k => iV (gI k))))] s.heap.size) [(v0, .inr (2, [.ref vs, .ref vp])), (vs, .inl (G.2.2.1, 81, .inl (fun k => iV (sF k)))), (vp, .inl (G.2.1, 81, .inl (fun k => iV (pF k)))), (h0, .inr (0, [.int (iV wI), .int (iV hI), .ref ha])), (ha, .inl (G.2.1, 81, .inl (fun k => iV (gI k))))] := hD0.self
  have hA : ∀ q : Nat, s.heap.size ≤ q → va_A [(v0, .inr (2, [.ref vs, .ref vp])), (vs, .inl (G.2.2.1, 81, .inl (fun k => iV (sF k)))), (vp, .inl (G.2.1, 81, .inl (fun k => iV (pF k)))), (h0, .inr (0, [.int (iV wI), .int (iV hI), .ref ha])), (ha, .inl (G.2.1, 81, .inl (fun k => iV (gI k))))] s.heap.size q := fun q h => Or.inr h
  have hS : va_S (va_A [(v0, .inr (2, [.ref vs, .ref vp])), (vs, .inl (G.2.2.1, 81, .inl (fun k => iV (sF k)))), (vp, .inl (G.2.1, 81, .inl (fun k => iV (pF k)))), (h0, .inr (0, [.int (iV wI), .int (iV hI), .ref ha])), (ha, .inl (G.2.1, 81, .inl (fun k => iV (gI k))))] s.heap.size) s.heap s.heap [] := va_S.rf
  have hP : va_P G.1 vwCl [(v0, .inr (2, [.ref vs, .ref vp])), (vs, .inl (G.2.2.1, 81, .inl (fun k => iV (sF k)))), (vp, .inl (G.2.1, 81, .inl (fun k => iV (pF k)))), (h0, .inr (0, [.int (iV wI), .int (iV hI), .ref ha])), (ha, .inl (G.2.1, 81, .inl (fun k => iV (gI k))))] s.heap := hP
  have X := And.intro hx (And.intro hb (And.intro hml (And.intro hown (And.intro hts (And.intro hK (And.intro hSt hA))))))
  have hl := lv_entry ([.ref v0, .ref h0, .int (iV v)]) (n := 5) (Nat.le_of_ble_eq_true rfl)
  rw [lg_entry_eq]
  generalize (lg_sl ([.ref v0, .ref h0, .int (iV v)]) ++ List.replicate (5 - (lg_sl ([.ref v0, .ref h0, .int (iV v)])).length) Slot.unset).toArray = ls at hl ⊢
  have hl : lv_has ls 5 [(0, .ref v0), (1, .ref h0), (2, .int (iV v))] := hl
  obtain ⟨hW0, hW9, hH0, hH9, hg⟩ := id hG
  refine lv_iconst (v := iV 0) hx hb dX2_hills_0 (by decide) ?_
  refine lv_istore_n (lv' := [(3, .int (iV 0)), (0, .ref v0), (1, .ref h0), (2, .int (iV v))]) hx hb dX2_hills_1 rfl hl (by decide) rfl (fun ls hl => ?_)
  have lp_2 : ∀ (k : Nat) (nq : Nat) , (nq ≤ 81) → (81 - nq) < k → ∀ (H : Heap) (locs : List Loc), va_P G.1 vwCl [(v0, .inr (2, [.ref vs, .ref vp])), (vs, .inl (G.2.2.1, 81, .inl (fun k => iV (zFill nq 0 sF k)))), (vp, .inl (G.2.1, 81, .inl (fun k => iV (pF k)))), (h0, .inr (0, [.int (iV wI), .int (iV hI), .ref ha])), (ha, .inl (G.2.1, 81, .inl (fun k => iV (gI k))))] H → va_D (va_A [(v0, .inr (2, [.ref vs, .ref vp])), (vs, .inl (G.2.2.1, 81, .inl (fun k => iV (sF k)))), (vp, .inl (G.2.1, 81, .inl (fun k => iV (pF k)))), (h0, .inr (0, [.int (iV wI), .int (iV hI), .ref ha])), (ha, .inl (G.2.1, 81, .inl (fun k => iV (gI k))))] s.heap.size) [(v0, .inr (2, [.ref vs, .ref vp])), (vs, .inl (G.2.2.1, 81, .inl (fun k => iV (zFill nq 0 sF k)))), (vp, .inl (G.2.1, 81, .inl (fun k => iV (pF k)))), (h0, .inr (0, [.int (iV wI), .int (iV hI), .ref ha])), (ha, .inl (G.2.1, 81, .inl (fun k => iV (gI k))))] → va_S (va_A [(v0, .inr (2, [.ref vs, .ref vp])), (vs, .inl (G.2.2.1, 81, .inl (fun k => iV (sF k)))), (vp, .inl (G.2.1, 81, .inl (fun k => iV (pF k)))), (h0, .inr (0, [.int (iV wI), .int (iV hI), .ref ha])), (ha, .inl (G.2.1, 81, .inl (fun k => iV (gI k))))] s.heap.size) s.heap H locs → ∀ ls : Array Slot, lv_has ls 5 [(0, .ref v0), (1, .ref h0), (2, .int (iV v)), (3, .int (iV (Nat.cast nq : Int)))] → W p l e (headSpec (Cond.code yX2_hills cX2_hills 5 (some .int) :: zT) (zRm 4 92)).room s m ([Value.ref v0, Value.ref h0, Value.int (iV v)] : List Value).toArray below meth c H locs 0 0 (MQ below (zQw G ((wH wI hI gI v 81 0 (0, zFill 81 0 sF, pF)).1) [(v0, .inr (2, [.ref vs, .ref vp])), (vs, .inl (G.2.2.1, 81, .inl (fun k => iV (sF k)))), (vp, .inl (G.2.1, 81, .inl (fun k => iV (pF k)))), (h0, .inr (0, [.int (iV wI), .int (iV hI), .ref ha])), (ha, .inl (G.2.1, 81, .inl (fun k => iV (gI k))))] [(v0, .inr (2, [.ref vs, .ref vp])), (vs, .inl (G.2.2.1, 81, .inl (fun k => iV ((wH wI hI gI v 81 0 (0, zFill 81 0 sF, pF)).2.1 k)))), (vp, .inl (G.2.1, 81, .inl (fun k => iV ((wH wI hI gI v 81 0 (0, zFill 81 0 sF, pF)).2.2 k)))), (h0, .inr (0, [.int (iV wI), .int (iV hI), .ref ha])), (ha, .inl (G.2.1, 81, .inl (fun k => iV (gI k))))] s.heap.size) ([Value.ref v0, Value.ref h0, Value.int (iV v)] : List Value).toArray s 0 0 (va_A [(v0, .inr (2, [.ref vs, .ref vp])), (vs, .inl (G.2.2.1, 81, .inl (fun k => iV (sF k)))), (vp, .inl (G.2.1, 81, .inl (fun k => iV (pF k)))), (h0, .inr (0, [.int (iV wI), .int (iV hI), .ref ha])), (ha, .inl (G.2.1, 81, .inl (fun k => iV (gI k))))] s.heap.size)) (F0 m 2 ls []) := by
    intro k
    induction k with
    | zero => intro nq hn hk_; exact absurd hk_ (Nat.not_lt_zero _)
    | succ k ih_2 =>
      intro nq hn hk_2 H locs hP hD hS ls hl
      refine lv_iload_n hx hb dX2_hills_2 rfl (lv_at hl 3 rfl) ?_
      refine lv_bipush (v := iV 81) hx hb dX2_hills_3 (by decide) ?_
      refine z_icmp_ge (tgt := 21) hx hb (by omega) ⟨by decide, by decide⟩ dX2_hills_5 (by decide) (fun c_1 => ?_) (fun c_1 => ?_)
      · refine lv_iconst (v := iV 0) hx hb dX2_hills_21 (by decide) ?_
        refine lv_istore_n (lv' := [(3, .int (iV 0)), (0, .ref v0), (1, .ref h0), (2, .int (iV v))]) hx hb dX2_hills_22 rfl hl (by decide) rfl (fun ls hl => ?_)
        refine lv_iconst (v := iV 0) hx hb dX2_hills_23 (by decide) ?_
        refine lv_istore (lv' := [(4, .int (iV 0)), (3, .int (iV 0)), (0, .ref v0), (1, .ref h0), (2, .int (iV v))]) hx hb dX2_hills_24 hl (by decide) rfl (fun ls hl => ?_)
        have lp_26 : ∀ (k : Nat) (mq : Nat) (f2 : Int) (s2 : Nat → Int) (p2 : Nat → Int) , (mq ≤ 81) → (∀ k : Nat, 0 ≤ s2 k ∧ s2 k ≤ 1) → (∀ k : Nat, 0 ≤ p2 k ∧ p2 k < 81) → ((wH wI hI gI v 81 0 (0, zFill 81 0 sF, pF)) = wH wI hI gI v (81 - mq) mq (f2, s2, p2)) → (81 - mq) < k → ∀ (H : Heap) (locs : List Loc), va_P G.1 vwCl [(v0, .inr (2, [.ref vs, .ref vp])), (vs, .inl (G.2.2.1, 81, .inl (fun k => iV (s2 k)))), (vp, .inl (G.2.1, 81, .inl (fun k => iV (p2 k)))), (h0, .inr (0, [.int (iV wI), .int (iV hI), .ref ha])), (ha, .inl (G.2.1, 81, .inl (fun k => iV (gI k))))] H → va_D (va_A [(v0, .inr (2, [.ref vs, .ref vp])), (vs, .inl (G.2.2.1, 81, .inl (fun k => iV (sF k)))), (vp, .inl (G.2.1, 81, .inl (fun k => iV (pF k)))), (h0, .inr (0, [.int (iV wI), .int (iV hI), .ref ha])), (ha, .inl (G.2.1, 81, .inl (fun k => iV (gI k))))] s.heap.size) [(v0, .inr (2, [.ref vs, .ref vp])), (vs, .inl (G.2.2.1, 81, .inl (fun k => iV (s2 k)))), (vp, .inl (G.2.1, 81, .inl (fun k => iV (p2 k)))), (h0, .inr (0, [.int (iV wI), .int (iV hI), .ref ha])), (ha, .inl (G.2.1, 81, .inl (fun k => iV (gI k))))] → va_S (va_A [(v0, .inr (2, [.ref vs, .ref vp])), (vs, .inl (G.2.2.1, 81, .inl (fun k => iV (sF k)))), (vp, .inl (G.2.1, 81, .inl (fun k => iV (pF k)))), (h0, .inr (0, [.int (iV wI), .int (iV hI), .ref ha])), (ha, .inl (G.2.1, 81, .inl (fun k => iV (gI k))))] s.heap.size) s.heap H locs → ∀ ls : Array Slot, lv_has ls 5 [(0, .ref v0), (1, .ref h0), (2, .int (iV v)), (3, .int (iV f2)), (4, .int (iV (Nat.cast mq : Int)))] → W p l e (headSpec (Cond.code yX2_hills cX2_hills 5 (some .int) :: zT) (zRm 4 92)).room s m ([Value.ref v0, Value.ref h0, Value.int (iV v)] : List Value).toArray below meth c H locs 0 0 (MQ below (zQw G ((wH wI hI gI v 81 0 (0, zFill 81 0 sF, pF)).1) [(v0, .inr (2, [.ref vs, .ref vp])), (vs, .inl (G.2.2.1, 81, .inl (fun k => iV (sF k)))), (vp, .inl (G.2.1, 81, .inl (fun k => iV (pF k)))), (h0, .inr (0, [.int (iV wI), .int (iV hI), .ref ha])), (ha, .inl (G.2.1, 81, .inl (fun k => iV (gI k))))] [(v0, .inr (2, [.ref vs, .ref vp])), (vs, .inl (G.2.2.1, 81, .inl (fun k => iV ((wH wI hI gI v 81 0 (0, zFill 81 0 sF, pF)).2.1 k)))), (vp, .inl (G.2.1, 81, .inl (fun k => iV ((wH wI hI gI v 81 0 (0, zFill 81 0 sF, pF)).2.2 k)))), (h0, .inr (0, [.int (iV wI), .int (iV hI), .ref ha])), (ha, .inl (G.2.1, 81, .inl (fun k => iV (gI k))))] s.heap.size) ([Value.ref v0, Value.ref h0, Value.int (iV v)] : List Value).toArray s 0 0 (va_A [(v0, .inr (2, [.ref vs, .ref vp])), (vs, .inl (G.2.2.1, 81, .inl (fun k => iV (sF k)))), (vp, .inl (G.2.1, 81, .inl (fun k => iV (pF k)))), (h0, .inr (0, [.int (iV wI), .int (iV hI), .ref ha])), (ha, .inl (G.2.1, 81, .inl (fun k => iV (gI k))))] s.heap.size)) (F0 m 26 ls []) := by
          intro k
          induction k with
          | zero => intro mq f2 s2 p2 hm hs2 hp2 hp hk_; exact absurd hk_ (Nat.not_lt_zero _)
          | succ k ih_26 =>
            intro mq f2 s2 p2 hm hs2 hp2 hp hk_26 H locs hP hD hS ls hl
            refine lv_iload hx hb dX2_hills_26 (lv_at hl 4 rfl) ?_
            refine lv_bipush (v := iV 81) hx hb dX2_hills_28 (by decide) ?_
            refine z_icmp_ge (tgt := 70) hx hb (by omega) ⟨by decide, by decide⟩ dX2_hills_30 (by decide) (fun c_2 => ?_) (fun c_2 => ?_)
            · refine lv_iload_n hx hb dX2_hills_70 rfl (lv_at hl 3 rfl) ?_
              refine z_eq (z := (wH wI hI gI v 81 0 (0, zFill 81 0 sF, pF)).1) (by have h8 : mq = 81 := (by omega); subst h8; rw [hp]; rfl) ?_
              have hP : va_P G.1 vwCl [(v0, .inr (2, [.ref vs, .ref vp])), (vs, .inl (G.2.2.1, 81, .inl (fun k => iV ((wH wI hI gI v 81 0 (0, zFill 81 0 sF, pF)).2.1 k)))), (vp, .inl (G.2.1, 81, .inl (fun k => iV ((wH wI hI gI v 81 0 (0, zFill 81 0 sF, pF)).2.2 k)))), (h0, .inr (0, [.int (iV wI), .int (iV hI), .ref ha])), (ha, .inl (G.2.1, 81, .inl (fun k => iV (gI k))))] _ := z_castP (by have h8 : mq = 81 := (by omega); subst h8; rw [hp]; rfl) hP
              exact z_retw hx hb hr hlocks hP hS dX2_hills_71
            · refine lv_aload_n hx hb dX2_hills_33 rfl (lv_at hl 1 rfl) ?_
              refine lv_iload hx hb dX2_hills_34 (lv_at hl 4 rfl) ?_
              refine lv_iload_n hx hb dX2_hills_36 rfl (lv_at hl 2 rfl) ?_
              refine z_callS X hP hS hl.1 (c_X2_isUp l G _ h0 ha wI hI gI (Nat.cast mq : Int) v (by first | assumption | omega) (by first | assumption | omega) (by first | assumption | omega)) wd_645 kX2_isUp ⟨rfl, rfl, Nat.le_of_ble_eq_true rfl, Nat.le_of_ble_eq_true rfl⟩ [3, 4] rfl rfl rfl (Nat.le_of_ble_eq_true rfl) dX2_hills_37 ⟨Nat.zero_le _, Nat.zero_le _⟩ (fun H locs hP hS => ?_)
              refine z_ifb_eq (tgt := 64) hx hb dX2_hills_40 (by decide) (fun c_3 => ?_) (fun c_3 => ?_)
              · refine z_iinc (lv' := [(4, .int (iV ((Nat.cast mq : Int) + 1))), (0, .ref v0), (1, .ref h0), (2, .int (iV v)), (3, .int (iV f2))]) hx hb dX2_hills_64 hl (k := 4) rfl (by decide) rfl (fun ls hl => ?_)
                refine lv_goto (tgt := 26) hx hb dX2_hills_67 (by decide) ?_
                exact ih_26 (mq + 1) f2 s2 p2 (by first | assumption | omega) (by first | assumption | exact (wPiece_ok hG hs2 hp2 (by omega)).2.2.1) (by first | assumption | exact (wPiece_ok hG hs2 hp2 (by omega)).2.2.2) (by first | (rw [hp, wH_t (by omega) (by assumption) (by first | assumption | (rw [cst0] at *; assumption))]) | (rw [hp, wH_f (by omega) (fun q => by first | exact absurd q.1 (by assumption) | (rw [cst0] at *; exact absurd q.2 (by assumption)))])) (by omega) _ _ hP hD hS _ (lv_cons (lv_at hl 1 rfl) (lv_cons (lv_at hl 2 rfl) (lv_cons (lv_at hl 3 rfl) (lv_cons (lv_at hl 4 rfl) (lv_cons (lv_i hl 0 rfl (by omega)) (lv_nil hl))))))
              · refine lv_aload_n hx hb dX2_hills_43 rfl (lv_at hl 0 rfl) ?_
                refine va_get (D := G.1) (ci := 2) (v := .ref vs) (C := RX2) (T := TX2) (N := 2) hx hb hts inX2 hown hK hP 0 rfl rfl 0 (by decide) (hts _ wd_193) (fun _ h9 => h9) rfl dX2_hills_44 ?_
                refine lv_iload hx hb dX2_hills_47 (lv_at hl 4 rfl) ?_
                refine z_zald (G := G) (f := s2) hx hb hK hP 1 rfl (by omega) (by omega) (by decide) dX2_hills_49 ?_
                have f_4 := hs2 (Nat.cast mq : Int).toNat
                refine z_if_ne (tgt := 64) hx hb (by omega) dX2_hills_50 (by decide) (fun c_5 => ?_) (fun c_5 => ?_)
                · refine z_iinc (lv' := [(4, .int (iV ((Nat.cast mq : Int) + 1))), (0, .ref v0), (1, .ref h0), (2, .int (iV v)), (3, .int (iV f2))]) hx hb dX2_hills_64 hl (k := 4) rfl (by decide) rfl (fun ls hl => ?_)
                  refine lv_goto (tgt := 26) hx hb dX2_hills_67 (by decide) ?_
                  exact ih_26 (mq + 1) f2 s2 p2 (by first | assumption | omega) (by first | assumption | exact (wPiece_ok hG hs2 hp2 (by omega)).2.2.1) (by first | assumption | exact (wPiece_ok hG hs2 hp2 (by omega)).2.2.2) (by first | (rw [hp, wH_t (by omega) (by assumption) (by first | assumption | (rw [cst0] at *; assumption))]) | (rw [hp, wH_f (by omega) (fun q => by first | exact absurd q.1 (by assumption) | (rw [cst0] at *; exact absurd q.2 (by assumption)))])) (by omega) _ _ hP hD hS _ (lv_cons (lv_at hl 1 rfl) (lv_cons (lv_at hl 2 rfl) (lv_cons (lv_at hl 3 rfl) (lv_cons (lv_at hl 4 rfl) (lv_cons (lv_i hl 0 rfl (by omega)) (lv_nil hl))))))
                · refine lv_aload_n hx hb dX2_hills_53 rfl (lv_at hl 0 rfl) ?_
                  refine lv_aload_n hx hb dX2_hills_54 rfl (lv_at hl 1 rfl) ?_
                  refine lv_iload hx hb dX2_hills_55 (lv_at hl 4 rfl) ?_
                  refine lv_iload_n hx hb dX2_hills_57 rfl (lv_at hl 2 rfl) ?_
                  refine z_callVwv (w2 := [(v0, .inr (2, [.ref vs, .ref vp])), (vs, .inl (G.2.2.1, 81, .inl (fun k => iV ((wPiece wI hI gI v (Nat.cast mq : Int) s2 p2).2.1 k)))), (vp, .inl (G.2.1, 81, .inl (fun k => iV ((wPiece wI hI gI v (Nat.cast mq : Int) s2 p2).2.2 k)))), (h0, .inr (0, [.int (iV wI), .int (iV hI), .ref ha])), (ha, .inl (G.2.1, 81, .inl (fun k => iV (gI k))))]) X hP hD hS hl.1 (c_X2_walkPiece l G _ v0 vs vp s2 p2 h0 ha wI hI gI (Nat.cast mq : Int) v (by assumption) (by assumption) (by first | assumption | omega) (by first | assumption | omega) (by first | assumption | omega)) wd_650 kX2_walkPiece ⟨rfl, rfl, Nat.le_of_ble_eq_true rfl, Nat.le_of_ble_eq_true rfl⟩ [0, 1, 2, 3, 4] [] rfl rfl rfl ⟨rfl, rfl⟩ rfl (by decide) 0 rfl rfl rfl rfl (Nat.le_of_ble_eq_true rfl) dX2_hills_58 ⟨Nat.zero_le _, Nat.zero_le _⟩ (fun H locs hP hD hS => ?_)
                  refine z_iinc (lv' := [(3, .int (iV (f2 + 1))), (0, .ref v0), (1, .ref h0), (2, .int (iV v)), (4, .int (iV (Nat.cast mq : Int)))]) hx hb dX2_hills_61 hl (k := 3) rfl (by decide) rfl (fun ls hl => ?_)
                  refine z_iinc (lv' := [(4, .int (iV ((Nat.cast mq : Int) + 1))), (3, .int (iV (f2 + 1))), (0, .ref v0), (1, .ref h0), (2, .int (iV v))]) hx hb dX2_hills_64 hl (k := 4) rfl (by decide) rfl (fun ls hl => ?_)
                  refine lv_goto (tgt := 26) hx hb dX2_hills_67 (by decide) ?_
                  have hP : va_P G.1 vwCl [(v0, .inr (2, [.ref vs, .ref vp])), (vs, .inl (G.2.2.1, 81, .inl (fun k => iV (((wPiece wI hI gI v (Nat.cast mq : Int) s2 p2).2.1) k)))), (vp, .inl (G.2.1, 81, .inl (fun k => iV (((wPiece wI hI gI v (Nat.cast mq : Int) s2 p2).2.2) k)))), (h0, .inr (0, [.int (iV wI), .int (iV hI), .ref ha])), (ha, .inl (G.2.1, 81, .inl (fun k => iV (gI k))))] _ := z_castP (by rfl) hP
                  have hD : va_D _ [(v0, .inr (2, [.ref vs, .ref vp])), (vs, .inl (G.2.2.1, 81, .inl (fun k => iV (((wPiece wI hI gI v (Nat.cast mq : Int) s2 p2).2.1) k)))), (vp, .inl (G.2.1, 81, .inl (fun k => iV (((wPiece wI hI gI v (Nat.cast mq : Int) s2 p2).2.2) k)))), (h0, .inr (0, [.int (iV wI), .int (iV hI), .ref ha])), (ha, .inl (G.2.1, 81, .inl (fun k => iV (gI k))))] := z_castD (by rfl) hD
                  exact ih_26 (mq + 1) (f2 + 1) ((wPiece wI hI gI v (Nat.cast mq : Int) s2 p2).2.1) ((wPiece wI hI gI v (Nat.cast mq : Int) s2 p2).2.2) (by first | assumption | omega) (by first | assumption | exact (wPiece_ok hG hs2 hp2 (by omega)).2.2.1) (by first | assumption | exact (wPiece_ok hG hs2 hp2 (by omega)).2.2.2) (by first | (rw [hp, wH_t (by omega) (by assumption) (by first | assumption | (rw [cst0] at *; assumption))]) | (rw [hp, wH_f (by omega) (fun q => by first | exact absurd q.1 (by assumption) | (rw [cst0] at *; exact absurd q.2 (by assumption)))])) (by omega) _ _ hP hD hS _ (lv_cons (lv_at hl 2 rfl) (lv_cons (lv_at hl 3 rfl) (lv_cons (lv_at hl 4 rfl) (lv_cons (lv_at hl 1 rfl) (lv_cons (lv_i hl 0 rfl (by omega)) (lv_nil hl))))))
        have hP : va_P G.1 vwCl [(v0, .inr (2, [.ref vs, .ref vp])), (vs, .inl (G.2.2.1, 81, .inl (fun k => iV ((zFill 81 0 sF) k)))), (vp, .inl (G.2.1, 81, .inl (fun k => iV (pF k)))), (h0, .inr (0, [.int (iV wI), .int (iV hI), .ref ha])), (ha, .inl (G.2.1, 81, .inl (fun k => iV (gI k))))] _ := z_castP (by have h8 : nq = 81 := (by omega); subst h8; rfl) hP
        have hD : va_D _ [(v0, .inr (2, [.ref vs, .ref vp])), (vs, .inl (G.2.2.1, 81, .inl (fun k => iV ((zFill 81 0 sF) k)))), (vp, .inl (G.2.1, 81, .inl (fun k => iV (pF k)))), (h0, .inr (0, [.int (iV wI), .int (iV hI), .ref ha])), (ha, .inl (G.2.1, 81, .inl (fun k => iV (gI k))))] := z_castD (by have h8 : nq = 81 := (by omega); subst h8; rfl) hD
        exact lp_26 _ 0 0 (zFill 81 0 sF) pF (by first | assumption | omega) (fun k => by unfold zFill; split; omega; exact hsF k) (hpF) (rfl) (Nat.lt_succ_self _) _ _ hP hD hS _ (lv_cons (lv_at hl 2 rfl) (lv_cons (lv_at hl 3 rfl) (lv_cons (lv_at hl 4 rfl) (lv_cons (lv_at hl 1 rfl) (lv_cons (lv_i hl 0 rfl (by omega)) (lv_nil hl))))))
      · refine lv_aload_n hx hb dX2_hills_8 rfl (lv_at hl 0 rfl) ?_
        refine va_get (D := G.1) (ci := 2) (v := .ref vs) (C := RX2) (T := TX2) (N := 2) hx hb hts inX2 hown hK hP 0 rfl rfl 0 (by decide) (hts _ wd_193) (fun _ h9 => h9) rfl dX2_hills_9 ?_
        refine lv_iload_n hx hb dX2_hills_12 rfl (lv_at hl 3 rfl) ?_
        refine lv_iconst (v := iV 0) hx hb dX2_hills_13 (by decide) ?_
        refine z_zast (G := G) (f := zFill nq 0 sF) hx hb hK hP hD hS 1 rfl (by omega) (by omega) (by decide) (by omega) dX2_hills_14 (fun H locs hP hD hS => ?_)
        have hP : va_P G.1 vwCl [(v0, .inr (2, [.ref vs, .ref vp])), (vs, .inl (G.2.2.1, 81, .inl (fun k => iV ((uI (zFill nq 0 sF) (Nat.cast nq : Int).toNat 0) k)))), (vp, .inl (G.2.1, 81, .inl (fun k => iV (pF k)))), (h0, .inr (0, [.int (iV wI), .int (iV hI), .ref ha])), (ha, .inl (G.2.1, 81, .inl (fun k => iV (gI k))))] H := hP
        have hD : va_D _ [(v0, .inr (2, [.ref vs, .ref vp])), (vs, .inl (G.2.2.1, 81, .inl (fun k => iV ((uI (zFill nq 0 sF) (Nat.cast nq : Int).toNat 0) k)))), (vp, .inl (G.2.1, 81, .inl (fun k => iV (pF k)))), (h0, .inr (0, [.int (iV wI), .int (iV hI), .ref ha])), (ha, .inl (G.2.1, 81, .inl (fun k => iV (gI k))))] := hD
        refine z_iinc (lv' := [(3, .int (iV ((Nat.cast nq : Int) + 1))), (0, .ref v0), (1, .ref h0), (2, .int (iV v))]) hx hb dX2_hills_15 hl (k := 3) rfl (by decide) rfl (fun ls hl => ?_)
        refine lv_goto (tgt := 2) hx hb dX2_hills_18 (by decide) ?_
        have hP : va_P G.1 vwCl [(v0, .inr (2, [.ref vs, .ref vp])), (vs, .inl (G.2.2.1, 81, .inl (fun k => iV (zFill (nq + 1) 0 sF k)))), (vp, .inl (G.2.1, 81, .inl (fun k => iV (pF k)))), (h0, .inr (0, [.int (iV wI), .int (iV hI), .ref ha])), (ha, .inl (G.2.1, 81, .inl (fun k => iV (gI k))))] _ := z_castP (by rw [cst0, zFill_s]) hP
        have hD : va_D _ [(v0, .inr (2, [.ref vs, .ref vp])), (vs, .inl (G.2.2.1, 81, .inl (fun k => iV (zFill (nq + 1) 0 sF k)))), (vp, .inl (G.2.1, 81, .inl (fun k => iV (pF k)))), (h0, .inr (0, [.int (iV wI), .int (iV hI), .ref ha])), (ha, .inl (G.2.1, 81, .inl (fun k => iV (gI k))))] := z_castD (by rw [cst0, zFill_s]) hD
        exact ih_2 (nq + 1) (by first | assumption | omega) (by omega) _ _ hP hD hS _ (lv_cons (lv_at hl 1 rfl) (lv_cons (lv_at hl 2 rfl) (lv_cons (lv_at hl 3 rfl) (lv_cons (lv_i hl 0 rfl (by omega)) (lv_nil hl)))))
  have hP : va_P G.1 vwCl [(v0, .inr (2, [.ref vs, .ref vp])), (vs, .inl (G.2.2.1, 81, .inl (fun k => iV (zFill 0 0 sF k)))), (vp, .inl (G.2.1, 81, .inl (fun k => iV (pF k)))), (h0, .inr (0, [.int (iV wI), .int (iV hI), .ref ha])), (ha, .inl (G.2.1, 81, .inl (fun k => iV (gI k))))] _ := z_castP (by rw [zFill_0]) hP
  have hD : va_D _ [(v0, .inr (2, [.ref vs, .ref vp])), (vs, .inl (G.2.2.1, 81, .inl (fun k => iV (zFill 0 0 sF k)))), (vp, .inl (G.2.1, 81, .inl (fun k => iV (pF k)))), (h0, .inr (0, [.int (iV wI), .int (iV hI), .ref ha])), (ha, .inl (G.2.1, 81, .inl (fun k => iV (gI k))))] := z_castD (by rw [zFill_0]) hD
  exact lp_2 _ 0 (by first | assumption | omega) (Nat.lt_succ_self _) _ _ hP hD hS _ (lv_cons (lv_at hl 1 rfl) (lv_cons (lv_at hl 2 rfl) (lv_cons (lv_at hl 3 rfl) (lv_cons (lv_i hl 0 rfl (by omega)) (lv_nil hl)))))
