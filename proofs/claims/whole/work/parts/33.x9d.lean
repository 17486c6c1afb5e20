theorem kX9_isOff : zM RX9 yX9_isOff cX9_isOff 8 (some .boolean) 3 := ⟨wd_1027, ws_48, wd_14, wd_1028, rfl, by decide +kernel⟩
theorem kX9_whyNot : zM RX9 yX9_whyNot cX9_whyNot 4 (some .int) 2 := ⟨wd_1023, ws_47, wd_14, wd_1024, rfl, by decide +kernel⟩
theorem kX9_why : zM RX9 yX9_why cX9_why 3 (some .int) 2 := ⟨wd_1018, wd_1019, wd_14, wd_1020, rfl, by decide +kernel⟩
theorem kX9_draws : zM RX9 yX9_draws cX9_draws 11 none 2 := ⟨wd_1035, ws_49, wd_14, wd_1036, rfl, by decide +kernel⟩
theorem kX9_draw : zM RX9 yX9_draw cX9_draw 3 (some .int) 2 := ⟨wd_1030, wd_1031, wd_14, wd_1032, rfl, by decide +kernel⟩
theorem kX9_isStroke : zM RX9 yX9_isStroke cX9_isStroke 2 (some .boolean) 1 := ⟨wd_1043, ws_50, wd_14, wd_1044, rfl, by decide +kernel⟩
theorem kX9_rub : zM RX9 yX9_rub cX9_rub 2 (some .int) 1 := ⟨wd_1038, wd_1039, wd_14, wd_1040, rfl, by decide +kernel⟩
theorem kX9_hatch : zM RX9 yX9_hatch cX9_hatch 6 (some .int) 0 := ⟨wd_1046, wd_1047, wd_14, wd_1048, rfl, by decide +kernel⟩
theorem kX9_stroke : zM RX9 yX9_stroke cX9_stroke 5 (some .int) 2 := ⟨wd_1050, wd_1051, wd_14, wd_1052, rfl, by decide +kernel⟩
theorem kX9_whose : zM RX9 yX9_whose cX9_whose 5 (some .int) 2 := ⟨wd_1054, wd_1055, wd_14, wd_1056, rfl, by decide +kernel⟩
theorem kX9_sumOf : zM RX9 yX9_sumOf cX9_sumOf 6 (some .int) 1 := ⟨wd_1063, ws_51, wd_14, wd_1064, rfl, by decide +kernel⟩
theorem kX9_count : zM RX9 yX9_count cX9_count 4 (some .int) 1 := ⟨wd_1058, wd_1059, wd_14, wd_1060, rfl, by decide +kernel⟩
theorem kX9_cell : zM RX9 yX9_cell cX9_cell 4 (some .int) 3 := ⟨wd_888, wd_889, wd_14, wd_890, rfl, by decide +kernel⟩
set_option maxHeartbeats 4000000 in
set_option maxRecDepth 100000 in
theorem c_X9_isOff (l : Launch) (G : zG) (sz : Nat) (mA : Nat → Nat) (mLen : Int) (mSpot : Int) (mUn : Int) (mRr : Int) (mPit : Int) (mFar : Int) (mTm : Int) (nw : Nat → Int) (xI : Int) (yI : Int) (stI : Int) (hM : mOK nw) (hxy : (0 ≤ xI ∧ xI < 9) ∧ 0 ≤ yI ∧ yI < 9) (hst : 0 ≤ stI ∧ stI ≤ 20) : Met l yX9_isOff (Cond.code yX9_isOff cX9_isOff 8 (some .boolean) :: zT) (zRm 1 20) (zPr G [.ref (mA 0), .int (iV xI), .int (iV yI), .int (iV stI)] [(mA 0, .inr (9, [.int (iV mLen), .ref (mA 1), .int (iV mSpot), .ref (mA 2), .ref (mA 3), .ref (mA 4), .int (iV mUn), .int (iV mRr), .int (iV mPit), .int (iV mFar), .ref (mA 5), .ref (mA 6), .ref (mA 7), .ref (mA 8), .int (iV mTm), .ref (mA 9), .ref (mA 10), .ref (mA 11)])), (mA 2, .inl (G.2.1, 249, .inl (fun k => iV (nw k))))] sz) (zQr (bP (sOff stI (nL nw) (nCe nw) (9 * yI + xI))) sz) 0 0 (zF sz) := by
  refine Met.ofW (cc := cX9_isOff) (maxL := 8) (ret := (some .boolean)) (by decide) rfl ?_
  intro p e s m args below meth c s₁ B hml hv
  obtain ⟨rfl, hsz, hP, hK, hSt⟩ := hv
  have hx := B.exec
  have hb := B.bytes
  have hr := B.returns
  have hts : ∀ w ∈ zT, w.before _ s = true := fun w h => atoms_spec (ws := (Cond.code yX9_isOff cX9_isOff 8 (some .boolean) :: zT)) B.pre w (List.mem_cons_of_mem _ h)
  have hown : s.vm.findClass RX9 = some m.cls := findClass_of_methodNamed B.named
  have hlocks := B.notSynchronized
  subst hsz
  have hA : ∀ q : Nat, s.heap.size ≤ q → zF s.heap.size q := fun _ h => h
  have hS : va_S (zF s.heap.size) s.heap s.heap [] := va_S.rf
  have hP : va_P G.1 vwCl [(mA 0, .inr (9, [.int (iV mLen), .ref (mA 1), .int (iV mSpot), .ref (mA 2), .ref (mA 3), .ref (mA 4), .int (iV mUn), .int (iV mRr), .int (iV mPit), .int (iV mFar), .ref (mA 5), .ref (mA 6), .ref (mA 7), .ref (mA 8), .int (iV mTm), .ref (mA 9), .ref (mA 10), .ref (mA 11)])), (mA 2, .inl (G.2.1, 249, .inl (fun k => iV (nw k))))] s.heap := hP
  have X := And.intro hx (And.intro hb (And.intro hml (And.intro hown (And.intro hts (And.intro hK (And.intro hSt hA))))))
  have hl := lv_entry ([.ref (mA 0), .int (iV xI), .int (iV yI), .int (iV stI)]) (n := 8) (Nat.le_of_ble_eq_true rfl)
  rw [lg_entry_eq]
  generalize (lg_sl ([.ref (mA 0), .int (iV xI), .int (iV yI), .int (iV stI)]) ++ List.replicate (8 - (lg_sl ([.ref (mA 0), .int (iV xI), .int (iV yI), .int (iV stI)])).length) Slot.unset).toArray = ls at hl ⊢
  have hl : lv_has ls 8 [(0, .ref (mA 0)), (1, .int (iV xI)), (2, .int (iV yI)), (3, .int (iV stI))] := hl
  obtain ⟨hG, hWH3, hn88, hnL, hnQ, hn6, hn80⟩ := id hM
  obtain ⟨hW0, hW9, hH0, hH9, hg⟩ := id hG
  refine lv_iconst (v := iV 1) hx hb dX9_isOff_0 (by decide) ?_
  refine lv_istore (lv' := [(4, .int (iV 1)), (0, .ref (mA 0)), (1, .int (iV xI)), (2, .int (iV yI)), (3, .int (iV stI))]) hx hb dX9_isOff_1 hl (by decide) rfl (fun ls hl => ?_)
  refine lv_iconst (v := iV 0) hx hb dX9_isOff_3 (by decide) ?_
  refine lv_istore (lv' := [(5, .int (iV 0)), (4, .int (iV 1)), (0, .ref (mA 0)), (1, .int (iV xI)), (2, .int (iV yI)), (3, .int (iV stI))]) hx hb dX9_isOff_4 hl (by decide) rfl (fun ls hl => ?_)
  have lp_6 : ∀ (k : Nat) (tq : Nat) , ((Nat.cast tq : Int) ≤ stI) → (20 - tq) < k → ∀ (H : Heap) (locs : List Loc), va_P G.1 vwCl [(mA 0, .inr (9, [.int (iV mLen), .ref (mA 1), .int (iV mSpot), .ref (mA 2), .ref (mA 3), .ref (mA 4), .int (iV mUn), .int (iV mRr), .int (iV mPit), .int (iV mFar), .ref (mA 5), .ref (mA 6), .ref (mA 7), .ref (mA 8), .int (iV mTm), .ref (mA 9), .ref (mA 10), .ref (mA 11)])), (mA 2, .inl (G.2.1, 249, .inl (fun k => iV (nw k))))] H → va_S (zF s.heap.size) s.heap H locs → ∀ ls : Array Slot, lv_has ls 8 [(0, .ref (mA 0)), (1, .int (iV xI)), (2, .int (iV yI)), (3, .int (iV stI)), (4, .int (iV (bP (mOf nw (9 * yI + xI) tq)))), (5, .int (iV (Nat.cast tq : Int)))] → W p l e (headSpec (Cond.code yX9_isOff cX9_isOff 8 (some .boolean) :: zT) (zRm 1 20)).room s m ([Value.ref (mA 0), Value.int (iV xI), Value.int (iV yI), Value.int (iV stI)] : List Value).toArray below meth c H locs 0 0 (MQ below (zQr (bP (sOff stI (nL nw) (nCe nw) (9 * yI + xI))) s.heap.size) ([Value.ref (mA 0), Value.int (iV xI), Value.int (iV yI), Value.int (iV stI)] : List Value).toArray s 0 0 (zF s.heap.size)) (F0 m 6 ls []) := by
    intro k
    induction k with
    | zero => intro tq ht hk_; exact absurd hk_ (Nat.not_lt_zero _)
    | succ k ih_6 =>
      intro tq ht hk_6 H locs hP hS ls hl
      have hvL := hnL tq
      refine lv_iload hx hb dX9_isOff_6 (lv_at hl 5 rfl) ?_
      refine lv_iload_n hx hb dX9_isOff_8 rfl (lv_at hl 3 rfl) ?_
      refine z_icmp_ge (tgt := 106) hx hb (by omega) (by omega) dX9_isOff_9 (by decide) (fun c_1 => ?_) (fun c_1 => ?_)
      · refine lv_iload hx hb dX9_isOff_106 (lv_at hl 4 rfl) ?_
        refine z_eq (z := bP (sOff stI (nL nw) (nCe nw) (9 * yI + xI))) (by exact mOf_e (by omega)) ?_
        exact z_retb hx hb hr hlocks hS dX9_isOff_108
      · refine lv_iconst (v := iV 0) hx hb dX9_isOff_12 (by decide) ?_
        refine lv_istore (lv' := [(6, .int (iV 0)), (0, .ref (mA 0)), (1, .int (iV xI)), (2, .int (iV yI)), (3, .int (iV stI)), (4, .int (iV (bP (mOf nw (9 * yI + xI) tq)))), (5, .int (iV (Nat.cast tq : Int)))]) hx hb dX9_isOff_13 hl (by decide) rfl (fun ls hl => ?_)
        have lp_15 : ∀ (k : Nat) (jq : Nat) , ((Nat.cast jq : Int) ≤ nL nw tq) → (6 - jq) < k → ∀ (H : Heap) (locs : List Loc), va_P G.1 vwCl [(mA 0, .inr (9, [.int (iV mLen), .ref (mA 1), .int (iV mSpot), .ref (mA 2), .ref (mA 3), .ref (mA 4), .int (iV mUn), .int (iV mRr), .int (iV mPit), .int (iV mFar), .ref (mA 5), .ref (mA 6), .ref (mA 7), .ref (mA 8), .int (iV mTm), .ref (mA 9), .ref (mA 10), .ref (mA 11)])), (mA 2, .inl (G.2.1, 249, .inl (fun k => iV (nw k))))] H → va_S (zF s.heap.size) s.heap H locs → ∀ ls : Array Slot, lv_has ls 8 [(0, .ref (mA 0)), (1, .int (iV xI)), (2, .int (iV yI)), (3, .int (iV stI)), (4, .int (iV (bP (mOf nw (9 * yI + xI) tq ∧ ¬ mNr nw tq (9 * yI + xI) jq)))), (5, .int (iV (Nat.cast tq : Int))), (6, .int (iV (Nat.cast jq : Int)))] → W p l e (headSpec (Cond.code yX9_isOff cX9_isOff 8 (some .boolean) :: zT) (zRm 1 20)).room s m ([Value.ref (mA 0), Value.int (iV xI), Value.int (iV yI), Value.int (iV stI)] : List Value).toArray below meth c H locs 0 0 (MQ below (zQr (bP (sOff stI (nL nw) (nCe nw) (9 * yI + xI))) s.heap.size) ([Value.ref (mA 0), Value.int (iV xI), Value.int (iV yI), Value.int (iV stI)] : List Value).toArray s 0 0 (zF s.heap.size)) (F0 m 15 ls []) := by
          intro k
          induction k with
          | zero => intro jq hj hk_; exact absurd hk_ (Nat.not_lt_zero _)
          | succ k ih_15 =>
            intro jq hj hk_15 H locs hP hS ls hl
            refine lv_iload hx hb dX9_isOff_15 (lv_at hl 6 rfl) ?_
            refine lv_aload_n hx hb dX9_isOff_17 rfl (lv_at hl 0 rfl) ?_
            refine va_get (D := G.1) (ci := 9) (v := .ref (mA 2)) (C := RX9) (T := TX9) (N := 18) hx hb hts inX9 hown hK hP 0 rfl rfl 3 (by decide) (hts _ wd_761) (fun _ h9 => h9) rfl dX9_isOff_18 ?_
            refine lv_bipush (v := iV 89) hx hb dX9_isOff_21 (by decide) ?_
            refine lv_bipush (v := iV 8) hx hb dX9_isOff_23 (by decide) ?_
            refine lv_iload hx hb dX9_isOff_25 (lv_at hl 5 rfl) ?_
            refine z_imul hx hb dX9_isOff_27 ?_
            refine z_iadd hx hb dX9_isOff_28 ?_
            refine lv_bipush (v := iV 6) hx hb dX9_isOff_29 (by decide) ?_
            refine z_iadd hx hb dX9_isOff_31 ?_
            refine z_iald (G := G) (f := nw) hx hb hK hP 1 rfl (by omega) (by omega) (by decide) dX9_isOff_32 ?_
            refine z_eq (z := (nL nw tq)) (by exact nL_at (by omega)) ?_
            refine z_icmp_ge (tgt := 100) hx hb (by omega) (by omega) dX9_isOff_33 (by decide) (fun c_2 => ?_) (fun c_2 => ?_)
            · refine z_iinc (lv' := [(5, .int (iV ((Nat.cast tq : Int) + 1))), (0, .ref (mA 0)), (1, .int (iV xI)), (2, .int (iV yI)), (3, .int (iV stI)), (4, .int (iV (bP (mOf nw (9 * yI + xI) tq ∧ ¬ mNr nw tq (9 * yI + xI) jq)))), (6, .int (iV (Nat.cast jq : Int)))]) hx hb dX9_isOff_100 hl (k := 5) rfl (by decide) rfl (fun ls hl => ?_)
              refine lv_goto (tgt := 6) hx hb dX9_isOff_103 (by decide) ?_
              exact ih_6 (tq + 1) (by first | assumption | omega) (by omega) _ _ hP hS _ (lv_cons (lv_at hl 1 rfl) (lv_cons (lv_at hl 2 rfl) (lv_cons (lv_at hl 3 rfl) (lv_cons (lv_at hl 4 rfl) (lv_cons (lv_i hl 5 rfl (by first | rfl | omega | exact mOf_0 | exact mOf_s (by omega))) (lv_cons (lv_i hl 0 rfl (by first | rfl | omega | exact mOf_0 | exact mOf_s (by omega))) (lv_nil hl)))))))
            · refine lv_aload_n hx hb dX9_isOff_36 rfl (lv_at hl 0 rfl) ?_
              refine va_get (D := G.1) (ci := 9) (v := .ref (mA 2)) (C := RX9) (T := TX9) (N := 18) hx hb hts inX9 hown hK hP 0 rfl rfl 3 (by decide) (hts _ wd_761) (fun _ h9 => h9) rfl dX9_isOff_37 ?_
              refine lv_bipush (v := iV 89) hx hb dX9_isOff_40 (by decide) ?_
              refine lv_bipush (v := iV 8) hx hb dX9_isOff_42 (by decide) ?_
              refine lv_iload hx hb dX9_isOff_44 (lv_at hl 5 rfl) ?_
              refine z_imul hx hb dX9_isOff_46 ?_
              refine z_iadd hx hb dX9_isOff_47 ?_
              refine lv_iload hx hb dX9_isOff_48 (lv_at hl 6 rfl) ?_
              refine z_iadd hx hb dX9_isOff_50 ?_
              refine z_iald (G := G) (f := nw) hx hb hK hP 1 rfl (by omega) (by omega) (by decide) dX9_isOff_51 ?_
              refine z_eq (z := (nCe nw tq jq)) (by exact nT_at) ?_
              have hnt : 0 ≤ nCe nw tq jq ∧ nCe nw tq jq ≤ 80 := hn80 (89 + 8 * tq + jq) (by omega)
              refine lv_istore (lv' := [(7, .int (iV (nCe nw tq jq))), (0, .ref (mA 0)), (1, .int (iV xI)), (2, .int (iV yI)), (3, .int (iV stI)), (4, .int (iV (bP (mOf nw (9 * yI + xI) tq ∧ ¬ mNr nw tq (9 * yI + xI) jq)))), (5, .int (iV (Nat.cast tq : Int))), (6, .int (iV (Nat.cast jq : Int)))]) hx hb dX9_isOff_52 hl (by decide) rfl (fun ls hl => ?_)
              refine lv_iload hx hb dX9_isOff_54 (lv_at hl 5 rfl) ?_
              have jn_92 : ∀ (H : Heap) (locs : List Loc), va_P G.1 vwCl [(mA 0, .inr (9, [.int (iV mLen), .ref (mA 1), .int (iV mSpot), .ref (mA 2), .ref (mA 3), .ref (mA 4), .int (iV mUn), .int (iV mRr), .int (iV mPit), .int (iV mFar), .ref (mA 5), .ref (mA 6), .ref (mA 7), .ref (mA 8), .int (iV mTm), .ref (mA 9), .ref (mA 10), .ref (mA 11)])), (mA 2, .inl (G.2.1, 249, .inl (fun k => iV (nw k))))] H → va_S (zF s.heap.size) s.heap H locs → ∀ ls : Array Slot, lv_has ls 8 [(0, .ref (mA 0)), (1, .int (iV xI)), (2, .int (iV yI)), (3, .int (iV stI)), (4, .int (iV (bP (mOf nw (9 * yI + xI) tq ∧ ¬ mNr nw tq (9 * yI + xI) jq)))), (5, .int (iV (Nat.cast tq : Int))), (6, .int (iV (Nat.cast jq : Int)))] → W p l e (headSpec (Cond.code yX9_isOff cX9_isOff 8 (some .boolean) :: zT) (zRm 1 20)).room s m ([Value.ref (mA 0), Value.int (iV xI), Value.int (iV yI), Value.int (iV stI)] : List Value).toArray below meth c H locs 0 0 (MQ below (zQr (bP (sOff stI (nL nw) (nCe nw) (9 * yI + xI))) s.heap.size) ([Value.ref (mA 0), Value.int (iV xI), Value.int (iV yI), Value.int (iV stI)] : List Value).toArray s 0 0 (zF s.heap.size)) (F0 m 92 ls [.int (iV (bP (mOf nw (9 * yI + xI) tq ∧ ¬ mNr nw tq (9 * yI + xI) (jq + 1))))]) := by
                intro  H locs hP hS ls hl
                refine lv_istore (lv' := [(4, .int (iV (bP (mOf nw (9 * yI + xI) tq ∧ ¬ mNr nw tq (9 * yI + xI) (jq + 1))))), (0, .ref (mA 0)), (1, .int (iV xI)), (2, .int (iV yI)), (3, .int (iV stI)), (5, .int (iV (Nat.cast tq : Int))), (6, .int (iV (Nat.cast jq : Int)))]) hx hb dX9_isOff_92 hl (by decide) rfl (fun ls hl => ?_)
                refine z_iinc (lv' := [(6, .int (iV ((Nat.cast jq : Int) + 1))), (4, .int (iV (bP (mOf nw (9 * yI + xI) tq ∧ ¬ mNr nw tq (9 * yI + xI) (jq + 1))))), (0, .ref (mA 0)), (1, .int (iV xI)), (2, .int (iV yI)), (3, .int (iV stI)), (5, .int (iV (Nat.cast tq : Int)))]) hx hb dX9_isOff_94 hl (k := 6) rfl (by decide) rfl (fun ls hl => ?_)
                refine lv_goto (tgt := 15) hx hb dX9_isOff_97 (by decide) ?_
                exact ih_15 (jq + 1) (by first | assumption | omega) (by omega) _ _ hP hS _ (lv_cons (lv_at hl 2 rfl) (lv_cons (lv_at hl 3 rfl) (lv_cons (lv_at hl 4 rfl) (lv_cons (lv_at hl 5 rfl) (lv_cons (lv_at hl 1 rfl) (lv_cons (lv_at hl 6 rfl) (lv_cons (lv_i hl 0 rfl (by first | rfl | omega | exact mOf_i)) (lv_nil hl))))))))
              refine z_ifb_eq (tgt := 91) hx hb dX9_isOff_56 (by decide) (fun c_3 => ?_) (fun c_3 => ?_)
              · refine lv_iconst (v := iV 0) hx hb dX9_isOff_91 (by decide) ?_
                refine z_eq (z := bP (mOf nw (9 * yI + xI) tq ∧ ¬ mNr nw tq (9 * yI + xI) (jq + 1))) (by first | exact (bP_t ⟨his.1, mNr_c his.2 (fun q => by have q2 := (sBy_xy (by omega)).mp q; omega)⟩).symm | exact (bP_f (fun q => absurd (And.intro q.1 (fun r => q.2 (mNr_a r))) (by assumption))).symm | exact (bP_f (fun q => q.2 (mNr_b ((sBy_xy (by omega)).mpr ⟨by omega, by omega⟩)))).symm) ?_
                exact jn_92  _ _ hP hS _ (lv_cons (lv_at hl 1 rfl) (lv_cons (lv_at hl 2 rfl) (lv_cons (lv_at hl 3 rfl) (lv_cons (lv_at hl 4 rfl) (lv_cons (lv_at hl 5 rfl) (lv_cons (lv_at hl 6 rfl) (lv_cons (lv_at hl 7 rfl) (lv_nil hl))))))))
              · have his : mOf nw (9 * yI + xI) tq ∧ ¬ mNr nw tq (9 * yI + xI) jq := by assumption
                refine lv_iload hx hb dX9_isOff_59 (lv_at hl 0 rfl) ?_
                refine lv_bipush (v := iV 9) hx hb dX9_isOff_61 (by decide) ?_
                refine z_irem hx hb (by omega) (by omega) dX9_isOff_63 ?_
                refine lv_iload_n hx hb dX9_isOff_64 rfl (lv_at hl 2 rfl) ?_
                refine z_isub hx hb dX9_isOff_65 ?_
                refine z_callS X hP hS hl.1 (c_X9_abs l G _ (((nCe nw tq jq) % 9) - xI) (by first | assumption | omega)) wd_880 kX9_abs ⟨rfl, rfl, Nat.le_of_ble_eq_true rfl, Nat.le_of_ble_eq_true rfl⟩ [] rfl rfl rfl (Nat.le_of_ble_eq_true rfl) dX9_isOff_66 ⟨Nat.zero_le _, Nat.zero_le _⟩ (fun H locs hP hS => ?_)
                have f_4 := zabs_r (((nCe nw tq jq) % 9) - xI)
                refine lv_iconst (v := iV 1) hx hb dX9_isOff_69 (by decide) ?_
                refine z_icmp_gt (tgt := 87) hx hb (by omega) ⟨by decide, by decide⟩ dX9_isOff_70 (by decide) (fun c_5 => ?_) (fun c_5 => ?_)
                · refine lv_iconst (v := iV 1) hx hb dX9_isOff_87 (by decide) ?_
                  refine lv_goto (tgt := 92) hx hb dX9_isOff_88 (by decide) ?_
                  refine z_eq (z := bP (mOf nw (9 * yI + xI) tq ∧ ¬ mNr nw tq (9 * yI + xI) (jq + 1))) (by first | exact (bP_t ⟨his.1, mNr_c his.2 (fun q => by have q2 := (sBy_xy (by omega)).mp q; omega)⟩).symm | exact (bP_f (fun q => absurd (And.intro q.1 (fun r => q.2 (mNr_a r))) (by assumption))).symm | exact (bP_f (fun q => q.2 (mNr_b ((sBy_xy (by omega)).mpr ⟨by omega, by omega⟩)))).symm) ?_
                  exact jn_92  _ _ hP hS _ (lv_cons (lv_at hl 1 rfl) (lv_cons (lv_at hl 2 rfl) (lv_cons (lv_at hl 3 rfl) (lv_cons (lv_at hl 4 rfl) (lv_cons (lv_at hl 5 rfl) (lv_cons (lv_at hl 6 rfl) (lv_cons (lv_at hl 7 rfl) (lv_nil hl))))))))
                · refine lv_iload hx hb dX9_isOff_73 (lv_at hl 0 rfl) ?_
                  refine lv_bipush (v := iV 9) hx hb dX9_isOff_75 (by decide) ?_
                  refine z_idiv hx hb (by omega) (by omega) dX9_isOff_77 ?_
                  refine lv_iload_n hx hb dX9_isOff_78 rfl (lv_at hl 3 rfl) ?_
                  refine z_isub hx hb dX9_isOff_79 ?_
                  refine z_callS X hP hS hl.1 (c_X9_abs l G _ (((nCe nw tq jq) / 9) - yI) (by first | assumption | omega)) wd_880 kX9_abs ⟨rfl, rfl, Nat.le_of_ble_eq_true rfl, Nat.le_of_ble_eq_true rfl⟩ [] rfl rfl rfl (Nat.le_of_ble_eq_true rfl) dX9_isOff_80 ⟨Nat.zero_le _, Nat.zero_le _⟩ (fun H locs hP hS => ?_)
                  have f_6 := zabs_r (((nCe nw tq jq) / 9) - yI)
                  refine lv_iconst (v := iV 1) hx hb dX9_isOff_83 (by decide) ?_
                  refine z_icmp_le (tgt := 91) hx hb (by omega) ⟨by decide, by decide⟩ dX9_isOff_84 (by decide) (fun c_7 => ?_) (fun c_7 => ?_)
                  · refine lv_iconst (v := iV 0) hx hb dX9_isOff_91 (by decide) ?_
                    refine z_eq (z := bP (mOf nw (9 * yI + xI) tq ∧ ¬ mNr nw tq (9 * yI + xI) (jq + 1))) (by first | exact (bP_t ⟨his.1, mNr_c his.2 (fun q => by have q2 := (sBy_xy (by omega)).mp q; omega)⟩).symm | exact (bP_f (fun q => absurd (And.intro q.1 (fun r => q.2 (mNr_a r))) (by assumption))).symm | exact (bP_f (fun q => q.2 (mNr_b ((sBy_xy (by omega)).mpr ⟨by omega, by omega⟩)))).symm) ?_
                    exact jn_92  _ _ hP hS _ (lv_cons (lv_at hl 1 rfl) (lv_cons (lv_at hl 2 rfl) (lv_cons (lv_at hl 3 rfl) (lv_cons (lv_at hl 4 rfl) (lv_cons (lv_at hl 5 rfl) (lv_cons (lv_at hl 6 rfl) (lv_cons (lv_at hl 7 rfl) (lv_nil hl))))))))
                  · refine lv_iconst (v := iV 1) hx hb dX9_isOff_87 (by decide) ?_
                    refine lv_goto (tgt := 92) hx hb dX9_isOff_88 (by decide) ?_
                    refine z_eq (z := bP (mOf nw (9 * yI + xI) tq ∧ ¬ mNr nw tq (9 * yI + xI) (jq + 1))) (by first | exact (bP_t ⟨his.1, mNr_c his.2 (fun q => by have q2 := (sBy_xy (by omega)).mp q; omega)⟩).symm | exact (bP_f (fun q => absurd (And.intro q.1 (fun r => q.2 (mNr_a r))) (by assumption))).symm | exact (bP_f (fun q => q.2 (mNr_b ((sBy_xy (by omega)).mpr ⟨by omega, by omega⟩)))).symm) ?_
                    exact jn_92  _ _ hP hS _ (lv_cons (lv_at hl 1 rfl) (lv_cons (lv_at hl 2 rfl) (lv_cons (lv_at hl 3 rfl) (lv_cons (lv_at hl 4 rfl) (lv_cons (lv_at hl 5 rfl) (lv_cons (lv_at hl 6 rfl) (lv_cons (lv_at hl 7 rfl) (lv_nil hl))))))))
        exact lp_15 _ 0 (by first | assumption | omega) (Nat.lt_succ_self _) _ _ hP hS _ (lv_cons (lv_at hl 1 rfl) (lv_cons (lv_at hl 2 rfl) (lv_cons (lv_at hl 3 rfl) (lv_cons (lv_at hl 4 rfl) (lv_cons (lv_i hl 5 rfl (by first | rfl | omega | exact mOf_i)) (lv_cons (lv_at hl 6 rfl) (lv_cons (lv_i hl 0 rfl (by first | rfl | omega | exact mOf_i)) (lv_nil hl))))))))
  exact lp_6 _ 0 (by first | assumption | omega) (Nat.lt_succ_self _) _ _ hP hS _ (lv_cons (lv_at hl 2 rfl) (lv_cons (lv_at hl 3 rfl) (lv_cons (lv_at hl 4 rfl) (lv_cons (lv_at hl 5 rfl) (lv_cons (lv_i hl 1 rfl (by first | rfl | omega | exact mOf_0 | exact mOf_s (by omega))) (lv_cons (lv_i hl 0 rfl (by first | rfl | omega | exact mOf_0 | exact mOf_s (by omega))) (lv_nil hl)))))))

set_option maxHeartbeats 4000000 in
set_option maxRecDepth 100000 in
theorem c_X9_whyNot (l : Launch) (G : zG) (sz : Nat) (mA : Nat → Nat) (mLen : Int) (mSpot : Int) (mUn : Int) (mRr : Int) (mPit : Int) (mFar : Int) (mTm : Int) (nw : Nat → Int) (xI : Int) (yI : Int) (hM : mOK nw) (hcel : hXY (nw 0) (nw 1) xI yI) : Met l yX9_whyNot (Cond.code yX9_whyNot cX9_whyNot 4 (some .int) :: zT) (zRm 4 96) (zPr G [.ref (mA 0), .int (iV xI), .int (iV yI)] [(mA 0, .inr (9, [.int (iV mLen), .ref (mA 1), .int (iV mSpot), .ref (mA 2), .ref (mA 3), .ref (mA 4), .int (iV mUn), .int (iV mRr), .int (iV mPit), .int (iV mFar), .ref (mA 5), .ref (mA 6), .ref (mA 7), .ref (mA 8), .int (iV mTm), .ref (mA 9), .ref (mA 10), .ref (mA 11)])), (mA 2, .inl (G.2.1, 249, .inl (fun k => iV (nw k))))] sz) (zQr (mWhy nw (9 * yI + xI)) sz) 0 0 (zF sz) := by
  refine Met.ofW (cc := cX9_whyNot) (maxL := 4) (ret := (some .int)) (by decide) rfl ?_
  intro p e s m args below meth c s₁ B hml hv
  obtain ⟨rfl, hsz, hP, hK, hSt⟩ := hv
  have hx := B.exec
  have hb := B.bytes
  have hr := B.returns
  have hts : ∀ w ∈ zT, w.before _ s = true := fun w h => atoms_spec (ws := (Cond.code yX9_whyNot cX9_whyNot 4 (some .int) :: zT)) B.pre w (List.mem_cons_of_mem _ h)
  have hown : s.vm.findClass RX9 = some m.cls := findClass_of_methodNamed B.named
  have hlocks := B.notSynchronized
  subst hsz
  have hA : ∀ q : Nat, s.heap.size ≤ q → zF s.heap.size q := fun _ h => h
  have hS : va_S (zF s.heap.size) s.heap s.heap [] := va_S.rf
  have hP : va_P G.1 vwCl [(mA 0, .inr (9, [.int (iV mLen), .ref (mA 1), .int (iV mSpot), .ref (mA 2), .ref (mA 3), .ref (mA 4), .int (iV mUn), .int (iV mRr), .int (iV mPit), .int (iV mFar), .ref (mA 5), .ref (mA 6), .ref (mA 7), .ref (mA 8), .int (iV mTm), .ref (mA 9), .ref (mA 10), .ref (mA 11)])), (mA 2, .inl (G.2.1, 249, .inl (fun k => iV (nw k))))] s.heap := hP
  have X := And.intro hx (And.intro hb (And.intro hml (And.intro hown (And.intro hts (And.intro hK (And.intro hSt hA))))))
  have hl := lv_entry ([.ref (mA 0), .int (iV xI), .int (iV yI)]) (n := 4) (Nat.le_of_ble_eq_true rfl)
  rw [lg_entry_eq]
  generalize (lg_sl ([.ref (mA 0), .int (iV xI), .int (iV yI)]) ++ List.replicate (4 - (lg_sl ([.ref (mA 0), .int (iV xI), .int (iV yI)])).length) Slot.unset).toArray = ls at hl ⊢
  have hl : lv_has ls 4 [(0, .ref (mA 0)), (1, .int (iV xI)), (2, .int (iV yI))] := hl
  obtain ⟨hG, hWH3, hn88, hnL, hnQ, hn6, hn80⟩ := id hM
  obtain ⟨hW0, hW9, hH0, hH9, hg⟩ := id hG
  refine lv_aload_n hx hb dX9_whyNot_0 rfl (lv_at hl 0 rfl) ?_
  refine lv_iload_n hx hb dX9_whyNot_1 rfl (lv_at hl 1 rfl) ?_
  refine lv_iload_n hx hb dX9_whyNot_2 rfl (lv_at hl 2 rfl) ?_
  refine z_callV X hP hS hl.1 (c_X9_down l G _ mA mLen mSpot mUn mRr mPit mFar mTm nw xI yI (by first | assumption | omega) (by first | assumption | omega)) wd_917 kX9_down ⟨rfl, rfl, Nat.le_of_ble_eq_true rfl, Nat.le_of_ble_eq_true rfl⟩ [0, 1] rfl 0 rfl rfl rfl rfl (Nat.le_of_ble_eq_true rfl) dX9_whyNot_3 ⟨Nat.zero_le _, Nat.zero_le _⟩ (fun H locs hP hS => ?_)
  have f_1 := gDown_r (id hM).1 xI yI
  have f_2 := cNone_r (gDown_r (id hM).1 xI yI)
  refine lv_istore_n (lv' := [(3, .int (iV (cNone (gDown (nw 0) (nw 1) (nG nw) xI yI)))), (0, .ref (mA 0)), (1, .int (iV xI)), (2, .int (iV yI))]) hx hb dX9_whyNot_6 rfl hl (by decide) rfl (fun ls hl => ?_)
  refine lv_iload_n hx hb dX9_whyNot_7 rfl (lv_at hl 0 rfl) ?_
  refine lv_bipush (v := iV (-4)) hx hb dX9_whyNot_8 (by decide) ?_
  refine z_icmp_ne (tgt := 15) hx hb (by omega) ⟨by decide, by decide⟩ dX9_whyNot_10 (by decide) (fun c_3 => ?_) (fun c_3 => ?_)
  · have hgd : ¬ (gDown (nw 0) (nw 1) (nG nw) xI yI) = -1 := by omega
    have hlo := gDown_lo hgd
    refine lv_aload_n hx hb dX9_whyNot_15 rfl (lv_at hl 1 rfl) ?_
    refine lv_iload_n hx hb dX9_whyNot_16 rfl (lv_at hl 2 rfl) ?_
    refine lv_iload_n hx hb dX9_whyNot_17 rfl (lv_at hl 3 rfl) ?_
    refine lv_iconst (v := iV (-1)) hx hb dX9_whyNot_18 (by decide) ?_
    refine z_callV X hP hS hl.1 (c_X9_isCrest l G _ mA mLen mSpot mUn mRr mPit mFar mTm nw xI yI (-1) (by first | assumption | omega) (by first | assumption | omega) (by first | assumption | omega)) wd_921 kX9_isCrest ⟨rfl, rfl, Nat.le_of_ble_eq_true rfl, Nat.le_of_ble_eq_true rfl⟩ [0, 1] rfl 0 rfl rfl rfl rfl (Nat.le_of_ble_eq_true rfl) dX9_whyNot_19 ⟨Nat.zero_le _, Nat.zero_le _⟩ (fun H locs hP hS => ?_)
    refine z_ifb_eq (tgt := 27) hx hb dX9_whyNot_22 (by decide) (fun c_4 => ?_) (fun c_4 => ?_)
    · refine lv_aload_n hx hb dX9_whyNot_27 rfl (lv_at hl 1 rfl) ?_
      refine lv_iload_n hx hb dX9_whyNot_28 rfl (lv_at hl 2 rfl) ?_
      refine lv_iload_n hx hb dX9_whyNot_29 rfl (lv_at hl 3 rfl) ?_
      refine lv_aload_n hx hb dX9_whyNot_30 rfl (lv_at hl 1 rfl) ?_
      refine va_get (D := G.1) (ci := 9) (v := .ref (mA 2)) (C := RX9) (T := TX9) (N := 18) hx hb hts inX9 hown hK hP 0 rfl rfl 3 (by decide) (hts _ wd_761) (fun _ h9 => h9) rfl dX9_whyNot_31 ?_
      refine lv_bipush (v := iV 88) hx hb dX9_whyNot_34 (by decide) ?_
      refine z_iald (G := G) (f := nw) hx hb hK hP 1 rfl (by omega) (by omega) (by decide) dX9_whyNot_36 ?_
      refine z_eq (z := (nw 88)) (by rfl) ?_
      refine z_callV X hP hS hl.1 (c_X9_isOff l G _ mA mLen mSpot mUn mRr mPit mFar mTm nw xI yI (nw 88) (by first | assumption | omega) (by first | assumption | omega) (by first | assumption | omega)) wd_1025 kX9_isOff ⟨rfl, rfl, Nat.le_of_ble_eq_true rfl, Nat.le_of_ble_eq_true rfl⟩ [0, 1] rfl 0 rfl rfl rfl rfl (Nat.le_of_ble_eq_true rfl) dX9_whyNot_37 ⟨Nat.zero_le _, Nat.zero_le _⟩ (fun H locs hP hS => ?_)
      refine z_ifb_ne (tgt := 47) hx hb dX9_whyNot_40 (by decide) (fun c_5 => ?_) (fun c_5 => ?_)
      · refine lv_aload_n hx hb dX9_whyNot_47 rfl (lv_at hl 1 rfl) ?_
        refine lv_iload_n hx hb dX9_whyNot_48 rfl (lv_at hl 2 rfl) ?_
        refine lv_iload_n hx hb dX9_whyNot_49 rfl (lv_at hl 0 rfl) ?_
        refine z_eq (z := (gDown (nw 0) (nw 1) (nG nw) xI yI)) (by omega) ?_
        refine z_callS X hP hS hl.1 (c_X9_right l G _ (gDown (nw 0) (nw 1) (nG nw) xI yI) (by first | assumption | omega)) wd_903 kX9_right ⟨rfl, rfl, Nat.le_of_ble_eq_true rfl, Nat.le_of_ble_eq_true rfl⟩ [] rfl rfl rfl (Nat.le_of_ble_eq_true rfl) dX9_whyNot_50 ⟨Nat.zero_le _, Nat.zero_le _⟩ (fun H locs hP hS => ?_)
        have f_6 := zR_r (gDown (nw 0) (nw 1) (nG nw) xI yI).toNat
        refine z_eq (z := (zR (gDown (nw 0) (nw 1) (nG nw) xI yI).toNat)) (by rfl) ?_
        refine z_iadd hx hb dX9_whyNot_53 ?_
        refine lv_iload_n hx hb dX9_whyNot_54 rfl (lv_at hl 3 rfl) ?_
        refine lv_iload_n hx hb dX9_whyNot_55 rfl (lv_at hl 0 rfl) ?_
        refine z_eq (z := (gDown (nw 0) (nw 1) (nG nw) xI yI)) (by omega) ?_
        refine z_callS X hP hS hl.1 (c_X9_below l G _ (gDown (nw 0) (nw 1) (nG nw) xI yI) (by first | assumption | omega)) wd_906 kX9_below ⟨rfl, rfl, Nat.le_of_ble_eq_true rfl, Nat.le_of_ble_eq_true rfl⟩ [] rfl rfl rfl (Nat.le_of_ble_eq_true rfl) dX9_whyNot_56 ⟨Nat.zero_le _, Nat.zero_le _⟩ (fun H locs hP hS => ?_)
        have f_7 := zB_r (gDown (nw 0) (nw 1) (nG nw) xI yI).toNat
        refine z_eq (z := (zB (gDown (nw 0) (nw 1) (nG nw) xI yI).toNat)) (by rfl) ?_
        refine z_iadd hx hb dX9_whyNot_59 ?_
        refine lv_aload_n hx hb dX9_whyNot_60 rfl (lv_at hl 1 rfl) ?_
        refine va_get (D := G.1) (ci := 9) (v := .ref (mA 2)) (C := RX9) (T := TX9) (N := 18) hx hb hts inX9 hown hK hP 0 rfl rfl 3 (by decide) (hts _ wd_761) (fun _ h9 => h9) rfl dX9_whyNot_61 ?_
        refine lv_bipush (v := iV 88) hx hb dX9_whyNot_64 (by decide) ?_
        refine z_iald (G := G) (f := nw) hx hb hK hP 1 rfl (by omega) (by omega) (by decide) dX9_whyNot_66 ?_
        refine z_eq (z := (nw 88)) (by rfl) ?_
        refine z_callV X hP hS hl.1 (c_X9_isOff l G _ mA mLen mSpot mUn mRr mPit mFar mTm nw (xI + (zR (gDown (nw 0) (nw 1) (nG nw) xI yI).toNat)) (yI + (zB (gDown (nw 0) (nw 1) (nG nw) xI yI).toNat)) (nw 88) (by first | assumption | omega) (by first | assumption | omega) (by first | assumption | omega)) wd_1025 kX9_isOff ⟨rfl, rfl, Nat.le_of_ble_eq_true rfl, Nat.le_of_ble_eq_true rfl⟩ [0, 1] rfl 0 rfl rfl rfl rfl (Nat.le_of_ble_eq_true rfl) dX9_whyNot_67 ⟨Nat.zero_le _, Nat.zero_le _⟩ (fun H locs hP hS => ?_)
        refine z_ifb_ne (tgt := 77) hx hb dX9_whyNot_70 (by decide) (fun c_8 => ?_) (fun c_8 => ?_)
        · refine lv_iconst (v := iV 0) hx hb dX9_whyNot_77 (by decide) ?_
          refine z_eq (z := (mWhy nw (9 * yI + xI))) (by first | exact mWhy_1 (by omega) (by omega) | exact mWhy_2 hG (by omega) hgd (by assumption) | exact mWhy_3 hG (by omega) hgd (by assumption) (by assumption) | exact mWhy_4 hG (by omega) hgd (by assumption) (by assumption) (by assumption) | exact mWhy_0 hG (by omega) hgd (by assumption) (by assumption) (by assumption)) ?_
          exact z_ret hx hb hr hlocks hS dX9_whyNot_78
        · refine lv_iconst (v := iV 4) hx hb dX9_whyNot_73 (by decide) ?_
          refine lv_goto (tgt := 78) hx hb dX9_whyNot_74 (by decide) ?_
          refine z_eq (z := (mWhy nw (9 * yI + xI))) (by first | exact mWhy_1 (by omega) (by omega) | exact mWhy_2 hG (by omega) hgd (by assumption) | exact mWhy_3 hG (by omega) hgd (by assumption) (by assumption) | exact mWhy_4 hG (by omega) hgd (by assumption) (by assumption) (by assumption) | exact mWhy_0 hG (by omega) hgd (by assumption) (by assumption) (by assumption)) ?_
          exact z_ret hx hb hr hlocks hS dX9_whyNot_78
      · refine lv_iconst (v := iV 3) hx hb dX9_whyNot_43 (by decide) ?_
        refine lv_goto (tgt := 78) hx hb dX9_whyNot_44 (by decide) ?_
        refine z_eq (z := (mWhy nw (9 * yI + xI))) (by first | exact mWhy_1 (by omega) (by omega) | exact mWhy_2 hG (by omega) hgd (by assumption) | exact mWhy_3 hG (by omega) hgd (by assumption) (by assumption) | exact mWhy_4 hG (by omega) hgd (by assumption) (by assumption) (by assumption) | exact mWhy_0 hG (by omega) hgd (by assumption) (by assumption) (by assumption)) ?_
        exact z_ret hx hb hr hlocks hS dX9_whyNot_78
    · refine lv_iconst (v := iV 2) hx hb dX9_whyNot_25 (by decide) ?_
      refine z_eq (z := (mWhy nw (9 * yI + xI))) (by first | exact mWhy_1 (by omega) (by omega) | exact mWhy_2 hG (by omega) hgd (by assumption) | exact mWhy_3 hG (by omega) hgd (by assumption) (by assumption) | exact mWhy_4 hG (by omega) hgd (by assumption) (by assumption) (by assumption) | exact mWhy_0 hG (by omega) hgd (by assumption) (by assumption) (by assumption)) ?_
      exact z_ret hx hb hr hlocks hS dX9_whyNot_26
  · refine lv_iconst (v := iV 1) hx hb dX9_whyNot_13 (by decide) ?_
    refine z_eq (z := (mWhy nw (9 * yI + xI))) (by first | exact mWhy_1 (by omega) (by omega) | exact mWhy_2 hG (by omega) hgd (by assumption) | exact mWhy_3 hG (by omega) hgd (by assumption) (by assumption) | exact mWhy_4 hG (by omega) hgd (by assumption) (by assumption) (by assumption) | exact mWhy_0 hG (by omega) hgd (by assumption) (by assumption) (by assumption)) ?_
    exact z_ret hx hb hr hlocks hS dX9_whyNot_14

set_option maxHeartbeats 4000000 in
set_option maxRecDepth 100000 in
theorem c_X9_why (l : Launch) (G : zG) (sz : Nat) (mA : Nat → Nat) (mLen : Int) (mSpot : Int) (mUn : Int) (mRr : Int) (mPit : Int) (mFar : Int) (mTm : Int) (nw : Nat → Int) (xI : Int) (yI : Int) (hM : mOK nw) (hrxI : iR xI) (hryI : iR yI) : Met l yX9_why (Cond.code yX9_why cX9_why 3 (some .int) :: zT) (zRm 5 119) (zPr G [.ref (mA 0), .int (iV xI), .int (iV yI)] [(mA 0, .inr (9, [.int (iV mLen), .ref (mA 1), .int (iV mSpot), .ref (mA 2), .ref (mA 3), .ref (mA 4), .int (iV mUn), .int (iV mRr), .int (iV mPit), .int (iV mFar), .ref (mA 5), .ref (mA 6), .ref (mA 7), .ref (mA 8), .int (iV mTm), .ref (mA 9), .ref (mA 10), .ref (mA 11)])), (mA 2, .inl (G.2.1, 249, .inl (fun k => iV (nw k))))] sz) (zQr (if hXY (nw 0) (nw 1) xI yI then mWhy nw (9 * yI + xI) else -1) sz) 0 0 (zF sz) := by
  refine Met.ofW (cc := cX9_why) (maxL := 3) (ret := (some .int)) (by decide) rfl ?_
  intro p e s m args below meth c s₁ B hml hv
  obtain ⟨rfl, hsz, hP, hK, hSt⟩ := hv
  have hx := B.exec
  have hb := B.bytes
  have hr := B.returns
  have hts : ∀ w ∈ zT, w.before _ s = true := fun w h => atoms_spec (ws := (Cond.code yX9_why cX9_why 3 (some .int) :: zT)) B.pre w (List.mem_cons_of_mem _ h)
  have hown : s.vm.findClass RX9 = some m.cls := findClass_of_methodNamed B.named
  have hlocks := B.notSynchronized
  subst hsz
  have hA : ∀ q : Nat, s.heap.size ≤ q → zF s.heap.size q := fun _ h => h
  have hS : va_S (zF s.heap.size) s.heap s.heap [] := va_S.rf
  have hP : va_P G.1 vwCl [(mA 0, .inr (9, [.int (iV mLen), .ref (mA 1), .int (iV mSpot), .ref (mA 2), .ref (mA 3), .ref (mA 4), .int (iV mUn), .int (iV mRr), .int (iV mPit), .int (iV mFar), .ref (mA 5), .ref (mA 6), .ref (mA 7), .ref (mA 8), .int (iV mTm), .ref (mA 9), .ref (mA 10), .ref (mA 11)])), (mA 2, .inl (G.2.1, 249, .inl (fun k => iV (nw k))))] s.heap := hP
  have X := And.intro hx (And.intro hb (And.intro hml (And.intro hown (And.intro hts (And.intro hK (And.intro hSt hA))))))
  have hl := lv_entry ([.ref (mA 0), .int (iV xI), .int (iV yI)]) (n := 3) (Nat.le_of_ble_eq_true rfl)
  rw [lg_entry_eq]
  generalize (lg_sl ([.ref (mA 0), .int (iV xI), .int (iV yI)]) ++ List.replicate (3 - (lg_sl ([.ref (mA 0), .int (iV xI), .int (iV yI)])).length) Slot.unset).toArray = ls at hl ⊢
  have hl : lv_has ls 3 [(0, .ref (mA 0)), (1, .int (iV xI)), (2, .int (iV yI))] := hl
  obtain ⟨hG, hWH3, hn88, hnL, hnQ, hn6, hn80⟩ := id hM
  obtain ⟨hW0, hW9, hH0, hH9, hg⟩ := id hG
  refine lv_aload_n hx hb dX9_why_0 rfl (lv_at hl 0 rfl) ?_
  refine lv_iload_n hx hb dX9_why_1 rfl (lv_at hl 1 rfl) ?_
  refine lv_iload_n hx hb dX9_why_2 rfl (lv_at hl 2 rfl) ?_
  refine z_callV X hP hS hl.1 (c_X9_isCell l G _ mA mLen mSpot mUn mRr mPit mFar mTm nw xI yI (by first | assumption | omega) (by first | assumption | omega) (by first | assumption | omega)) wd_875 kX9_isCell ⟨rfl, rfl, Nat.le_of_ble_eq_true rfl, Nat.le_of_ble_eq_true rfl⟩ [0, 1] rfl 0 rfl rfl rfl rfl (Nat.le_of_ble_eq_true rfl) dX9_why_3 ⟨Nat.zero_le _, Nat.zero_le _⟩ (fun H locs hP hS => ?_)
  refine z_ifb_eq (tgt := 18) hx hb dX9_why_6 (by decide) (fun c_1 => ?_) (fun c_1 => ?_)
  · refine lv_iconst (v := iV (-1)) hx hb dX9_why_18 (by decide) ?_
    refine z_eq (z := (if hXY (nw 0) (nw 1) xI yI then mWhy nw (9 * yI + xI) else -1)) (by first | rw [if_pos (by assumption)] | rw [if_neg (by assumption)]) ?_
    exact z_ret hx hb hr hlocks hS dX9_why_19
  · refine lv_aload_n hx hb dX9_why_9 rfl (lv_at hl 0 rfl) ?_
    refine lv_iload_n hx hb dX9_why_10 rfl (lv_at hl 1 rfl) ?_
    refine lv_iload_n hx hb dX9_why_11 rfl (lv_at hl 2 rfl) ?_
    refine z_callV X hP hS hl.1 (c_X9_whyNot l G _ mA mLen mSpot mUn mRr mPit mFar mTm nw xI yI (by first | assumption | omega) (by first | assumption | omega)) wd_1021 kX9_whyNot ⟨rfl, rfl, Nat.le_of_ble_eq_true rfl, Nat.le_of_ble_eq_true rfl⟩ [0, 1] rfl 0 rfl rfl rfl rfl (Nat.le_of_ble_eq_true rfl) dX9_why_12 ⟨Nat.zero_le _, Nat.zero_le _⟩ (fun H locs hP hS => ?_)
    have f_2 := mWhy_r nw (9 * yI + xI)
    refine lv_goto (tgt := 19) hx hb dX9_why_15 (by decide) ?_
    refine z_eq (z := (if hXY (nw 0) (nw 1) xI yI then mWhy nw (9 * yI + xI) else -1)) (by first | rw [if_pos (by assumption)] | rw [if_neg (by assumption)]) ?_
    exact z_ret hx hb hr hlocks hS dX9_why_19

set_option maxHeartbeats 4000000 in
set_option maxRecDepth 100000 in
theorem c_X9_draws (l : Launch) (G : zG) (sz : Nat) (mA : Nat → Nat) (mLen : Int) (mSpot : Int) (mUn : Int) (mRr : Int) (mPit : Int) (mFar : Int) (mTm : Int) (nw : Nat → Int) (xI : Int) (yI : Int) (hM : mOK nw) (hcel : hXY (nw 0) (nw 1) xI yI) (hroom : nw 88 < 20) : Met l yX9_draws (Cond.code yX9_draws cX9_draws 11 none :: zT) (zRm 4 96) (zPw G [.ref (mA 0), .int (iV xI), .int (iV yI)] [(mA 0, .inr (9, [.int (iV mLen), .ref (mA 1), .int (iV mSpot), .ref (mA 2), .ref (mA 3), .ref (mA 4), .int (iV mUn), .int (iV mRr), .int (iV mPit), .int (iV mFar), .ref (mA 5), .ref (mA 6), .ref (mA 7), .ref (mA 8), .int (iV mTm), .ref (mA 9), .ref (mA 10), .ref (mA 11)])), (mA 2, .inl (G.2.1, 249, .inl (fun k => iV (nw k))))] sz) (zQv G [(mA 0, .inr (9, [.int (iV mLen), .ref (mA 1), .int (iV mSpot), .ref (mA 2), .ref (mA 3), .ref (mA 4), .int (iV mUn), .int (iV mRr), .int (iV mPit), .int (iV mFar), .ref (mA 5), .ref (mA 6), .ref (mA 7), .ref (mA 8), .int (iV mTm), .ref (mA 9), .ref (mA 10), .ref (mA 11)])), (mA 2, .inl (G.2.1, 249, .inl (fun k => iV (nw k))))] [(mA 0, .inr (9, [.int (iV mLen), .ref (mA 1), .int (iV mSpot), .ref (mA 2), .ref (mA 3), .ref (mA 4), .int (iV mUn), .int (iV mRr), .int (iV mPit), .int (iV mFar), .ref (mA 5), .ref (mA 6), .ref (mA 7), .ref (mA 8), .int (iV mTm), .ref (mA 9), .ref (mA 10), .ref (mA 11)])), (mA 2, .inl (G.2.1, 249, .inl (fun k => iV (mDr nw (9 * yI + xI) k))))] sz) 0 0 (va_A [(mA 0, .inr (9, [.int (iV mLen), .ref (mA 1), .int (iV mSpot), .ref (mA 2), .ref (mA 3), .ref (mA 4), .int (iV mUn), .int (iV mRr), .int (iV mPit), .int (iV mFar), .ref (mA 5), .ref (mA 6), .ref (mA 7), .ref (mA 8), .int (iV mTm), .ref (mA 9), .ref (mA 10), .ref (mA 11)])), (mA 2, .inl (G.2.1, 249, .inl (fun k => iV (nw k))))] sz) := by
  refine Met.ofW (cc := cX9_draws) (maxL := 11) (ret := none) (by decide) rfl ?_
  intro p e s m args below meth c s₁ B hml hv
  obtain ⟨rfl, hsz, hP, hK, hSt, hD0⟩ := hv
  have hx := B.exec
  have hb := B.bytes
  have hr := B.returns
  have hts : ∀ w ∈ zT, w.before _ s = true := fun w h => atoms_spec (ws := (Cond.code yX9_draws cX9_draws 11 none :: zT)) B.pre w (List.mem_cons_of_mem _ h)
  have hown : s.vm.findClass RX9 = some m.cls := findClass_of_methodNamed B.named
  have hlocks := B.notSynchronized
  subst hsz
  have hD : va_D (va_A [(mA 0, .inr (9, [.int (iV mLen), .ref (mA 1), .int (iV mSpot), .ref (mA 2), .ref (mA 3), .ref (mA 4), .int (iV mUn), .int (iV mRr), .int (iV mPit), .int (iV mFar), .ref (mA 5), .ref (mA 6), .ref (mA 7), .ref (mA 8), .int (iV mTm), .ref (mA 9), .ref (mA 10), .ref (mA 11)])), (mA 2, .inl (G.2.1, 249, .inl (fun k => iV (nw k))))] s.heap.size) [(mA 0, .inr (9, [.int (iV mLen), .ref (mA 1), .int (iV mSpot), .ref (mA 2), .ref (mA 3), .ref (mA 4), .int (iV mUn), .int (iV mRr), .int (iV mPit), .int (iV mFar), .ref (mA 5), .ref (mA 6), .ref (mA 7), .ref (mA 8), .int (iV mTm), .ref (mA 9), .ref (mA 10), .ref (mA 11)])), (mA 2, .inl (G.2.1, 249, .inl (fun k => iV (nw k))))] := hD0.self
  have hA : ∀ q : Nat, s.heap.size ≤ q → va_A [(mA 0, .inr (9, [.int (iV mLen), .ref (mA 1), .int (iV mSpot), .ref (mA 2), .ref (mA 3), .ref (mA 4), .int (iV mUn), .int (iV mRr), .int (iV mPit), .int (iV mFar), .ref (mA 5), .ref (mA 6), .ref (mA 7), .ref (mA 8), .int (iV mTm), .ref (mA 9), .ref (mA 10), .ref (mA 11)])), (mA 2, .inl (G.2.1, 249, .inl (fun k => iV (nw k))))] s.heap.size q := fun q h => Or.inr h
  have hS : va_S (va_A [(mA 0, .inr (9, [.int (iV mLen), .ref (mA 1), .int (iV mSpot), .ref (mA 2), .ref (mA 3), .ref (mA 4), .int (iV mUn), .int (iV mRr), .int (iV mPit), .int (iV mFar), .ref (mA 5), .ref (mA 6), .ref (mA 7), .ref (mA 8), .int (iV mTm), .ref (mA 9), .ref (mA 10), .ref (mA 11)])), (mA 2, .inl (G.2.1, 249, .inl (fun k => iV (nw k))))] s.heap.size) s.heap s.heap [] := va_S.rf
  have hP : va_P G.1 vwCl [(mA 0, .inr (9, [.int (iV mLen), .ref (mA 1), .int (iV mSpot), .ref (mA 2), .ref (mA 3), .ref (mA 4), .int (iV mUn), .int (iV mRr), .int (iV mPit), .int (iV mFar), .ref (mA 5), .ref (mA 6), .ref (mA 7), .ref (mA 8), .int (iV mTm), .ref (mA 9), .ref (mA 10), .ref (mA 11)])), (mA 2, .inl (G.2.1, 249, .inl (fun k => iV (nw k))))] s.heap := hP
  have X := And.intro hx (And.intro hb (And.intro hml (And.intro hown (And.intro hts (And.intro hK (And.intro hSt hA))))))
  have hl := lv_entry ([.ref (mA 0), .int (iV xI), .int (iV yI)]) (n := 11) (Nat.le_of_ble_eq_true rfl)
  rw [lg_entry_eq]
  generalize (lg_sl ([.ref (mA 0), .int (iV xI), .int (iV yI)]) ++ List.replicate (11 - (lg_sl ([.ref (mA 0), .int (iV xI), .int (iV yI)])).length) Slot.unset).toArray = ls at hl ⊢
  have hl : lv_has ls 11 [(0, .ref (mA 0)), (1, .int (iV xI)), (2, .int (iV yI))] := hl
  obtain ⟨hG, hWH3, hn88, hnL, hnQ, hn6, hn80⟩ := id hM
  obtain ⟨hW0, hW9, hH0, hH9, hg⟩ := id hG
  refine lv_aload_n hx hb dX9_draws_0 rfl (lv_at hl 0 rfl) ?_
  refine va_get (D := G.1) (ci := 9) (v := .ref (mA 2)) (C := RX9) (T := TX9) (N := 18) hx hb hts inX9 hown hK hP 0 rfl rfl 3 (by decide) (hts _ wd_761) (fun _ h9 => h9) rfl dX9_draws_1 ?_
  refine lv_bipush (v := iV 88) hx hb dX9_draws_4 (by decide) ?_
  refine z_iald (G := G) (f := nw) hx hb hK hP 1 rfl (by omega) (by omega) (by decide) dX9_draws_6 ?_
  refine z_eq (z := (nw 88)) (by rfl) ?_
  refine lv_istore_n (lv' := [(3, .int (iV (nw 88))), (0, .ref (mA 0)), (1, .int (iV xI)), (2, .int (iV yI))]) hx hb dX9_draws_7 rfl hl (by decide) rfl (fun ls hl => ?_)
  refine lv_bipush (v := iV 89) hx hb dX9_draws_8 (by decide) ?_
  refine lv_bipush (v := iV 8) hx hb dX9_draws_10 (by decide) ?_
  refine lv_iload_n hx hb dX9_draws_12 rfl (lv_at hl 0 rfl) ?_
  refine z_imul hx hb dX9_draws_13 ?_
  refine z_iadd hx hb dX9_draws_14 ?_
  refine lv_istore (lv' := [(4, .int (iV (89 + (8 * (nw 88))))), (3, .int (iV (nw 88))), (0, .ref (mA 0)), (1, .int (iV xI)), (2, .int (iV yI))]) hx hb dX9_draws_15 hl (by decide) rfl (fun ls hl => ?_)
  refine lv_iload_n hx hb dX9_draws_17 rfl (lv_at hl 3 rfl) ?_
  refine lv_istore (lv' := [(5, .int (iV xI)), (4, .int (iV (89 + (8 * (nw 88))))), (3, .int (iV (nw 88))), (0, .ref (mA 0)), (1, .int (iV xI)), (2, .int (iV yI))]) hx hb dX9_draws_18 hl (by decide) rfl (fun ls hl => ?_)
  refine lv_iload_n hx hb dX9_draws_20 rfl (lv_at hl 5 rfl) ?_
  refine lv_istore (lv' := [(6, .int (iV yI)), (5, .int (iV xI)), (4, .int (iV (89 + (8 * (nw 88))))), (3, .int (iV (nw 88))), (0, .ref (mA 0)), (1, .int (iV xI)), (2, .int (iV yI))]) hx hb dX9_draws_21 hl (by decide) rfl (fun ls hl => ?_)
  refine lv_iconst (v := iV 0) hx hb dX9_draws_23 (by decide) ?_
  refine lv_istore (lv' := [(7, .int (iV 0)), (6, .int (iV yI)), (5, .int (iV xI)), (4, .int (iV (89 + (8 * (nw 88))))), (3, .int (iV (nw 88))), (0, .ref (mA 0)), (1, .int (iV xI)), (2, .int (iV yI))]) hx hb dX9_draws_24 hl (by decide) rfl (fun ls hl => ?_)
  refine lv_iconst (v := iV 0) hx hb dX9_draws_26 (by decide) ?_
  refine lv_istore (lv' := [(8, .int (iV 0)), (7, .int (iV 0)), (6, .int (iV yI)), (5, .int (iV xI)), (4, .int (iV (89 + (8 * (nw 88))))), (3, .int (iV (nw 88))), (0, .ref (mA 0)), (1, .int (iV xI)), (2, .int (iV yI))]) hx hb dX9_draws_27 hl (by decide) rfl (fun ls hl => ?_)
  have lp_29 : ∀ (k : Nat) (jq : Nat) (en : Int) (cx : Int) (cy : Int) , (jq ≤ 6) → (0 ≤ en ∧ en ≤ 3) → (∀ i : Nat, i < jq → 0 ≤ (gWk (mNx nw) (9 * yI + xI)) i ∧ (gWk (mNx nw) (9 * yI + xI)) i < 81) → (en = 0 → hXY (nw 0) (nw 1) cx cy ∧ (gWk (mNx nw) (9 * yI + xI)) jq = (9 * cy + cx) ∧ jq < 6) → ((en = 0 → (mGo nw (9 * yI + xI)) = sGo (nw 88) (nL nw) (nCe nw) (mNx nw) (6 - jq) jq (9 * cy + cx)) ∧ (¬ en = 0 → (mGo nw (9 * yI + xI)) = (jq, en))) → (7 - jq) < k → ∀ (H : Heap) (locs : List Loc), va_P G.1 vwCl [(mA 0, .inr (9, [.int (iV mLen), .ref (mA 1), .int (iV mSpot), .ref (mA 2), .ref (mA 3), .ref (mA 4), .int (iV mUn), .int (iV mRr), .int (iV mPit), .int (iV mFar), .ref (mA 5), .ref (mA 6), .ref (mA 7), .ref (mA 8), .int (iV mTm), .ref (mA 9), .ref (mA 10), .ref (mA 11)])), (mA 2, .inl (G.2.1, 249, .inl (fun k => iV (sPut nw (89 + 8 * (nw 88).toNat) jq (gWk (mNx nw) (9 * yI + xI)) k))))] H → va_D (va_A [(mA 0, .inr (9, [.int (iV mLen), .ref (mA 1), .int (iV mSpot), .ref (mA 2), .ref (mA 3), .ref (mA 4), .int (iV mUn), .int (iV mRr), .int (iV mPit), .int (iV mFar), .ref (mA 5), .ref (mA 6), .ref (mA 7), .ref (mA 8), .int (iV mTm), .ref (mA 9), .ref (mA 10), .ref (mA 11)])), (mA 2, .inl (G.2.1, 249, .inl (fun k => iV (nw k))))] s.heap.size) [(mA 0, .inr (9, [.int (iV mLen), .ref (mA 1), .int (iV mSpot), .ref (mA 2), .ref (mA 3), .ref (mA 4), .int (iV mUn), .int (iV mRr), .int (iV mPit), .int (iV mFar), .ref (mA 5), .ref (mA 6), .ref (mA 7), .ref (mA 8), .int (iV mTm), .ref (mA 9), .ref (mA 10), .ref (mA 11)])), (mA 2, .inl (G.2.1, 249, .inl (fun k => iV (sPut nw (89 + 8 * (nw 88).toNat) jq (gWk (mNx nw) (9 * yI + xI)) k))))] → va_S (va_A [(mA 0, .inr (9, [.int (iV mLen), .ref (mA 1), .int (iV mSpot), .ref (mA 2), .ref (mA 3), .ref (mA 4), .int (iV mUn), .int (iV mRr), .int (iV mPit), .int (iV mFar), .ref (mA 5), .ref (mA 6), .ref (mA 7), .ref (mA 8), .int (iV mTm), .ref (mA 9), .ref (mA 10), .ref (mA 11)])), (mA 2, .inl (G.2.1, 249, .inl (fun k => iV (nw k))))] s.heap.size) s.heap H locs → ∀ ls : Array Slot, lv_has ls 11 [(0, .ref (mA 0)), (1, .int (iV xI)), (2, .int (iV yI)), (3, .int (iV (nw 88))), (4, .int (iV (89 + (8 * (nw 88))))), (5, .int (iV cx)), (6, .int (iV cy)), (7, .int (iV (Nat.cast jq : Int))), (8, .int (iV en))] → W p l e (headSpec (Cond.code yX9_draws cX9_draws 11 none :: zT) (zRm 4 96)).room s m ([Value.ref (mA 0), Value.int (iV xI), Value.int (iV yI)] : List Value).toArray below meth c H locs 0 0 (MQ below (zQv G [(mA 0, .inr (9, [.int (iV mLen), .ref (mA 1), .int (iV mSpot), .ref (mA 2), .ref (mA 3), .ref (mA 4), .int (iV mUn), .int (iV mRr), .int (iV mPit), .int (iV mFar), .ref (mA 5), .ref (mA 6), .ref (mA 7), .ref (mA 8), .int (iV mTm), .ref (mA 9), .ref (mA 10), .ref (mA 11)])), (mA 2, .inl (G.2.1, 249, .inl (fun k => iV (nw k))))] [(mA 0, .inr (9, [.int (iV mLen), .ref (mA 1), .int (iV mSpot), .ref (mA 2), .ref (mA 3), .ref (mA 4), .int (iV mUn), .int (iV mRr), .int (iV mPit), .int (iV mFar), .ref (mA 5), .ref (mA 6), .ref (mA 7), .ref (mA 8), .int (iV mTm), .ref (mA 9), .ref (mA 10), .ref (mA 11)])), (mA 2, .inl (G.2.1, 249, .inl (fun k => iV (mDr nw (9 * yI + xI) k))))] s.heap.size) ([Value.ref (mA 0), Value.int (iV xI), Value.int (iV yI)] : List Value).toArray s 0 0 (va_A [(mA 0, .inr (9, [.int (iV mLen), .ref (mA 1), .int (iV mSpot), .ref (mA 2), .ref (mA 3), .ref (mA 4), .int (iV mUn), .int (iV mRr), .int (iV mPit), .int (iV mFar), .ref (mA 5), .ref (mA 6), .ref (mA 7), .ref (mA 8), .int (iV mTm), .ref (mA 9), .ref (mA 10), .ref (mA 11)])), (mA 2, .inl (G.2.1, 249, .inl (fun k => iV (nw k))))] s.heap.size)) (F0 m 29 ls []) := by
    intro k
    induction k with
    | zero => intro jq en cx cy hj hen hcs hcur hfin hk_; exact absurd hk_ (Nat.not_lt_zero _)
    | succ k ih_29 =>
      intro jq en cx cy hj hen hcs hcur hfin hk_29 H locs hP hD hS ls hl
      refine lv_iload hx hb dX9_draws_29 (lv_at hl 8 rfl) ?_
      refine z_if_ne (tgt := 165) hx hb (by omega) dX9_draws_31 (by decide) (fun c_1 => ?_) (fun c_1 => ?_)
      · refine lv_aload_n hx hb dX9_draws_165 rfl (lv_at hl 0 rfl) ?_
        refine va_get (D := G.1) (ci := 9) (v := .ref (mA 2)) (C := RX9) (T := TX9) (N := 18) hx hb hts inX9 hown hK hP 0 rfl rfl 3 (by decide) (hts _ wd_761) (fun _ h9 => h9) rfl dX9_draws_166 ?_
        refine lv_iload hx hb dX9_draws_169 (lv_at hl 4 rfl) ?_
        refine lv_bipush (v := iV 6) hx hb dX9_draws_171 (by decide) ?_
        refine z_iadd hx hb dX9_draws_173 ?_
        refine lv_iload hx hb dX9_draws_174 (lv_at hl 7 rfl) ?_
        refine z_iast (G := G) (f := sPut nw (89 + 8 * (nw 88).toNat) jq (gWk (mNx nw) (9 * yI + xI))) hx hb hK hP hD hS 1 rfl (by omega) (by omega) (by decide) dX9_draws_176 (fun H locs hP hD hS => ?_)
        have hP : va_P G.1 vwCl [(mA 0, .inr (9, [.int (iV mLen), .ref (mA 1), .int (iV mSpot), .ref (mA 2), .ref (mA 3), .ref (mA 4), .int (iV mUn), .int (iV mRr), .int (iV mPit), .int (iV mFar), .ref (mA 5), .ref (mA 6), .ref (mA 7), .ref (mA 8), .int (iV mTm), .ref (mA 9), .ref (mA 10), .ref (mA 11)])), (mA 2, .inl (G.2.1, 249, .inl (fun k => iV ((uI (sPut nw (89 + 8 * (nw 88).toNat) jq (gWk (mNx nw) (9 * yI + xI))) ((89 + (8 * (nw 88))) + 6).toNat (Nat.cast jq : Int)) k))))] H := hP
        have hD : va_D _ [(mA 0, .inr (9, [.int (iV mLen), .ref (mA 1), .int (iV mSpot), .ref (mA 2), .ref (mA 3), .ref (mA 4), .int (iV mUn), .int (iV mRr), .int (iV mPit), .int (iV mFar), .ref (mA 5), .ref (mA 6), .ref (mA 7), .ref (mA 8), .int (iV mTm), .ref (mA 9), .ref (mA 10), .ref (mA 11)])), (mA 2, .inl (G.2.1, 249, .inl (fun k => iV ((uI (sPut nw (89 + 8 * (nw 88).toNat) jq (gWk (mNx nw) (9 * yI + xI))) ((89 + (8 * (nw 88))) + 6).toNat (Nat.cast jq : Int)) k))))] := hD
        refine lv_aload_n hx hb dX9_draws_177 rfl (lv_at hl 0 rfl) ?_
        refine va_get (D := G.1) (ci := 9) (v := .ref (mA 2)) (C := RX9) (T := TX9) (N := 18) hx hb hts inX9 hown hK hP 0 rfl rfl 3 (by decide) (hts _ wd_761) (fun _ h9 => h9) rfl dX9_draws_178 ?_
        refine lv_iload hx hb dX9_draws_181 (lv_at hl 4 rfl) ?_
        refine lv_bipush (v := iV 7) hx hb dX9_draws_183 (by decide) ?_
        refine z_iadd hx hb dX9_draws_185 ?_
        refine lv_iload hx hb dX9_draws_186 (lv_at hl 8 rfl) ?_
        refine z_iast (G := G) (f := (uI (sPut nw (89 + 8 * (nw 88).toNat) jq (gWk (mNx nw) (9 * yI + xI))) ((89 + (8 * (nw 88))) + 6).toNat (Nat.cast jq : Int))) hx hb hK hP hD hS 1 rfl (by omega) (by omega) (by decide) dX9_draws_188 (fun H locs hP hD hS => ?_)
        have hP : va_P G.1 vwCl [(mA 0, .inr (9, [.int (iV mLen), .ref (mA 1), .int (iV mSpot), .ref (mA 2), .ref (mA 3), .ref (mA 4), .int (iV mUn), .int (iV mRr), .int (iV mPit), .int (iV mFar), .ref (mA 5), .ref (mA 6), .ref (mA 7), .ref (mA 8), .int (iV mTm), .ref (mA 9), .ref (mA 10), .ref (mA 11)])), (mA 2, .inl (G.2.1, 249, .inl (fun k => iV ((uI (uI (sPut nw (89 + 8 * (nw 88).toNat) jq (gWk (mNx nw) (9 * yI + xI))) ((89 + (8 * (nw 88))) + 6).toNat (Nat.cast jq : Int)) ((89 + (8 * (nw 88))) + 7).toNat en) k))))] H := hP
        have hD : va_D _ [(mA 0, .inr (9, [.int (iV mLen), .ref (mA 1), .int (iV mSpot), .ref (mA 2), .ref (mA 3), .ref (mA 4), .int (iV mUn), .int (iV mRr), .int (iV mPit), .int (iV mFar), .ref (mA 5), .ref (mA 6), .ref (mA 7), .ref (mA 8), .int (iV mTm), .ref (mA 9), .ref (mA 10), .ref (mA 11)])), (mA 2, .inl (G.2.1, 249, .inl (fun k => iV ((uI (uI (sPut nw (89 + 8 * (nw 88).toNat) jq (gWk (mNx nw) (9 * yI + xI))) ((89 + (8 * (nw 88))) + 6).toNat (Nat.cast jq : Int)) ((89 + (8 * (nw 88))) + 7).toNat en) k))))] := hD
        refine lv_aload_n hx hb dX9_draws_189 rfl (lv_at hl 0 rfl) ?_
        refine va_get (D := G.1) (ci := 9) (v := .ref (mA 2)) (C := RX9) (T := TX9) (N := 18) hx hb hts inX9 hown hK hP 0 rfl rfl 3 (by decide) (hts _ wd_761) (fun _ h9 => h9) rfl dX9_draws_190 ?_
        refine lv_bipush (v := iV 88) hx hb dX9_draws_193 (by decide) ?_
        refine lv_dup2_11 hx hb dX9_draws_195 rfl rfl ?_
        refine z_iald (G := G) (f := (uI (uI (sPut nw (89 + 8 * (nw 88).toNat) jq (gWk (mNx nw) (9 * yI + xI))) ((89 + (8 * (nw 88))) + 6).toNat (Nat.cast jq : Int)) ((89 + (8 * (nw 88))) + 7).toNat en)) hx hb hK hP 1 rfl (by omega) (by omega) (by decide) dX9_draws_196 ?_
        refine z_eq (z := ((uI (uI (sPut nw (89 + 8 * (nw 88).toNat) jq (gWk (mNx nw) (9 * yI + xI))) ((89 + (8 * (nw 88))) + 6).toNat (Nat.cast jq : Int)) ((89 + (8 * (nw 88))) + 7).toNat en) 88)) (by rfl) ?_
        refine z_eq (z := (nw 88)) (by rw [uI_ne _ _ (by omega), uI_ne _ _ (by omega), mP_lo 88 (by omega)]) ?_
        refine lv_iconst (v := iV 1) hx hb dX9_draws_197 (by decide) ?_
        refine z_iadd hx hb dX9_draws_198 ?_
        refine z_iast (G := G) (f := (uI (uI (sPut nw (89 + 8 * (nw 88).toNat) jq (gWk (mNx nw) (9 * yI + xI))) ((89 + (8 * (nw 88))) + 6).toNat (Nat.cast jq : Int)) ((89 + (8 * (nw 88))) + 7).toNat en)) hx hb hK hP hD hS 1 rfl (by omega) (by omega) (by decide) dX9_draws_199 (fun H locs hP hD hS => ?_)
        have hP : va_P G.1 vwCl [(mA 0, .inr (9, [.int (iV mLen), .ref (mA 1), .int (iV mSpot), .ref (mA 2), .ref (mA 3), .ref (mA 4), .int (iV mUn), .int (iV mRr), .int (iV mPit), .int (iV mFar), .ref (mA 5), .ref (mA 6), .ref (mA 7), .ref (mA 8), .int (iV mTm), .ref (mA 9), .ref (mA 10), .ref (mA 11)])), (mA 2, .inl (G.2.1, 249, .inl (fun k => iV ((uI (uI (uI (sPut nw (89 + 8 * (nw 88).toNat) jq (gWk (mNx nw) (9 * yI + xI))) ((89 + (8 * (nw 88))) + 6).toNat (Nat.cast jq : Int)) ((89 + (8 * (nw 88))) + 7).toNat en) 88 ((nw 88) + 1)) k))))] H := hP
        have hD : va_D _ [(mA 0, .inr (9, [.int (iV mLen), .ref (mA 1), .int (iV mSpot), .ref (mA 2), .ref (mA 3), .ref (mA 4), .int (iV mUn), .int (iV mRr), .int (iV mPit), .int (iV mFar), .ref (mA 5), .ref (mA 6), .ref (mA 7), .ref (mA 8), .int (iV mTm), .ref (mA 9), .ref (mA 10), .ref (mA 11)])), (mA 2, .inl (G.2.1, 249, .inl (fun k => iV ((uI (uI (uI (sPut nw (89 + 8 * (nw 88).toNat) jq (gWk (mNx nw) (9 * yI + xI))) ((89 + (8 * (nw 88))) + 6).toNat (Nat.cast jq : Int)) ((89 + (8 * (nw 88))) + 7).toNat en) 88 ((nw 88) + 1)) k))))] := hD
        have hP : va_P G.1 vwCl [(mA 0, .inr (9, [.int (iV mLen), .ref (mA 1), .int (iV mSpot), .ref (mA 2), .ref (mA 3), .ref (mA 4), .int (iV mUn), .int (iV mRr), .int (iV mPit), .int (iV mFar), .ref (mA 5), .ref (mA 6), .ref (mA 7), .ref (mA 8), .int (iV mTm), .ref (mA 9), .ref (mA 10), .ref (mA 11)])), (mA 2, .inl (G.2.1, 249, .inl (fun k => iV (mDr nw (9 * yI + xI) k))))] _ := z_castP (by have h9 := hfin.2 (by assumption); unfold mDr; rw [h9, show (89 + (8 * nw 88) + 6).toNat = (89 + 8 * (nw 88).toNat) + 6 by omega, show (89 + (8 * nw 88) + 7).toNat = (89 + 8 * (nw 88).toNat) + 7 by omega]) hP
        exact z_retv hx hb hr hlocks hP hS dX9_draws_200
      · refine lv_aload_n hx hb dX9_draws_34 rfl (lv_at hl 0 rfl) ?_
        refine va_get (D := G.1) (ci := 9) (v := .ref (mA 2)) (C := RX9) (T := TX9) (N := 18) hx hb hts inX9 hown hK hP 0 rfl rfl 3 (by decide) (hts _ wd_761) (fun _ h9 => h9) rfl dX9_draws_35 ?_
        refine lv_iload hx hb dX9_draws_38 (lv_at hl 4 rfl) ?_
        refine lv_iload hx hb dX9_draws_40 (lv_at hl 7 rfl) ?_
        refine z_iadd hx hb dX9_draws_42 ?_
        refine lv_bipush (v := iV 9) hx hb dX9_draws_43 (by decide) ?_
        refine lv_iload hx hb dX9_draws_45 (lv_at hl 6 rfl) ?_
        refine z_imul hx hb dX9_draws_47 ?_
        refine lv_iload hx hb dX9_draws_48 (lv_at hl 5 rfl) ?_
        refine z_iadd hx hb dX9_draws_50 ?_
        refine z_iast (G := G) (f := sPut nw (89 + 8 * (nw 88).toNat) jq (gWk (mNx nw) (9 * yI + xI))) hx hb hK hP hD hS 1 rfl (by omega) (by omega) (by decide) dX9_draws_51 (fun H locs hP hD hS => ?_)
        have hP : va_P G.1 vwCl [(mA 0, .inr (9, [.int (iV mLen), .ref (mA 1), .int (iV mSpot), .ref (mA 2), .ref (mA 3), .ref (mA 4), .int (iV mUn), .int (iV mRr), .int (iV mPit), .int (iV mFar), .ref (mA 5), .ref (mA 6), .ref (mA 7), .ref (mA 8), .int (iV mTm), .ref (mA 9), .ref (mA 10), .ref (mA 11)])), (mA 2, .inl (G.2.1, 249, .inl (fun k => iV ((uI (sPut nw (89 + 8 * (nw 88).toNat) jq (gWk (mNx nw) (9 * yI + xI))) ((89 + (8 * (nw 88))) + (Nat.cast jq : Int)).toNat ((9 * cy) + cx)) k))))] H := hP
        have hD : va_D _ [(mA 0, .inr (9, [.int (iV mLen), .ref (mA 1), .int (iV mSpot), .ref (mA 2), .ref (mA 3), .ref (mA 4), .int (iV mUn), .int (iV mRr), .int (iV mPit), .int (iV mFar), .ref (mA 5), .ref (mA 6), .ref (mA 7), .ref (mA 8), .int (iV mTm), .ref (mA 9), .ref (mA 10), .ref (mA 11)])), (mA 2, .inl (G.2.1, 249, .inl (fun k => iV ((uI (sPut nw (89 + 8 * (nw 88).toNat) jq (gWk (mNx nw) (9 * yI + xI))) ((89 + (8 * (nw 88))) + (Nat.cast jq : Int)).toNat ((9 * cy) + cx)) k))))] := hD
        have hcu := hcur (by assumption)
        have hcs2 := all_s (P := fun i => 0 ≤ (gWk (mNx nw) (9 * yI + xI)) i ∧ (gWk (mNx nw) (9 * yI + xI)) i < 81) hcs ⟨by rw [hcu.2.1]; omega, by rw [hcu.2.1]; omega⟩
        have hMv := mP_ok (f := (gWk (mNx nw) (9 * yI + xI))) hM (j := jq + 1) (by omega) hcs2
        have hP : va_P G.1 vwCl [(mA 0, .inr (9, [.int (iV mLen), .ref (mA 1), .int (iV mSpot), .ref (mA 2), .ref (mA 3), .ref (mA 4), .int (iV mUn), .int (iV mRr), .int (iV mPit), .int (iV mFar), .ref (mA 5), .ref (mA 6), .ref (mA 7), .ref (mA 8), .int (iV mTm), .ref (mA 9), .ref (mA 10), .ref (mA 11)])), (mA 2, .inl (G.2.1, 249, .inl (fun k => iV (sPut nw (89 + 8 * (nw 88).toNat) (jq + 1) (gWk (mNx nw) (9 * yI + xI)) k))))] _ := z_castP (by rw [show ((89 + (8 * nw 88)) + (Nat.cast jq : Int)).toNat = (89 + 8 * (nw 88).toNat) + jq by omega, ← hcu.2.1, sPut_s]) hP
        have hD : va_D _ [(mA 0, .inr (9, [.int (iV mLen), .ref (mA 1), .int (iV mSpot), .ref (mA 2), .ref (mA 3), .ref (mA 4), .int (iV mUn), .int (iV mRr), .int (iV mPit), .int (iV mFar), .ref (mA 5), .ref (mA 6), .ref (mA 7), .ref (mA 8), .int (iV mTm), .ref (mA 9), .ref (mA 10), .ref (mA 11)])), (mA 2, .inl (G.2.1, 249, .inl (fun k => iV (sPut nw (89 + 8 * (nw 88).toNat) (jq + 1) (gWk (mNx nw) (9 * yI + xI)) k))))] := z_castD (by rw [show ((89 + (8 * nw 88)) + (Nat.cast jq : Int)).toNat = (89 + 8 * (nw 88).toNat) + jq by omega, ← hcu.2.1, sPut_s]) hD
        refine z_iinc (lv' := [(7, .int (iV ((Nat.cast jq : Int) + 1))), (0, .ref (mA 0)), (1, .int (iV xI)), (2, .int (iV yI)), (3, .int (iV (nw 88))), (4, .int (iV (89 + (8 * (nw 88))))), (5, .int (iV cx)), (6, .int (iV cy)), (8, .int (iV en))]) hx hb dX9_draws_52 hl (k := 7) rfl (by decide) rfl (fun ls hl => ?_)
        refine lv_aload_n hx hb dX9_draws_55 rfl (lv_at hl 1 rfl) ?_
        refine lv_iload hx hb dX9_draws_56 (lv_at hl 6 rfl) ?_
        refine lv_iload hx hb dX9_draws_58 (lv_at hl 7 rfl) ?_
        refine z_callV X hP hS hl.1 (c_X9_down l G _ mA mLen mSpot mUn mRr mPit mFar mTm (sPut nw (89 + 8 * (nw 88).toNat) (jq + 1) (gWk (mNx nw) (9 * yI + xI))) cx cy (hMv) (by first | assumption | omega)) wd_917 kX9_down ⟨rfl, rfl, Nat.le_of_ble_eq_true rfl, Nat.le_of_ble_eq_true rfl⟩ [0, 1] rfl 0 rfl rfl rfl rfl (Nat.le_of_ble_eq_true rfl) dX9_draws_60 ⟨Nat.zero_le _, Nat.zero_le _⟩ (fun H locs hP hS => ?_)
        have f_2 := gDown_r (id hM).1 cx cy
        have f_3 := cNone_r (gDown_r (id hM).1 cx cy)
        refine z_eq (z := (cNone (gDown (nw 0) (nw 1) (nG nw) cx cy))) (by rw [mP_G, mP_lo 0 (by omega), mP_lo 1 (by omega)]) ?_
        have hgr := gDown_r hG cx cy
        have hcn := cNone_r hgr
        refine lv_istore (lv' := [(9, .int (iV (cNone (gDown (nw 0) (nw 1) (nG nw) cx cy)))), (7, .int (iV ((Nat.cast jq : Int) + 1))), (0, .ref (mA 0)), (1, .int (iV xI)), (2, .int (iV yI)), (3, .int (iV (nw 88))), (4, .int (iV (89 + (8 * (nw 88))))), (5, .int (iV cx)), (6, .int (iV cy)), (8, .int (iV en))]) hx hb dX9_draws_63 hl (by decide) rfl (fun ls hl => ?_)
        refine lv_iload hx hb dX9_draws_65 (lv_at hl 0 rfl) ?_
        refine lv_bipush (v := iV (-4)) hx hb dX9_draws_67 (by decide) ?_
        have jn_101 : ∀ (H : Heap) (locs : List Loc), va_P G.1 vwCl [(mA 0, .inr (9, [.int (iV mLen), .ref (mA 1), .int (iV mSpot), .ref (mA 2), .ref (mA 3), .ref (mA 4), .int (iV mUn), .int (iV mRr), .int (iV mPit), .int (iV mFar), .ref (mA 5), .ref (mA 6), .ref (mA 7), .ref (mA 8), .int (iV mTm), .ref (mA 9), .ref (mA 10), .ref (mA 11)])), (mA 2, .inl (G.2.1, 249, .inl (fun k => iV (sPut nw (89 + 8 * (nw 88).toNat) (jq + 1) (gWk (mNx nw) (9 * yI + xI)) k))))] H → va_D (va_A [(mA 0, .inr (9, [.int (iV mLen), .ref (mA 1), .int (iV mSpot), .ref (mA 2), .ref (mA 3), .ref (mA 4), .int (iV mUn), .int (iV mRr), .int (iV mPit), .int (iV mFar), .ref (mA 5), .ref (mA 6), .ref (mA 7), .ref (mA 8), .int (iV mTm), .ref (mA 9), .ref (mA 10), .ref (mA 11)])), (mA 2, .inl (G.2.1, 249, .inl (fun k => iV (nw k))))] s.heap.size) [(mA 0, .inr (9, [.int (iV mLen), .ref (mA 1), .int (iV mSpot), .ref (mA 2), .ref (mA 3), .ref (mA 4), .int (iV mUn), .int (iV mRr), .int (iV mPit), .int (iV mFar), .ref (mA 5), .ref (mA 6), .ref (mA 7), .ref (mA 8), .int (iV mTm), .ref (mA 9), .ref (mA 10), .ref (mA 11)])), (mA 2, .inl (G.2.1, 249, .inl (fun k => iV (sPut nw (89 + 8 * (nw 88).toNat) (jq + 1) (gWk (mNx nw) (9 * yI + xI)) k))))] → va_S (va_A [(mA 0, .inr (9, [.int (iV mLen), .ref (mA 1), .int (iV mSpot), .ref (mA 2), .ref (mA 3), .ref (mA 4), .int (iV mUn), .int (iV mRr), .int (iV mPit), .int (iV mFar), .ref (mA 5), .ref (mA 6), .ref (mA 7), .ref (mA 8), .int (iV mTm), .ref (mA 9), .ref (mA 10), .ref (mA 11)])), (mA 2, .inl (G.2.1, 249, .inl (fun k => iV (nw k))))] s.heap.size) s.heap H locs → ∀ ls : Array Slot, lv_has ls 11 [(0, .ref (mA 0)), (1, .int (iV xI)), (2, .int (iV yI)), (3, .int (iV (nw 88))), (4, .int (iV (89 + (8 * (nw 88))))), (5, .int (iV cx)), (6, .int (iV cy)), (7, .int (iV ((Nat.cast jq : Int) + 1))), (8, .int (iV en)), (9, .int (iV (cNone (gDown (nw 0) (nw 1) (nG nw) cx cy))))] → W p l e (headSpec (Cond.code yX9_draws cX9_draws 11 none :: zT) (zRm 4 96)).room s m ([Value.ref (mA 0), Value.int (iV xI), Value.int (iV yI)] : List Value).toArray below meth c H locs 0 0 (MQ below (zQv G [(mA 0, .inr (9, [.int (iV mLen), .ref (mA 1), .int (iV mSpot), .ref (mA 2), .ref (mA 3), .ref (mA 4), .int (iV mUn), .int (iV mRr), .int (iV mPit), .int (iV mFar), .ref (mA 5), .ref (mA 6), .ref (mA 7), .ref (mA 8), .int (iV mTm), .ref (mA 9), .ref (mA 10), .ref (mA 11)])), (mA 2, .inl (G.2.1, 249, .inl (fun k => iV (nw k))))] [(mA 0, .inr (9, [.int (iV mLen), .ref (mA 1), .int (iV mSpot), .ref (mA 2), .ref (mA 3), .ref (mA 4), .int (iV mUn), .int (iV mRr), .int (iV mPit), .int (iV mFar), .ref (mA 5), .ref (mA 6), .ref (mA 7), .ref (mA 8), .int (iV mTm), .ref (mA 9), .ref (mA 10), .ref (mA 11)])), (mA 2, .inl (G.2.1, 249, .inl (fun k => iV (mDr nw (9 * yI + xI) k))))] s.heap.size) ([Value.ref (mA 0), Value.int (iV xI), Value.int (iV yI)] : List Value).toArray s 0 0 (va_A [(mA 0, .inr (9, [.int (iV mLen), .ref (mA 1), .int (iV mSpot), .ref (mA 2), .ref (mA 3), .ref (mA 4), .int (iV mUn), .int (iV mRr), .int (iV mPit), .int (iV mFar), .ref (mA 5), .ref (mA 6), .ref (mA 7), .ref (mA 8), .int (iV mTm), .ref (mA 9), .ref (mA 10), .ref (mA 11)])), (mA 2, .inl (G.2.1, 249, .inl (fun k => iV (nw k))))] s.heap.size)) (F0 m 101 ls [.int (iV (bP (¬ (gNext (nw 0) (nw 1) (nG nw) (9 * cy + cx)) = -1 ∧ ¬ (sOff (nw 88) (nL nw) (nCe nw) (gNext (nw 0) (nw 1) (nG nw) (9 * cy + cx))))))]) := by
          intro  H locs hP hD hS ls hl
          refine lv_istore (lv' := [(10, .int (iV (bP (¬ (gNext (nw 0) (nw 1) (nG nw) (9 * cy + cx)) = -1 ∧ ¬ (sOff (nw 88) (nL nw) (nCe nw) (gNext (nw 0) (nw 1) (nG nw) (9 * cy + cx))))))), (0, .ref (mA 0)), (1, .int (iV xI)), (2, .int (iV yI)), (3, .int (iV (nw 88))), (4, .int (iV (89 + (8 * (nw 88))))), (5, .int (iV cx)), (6, .int (iV cy)), (7, .int (iV ((Nat.cast jq : Int) + 1))), (8, .int (iV en)), (9, .int (iV (cNone (gDown (nw 0) (nw 1) (nG nw) cx cy))))]) hx hb dX9_draws_101 hl (by decide) rfl (fun ls hl => ?_)
          refine lv_iload hx hb dX9_draws_103 (lv_at hl 10 rfl) ?_
          refine lv_bipush (v := iV (-4)) hx hb dX9_draws_105 (by decide) ?_
          have jn_135 : ∀ (H : Heap) (locs : List Loc), va_P G.1 vwCl [(mA 0, .inr (9, [.int (iV mLen), .ref (mA 1), .int (iV mSpot), .ref (mA 2), .ref (mA 3), .ref (mA 4), .int (iV mUn), .int (iV mRr), .int (iV mPit), .int (iV mFar), .ref (mA 5), .ref (mA 6), .ref (mA 7), .ref (mA 8), .int (iV mTm), .ref (mA 9), .ref (mA 10), .ref (mA 11)])), (mA 2, .inl (G.2.1, 249, .inl (fun k => iV (sPut nw (89 + 8 * (nw 88).toNat) (jq + 1) (gWk (mNx nw) (9 * yI + xI)) k))))] H → va_D (va_A [(mA 0, .inr (9, [.int (iV mLen), .ref (mA 1), .int (iV mSpot), .ref (mA 2), .ref (mA 3), .ref (mA 4), .int (iV mUn), .int (iV mRr), .int (iV mPit), .int (iV mFar), .ref (mA 5), .ref (mA 6), .ref (mA 7), .ref (mA 8), .int (iV mTm), .ref (mA 9), .ref (mA 10), .ref (mA 11)])), (mA 2, .inl (G.2.1, 249, .inl (fun k => iV (nw k))))] s.heap.size) [(mA 0, .inr (9, [.int (iV mLen), .ref (mA 1), .int (iV mSpot), .ref (mA 2), .ref (mA 3), .ref (mA 4), .int (iV mUn), .int (iV mRr), .int (iV mPit), .int (iV mFar), .ref (mA 5), .ref (mA 6), .ref (mA 7), .ref (mA 8), .int (iV mTm), .ref (mA 9), .ref (mA 10), .ref (mA 11)])), (mA 2, .inl (G.2.1, 249, .inl (fun k => iV (sPut nw (89 + 8 * (nw 88).toNat) (jq + 1) (gWk (mNx nw) (9 * yI + xI)) k))))] → va_S (va_A [(mA 0, .inr (9, [.int (iV mLen), .ref (mA 1), .int (iV mSpot), .ref (mA 2), .ref (mA 3), .ref (mA 4), .int (iV mUn), .int (iV mRr), .int (iV mPit), .int (iV mFar), .ref (mA 5), .ref (mA 6), .ref (mA 7), .ref (mA 8), .int (iV mTm), .ref (mA 9), .ref (mA 10), .ref (mA 11)])), (mA 2, .inl (G.2.1, 249, .inl (fun k => iV (nw k))))] s.heap.size) s.heap H locs → ∀ ls : Array Slot, lv_has ls 11 [(0, .ref (mA 0)), (1, .int (iV xI)), (2, .int (iV yI)), (3, .int (iV (nw 88))), (4, .int (iV (89 + (8 * (nw 88))))), (5, .int (iV cx)), (6, .int (iV cy)), (7, .int (iV ((Nat.cast jq : Int) + 1))), (8, .int (iV en)), (9, .int (iV (cNone (gDown (nw 0) (nw 1) (nG nw) cx cy)))), (10, .int (iV (bP (¬ (gNext (nw 0) (nw 1) (nG nw) (9 * cy + cx)) = -1 ∧ ¬ (sOff (nw 88) (nL nw) (nCe nw) (gNext (nw 0) (nw 1) (nG nw) (9 * cy + cx)))))))] → W p l e (headSpec (Cond.code yX9_draws cX9_draws 11 none :: zT) (zRm 4 96)).room s m ([Value.ref (mA 0), Value.int (iV xI), Value.int (iV yI)] : List Value).toArray below meth c H locs 0 0 (MQ below (zQv G [(mA 0, .inr (9, [.int (iV mLen), .ref (mA 1), .int (iV mSpot), .ref (mA 2), .ref (mA 3), .ref (mA 4), .int (iV mUn), .int (iV mRr), .int (iV mPit), .int (iV mFar), .ref (mA 5), .ref (mA 6), .ref (mA 7), .ref (mA 8), .int (iV mTm), .ref (mA 9), .ref (mA 10), .ref (mA 11)])), (mA 2, .inl (G.2.1, 249, .inl (fun k => iV (nw k))))] [(mA 0, .inr (9, [.int (iV mLen), .ref (mA 1), .int (iV mSpot), .ref (mA 2), .ref (mA 3), .ref (mA 4), .int (iV mUn), .int (iV mRr), .int (iV mPit), .int (iV mFar), .ref (mA 5), .ref (mA 6), .ref (mA 7), .ref (mA 8), .int (iV mTm), .ref (mA 9), .ref (mA 10), .ref (mA 11)])), (mA 2, .inl (G.2.1, 249, .inl (fun k => iV (mDr nw (9 * yI + xI) k))))] s.heap.size) ([Value.ref (mA 0), Value.int (iV xI), Value.int (iV yI)] : List Value).toArray s 0 0 (va_A [(mA 0, .inr (9, [.int (iV mLen), .ref (mA 1), .int (iV mSpot), .ref (mA 2), .ref (mA 3), .ref (mA 4), .int (iV mUn), .int (iV mRr), .int (iV mPit), .int (iV mFar), .ref (mA 5), .ref (mA 6), .ref (mA 7), .ref (mA 8), .int (iV mTm), .ref (mA 9), .ref (mA 10), .ref (mA 11)])), (mA 2, .inl (G.2.1, 249, .inl (fun k => iV (nw k))))] s.heap.size)) (F0 m 135 ls [.int (iV (sEnd (nw 88) (nL nw) (nCe nw) (gNext (nw 0) (nw 1) (nG nw) (9 * cy + cx)) (Nat.cast (jq + 1) : Int)))]) := by
            intro  H locs hP hD hS ls hl
            have hse := sEnd_r (nw 88) (nL nw) (nCe nw) (gNext (nw 0) (nw 1) (nG nw) (9 * cy + cx)) (Nat.cast (jq + 1) : Int)
            refine lv_istore (lv' := [(8, .int (iV (sEnd (nw 88) (nL nw) (nCe nw) (gNext (nw 0) (nw 1) (nG nw) (9 * cy + cx)) (Nat.cast (jq + 1) : Int)))), (0, .ref (mA 0)), (1, .int (iV xI)), (2, .int (iV yI)), (3, .int (iV (nw 88))), (4, .int (iV (89 + (8 * (nw 88))))), (5, .int (iV cx)), (6, .int (iV cy)), (7, .int (iV ((Nat.cast jq : Int) + 1))), (9, .int (iV (cNone (gDown (nw 0) (nw 1) (nG nw) cx cy)))), (10, .int (iV (bP (¬ (gNext (nw 0) (nw 1) (nG nw) (9 * cy + cx)) = -1 ∧ ¬ (sOff (nw 88) (nL nw) (nCe nw) (gNext (nw 0) (nw 1) (nG nw) (9 * cy + cx)))))))]) hx hb dX9_draws_135 hl (by decide) rfl (fun ls hl => ?_)
            refine lv_iload hx hb dX9_draws_137 (lv_at hl 0 rfl) ?_
            refine z_if_ne (tgt := 162) hx hb (by omega) dX9_draws_139 (by decide) (fun c_4 => ?_) (fun c_4 => ?_)
            · refine lv_goto (tgt := 29) hx hb dX9_draws_162 (by decide) ?_
              exact ih_29 (jq + 1) (sEnd (nw 88) (nL nw) (nCe nw) (gNext (nw 0) (nw 1) (nG nw) (9 * cy + cx)) (Nat.cast (jq + 1) : Int)) cx cy (by first | assumption | omega) (hse) (hcs2) (fun h0 => by first | exact absurd h0 (by assumption) | exact ⟨hlo.1, by show gNext (nw 0) (nw 1) (nG nw) ((gWk (mNx nw) (9 * yI + xI)) jq) = _; rw [hcu.2.1, hnx], by have := hs0.2; omega⟩) (by have h9 := hfin.1 (by assumption); rw [sGo_s hcu.2.2] at h9; exact ⟨fun h0 => by first | exact absurd h0 (by assumption) | (rw [if_pos h0] at h9; rw [← hnx]; exact h9), fun h0 => by rw [if_neg h0] at h9; exact h9⟩) (by omega) _ _ hP hD hS _ (lv_cons (lv_at hl 1 rfl) (lv_cons (lv_at hl 2 rfl) (lv_cons (lv_at hl 3 rfl) (lv_cons (lv_at hl 4 rfl) (lv_cons (lv_at hl 5 rfl) (lv_cons (lv_at hl 6 rfl) (lv_cons (lv_at hl 7 rfl) (lv_cons (lv_i hl 8 rfl (by first | rfl | omega)) (lv_cons (lv_at hl 0 rfl) (lv_nil hl))))))))))
            · have hs0 := sEnd_0 (show (sEnd (nw 88) (nL nw) (nCe nw) (gNext (nw 0) (nw 1) (nG nw) (9 * cy + cx)) (Nat.cast (jq + 1) : Int)) = 0 by assumption)
              have hgd : ¬ (gDown (nw 0) (nw 1) (nG nw) cx cy) = -1 := fun q => hs0.1 (gNext_no (by omega) q)
              have hlo := gDown_lo hgd
              have hnx := gNext_xy (g := nG nw) (x := cx) (y := cy) (by omega) hgd
              refine lv_iload hx hb dX9_draws_142 (lv_at hl 6 rfl) ?_
              refine lv_iload hx hb dX9_draws_144 (lv_at hl 9 rfl) ?_
              refine z_eq (z := (gDown (nw 0) (nw 1) (nG nw) cx cy)) (by omega) ?_
              refine z_callS X hP hS hl.1 (c_X9_right l G _ (gDown (nw 0) (nw 1) (nG nw) cx cy) (by first | assumption | omega)) wd_903 kX9_right ⟨rfl, rfl, Nat.le_of_ble_eq_true rfl, Nat.le_of_ble_eq_true rfl⟩ [] rfl rfl rfl (Nat.le_of_ble_eq_true rfl) dX9_draws_146 ⟨Nat.zero_le _, Nat.zero_le _⟩ (fun H locs hP hS => ?_)
              have f_5 := zR_r (gDown (nw 0) (nw 1) (nG nw) cx cy).toNat
              refine z_iadd hx hb dX9_draws_149 ?_
              refine lv_istore (lv' := [(5, .int (iV (cx + (zR (gDown (nw 0) (nw 1) (nG nw) cx cy).toNat)))), (8, .int (iV (sEnd (nw 88) (nL nw) (nCe nw) (gNext (nw 0) (nw 1) (nG nw) (9 * cy + cx)) (Nat.cast (jq + 1) : Int)))), (0, .ref (mA 0)), (1, .int (iV xI)), (2, .int (iV yI)), (3, .int (iV (nw 88))), (4, .int (iV (89 + (8 * (nw 88))))), (6, .int (iV cy)), (7, .int (iV ((Nat.cast jq : Int) + 1))), (9, .int (iV (cNone (gDown (nw 0) (nw 1) (nG nw) cx cy)))), (10, .int (iV (bP (¬ (gNext (nw 0) (nw 1) (nG nw) (9 * cy + cx)) = -1 ∧ ¬ (sOff (nw 88) (nL nw) (nCe nw) (gNext (nw 0) (nw 1) (nG nw) (9 * cy + cx)))))))]) hx hb dX9_draws_150 hl (by decide) rfl (fun ls hl => ?_)
              refine lv_iload hx hb dX9_draws_152 (lv_at hl 7 rfl) ?_
              refine lv_iload hx hb dX9_draws_154 (lv_at hl 9 rfl) ?_
              refine z_eq (z := (gDown (nw 0) (nw 1) (nG nw) cx cy)) (by omega) ?_
              refine z_callS X hP hS hl.1 (c_X9_below l G _ (gDown (nw 0) (nw 1) (nG nw) cx cy) (by first | assumption | omega)) wd_906 kX9_below ⟨rfl, rfl, Nat.le_of_ble_eq_true rfl, Nat.le_of_ble_eq_true rfl⟩ [] rfl rfl rfl (Nat.le_of_ble_eq_true rfl) dX9_draws_156 ⟨Nat.zero_le _, Nat.zero_le _⟩ (fun H locs hP hS => ?_)
              have f_6 := zB_r (gDown (nw 0) (nw 1) (nG nw) cx cy).toNat
              refine z_iadd hx hb dX9_draws_159 ?_
              refine lv_istore (lv' := [(6, .int (iV (cy + (zB (gDown (nw 0) (nw 1) (nG nw) cx cy).toNat)))), (5, .int (iV (cx + (zR (gDown (nw 0) (nw 1) (nG nw) cx cy).toNat)))), (8, .int (iV (sEnd (nw 88) (nL nw) (nCe nw) (gNext (nw 0) (nw 1) (nG nw) (9 * cy + cx)) (Nat.cast (jq + 1) : Int)))), (0, .ref (mA 0)), (1, .int (iV xI)), (2, .int (iV yI)), (3, .int (iV (nw 88))), (4, .int (iV (89 + (8 * (nw 88))))), (7, .int (iV ((Nat.cast jq : Int) + 1))), (9, .int (iV (cNone (gDown (nw 0) (nw 1) (nG nw) cx cy)))), (10, .int (iV (bP (¬ (gNext (nw 0) (nw 1) (nG nw) (9 * cy + cx)) = -1 ∧ ¬ (sOff (nw 88) (nL nw) (nCe nw) (gNext (nw 0) (nw 1) (nG nw) (9 * cy + cx)))))))]) hx hb dX9_draws_160 hl (by decide) rfl (fun ls hl => ?_)
              refine lv_goto (tgt := 29) hx hb dX9_draws_162 (by decide) ?_
              exact ih_29 (jq + 1) (sEnd (nw 88) (nL nw) (nCe nw) (gNext (nw 0) (nw 1) (nG nw) (9 * cy + cx)) (Nat.cast (jq + 1) : Int)) (cx + (zR (gDown (nw 0) (nw 1) (nG nw) cx cy).toNat)) (cy + (zB (gDown (nw 0) (nw 1) (nG nw) cx cy).toNat)) (by first | assumption | omega) (hse) (hcs2) (fun h0 => by first | exact absurd h0 (by assumption) | exact ⟨hlo.1, by show gNext (nw 0) (nw 1) (nG nw) ((gWk (mNx nw) (9 * yI + xI)) jq) = _; rw [hcu.2.1, hnx], by have := hs0.2; omega⟩) (by have h9 := hfin.1 (by assumption); rw [sGo_s hcu.2.2] at h9; exact ⟨fun h0 => by first | exact absurd h0 (by assumption) | (rw [if_pos h0] at h9; rw [← hnx]; exact h9), fun h0 => by rw [if_neg h0] at h9; exact h9⟩) (by omega) _ _ hP hD hS _ (lv_cons (lv_at hl 3 rfl) (lv_cons (lv_at hl 4 rfl) (lv_cons (lv_at hl 5 rfl) (lv_cons (lv_at hl 6 rfl) (lv_cons (lv_at hl 7 rfl) (lv_cons (lv_at hl 1 rfl) (lv_cons (lv_at hl 0 rfl) (lv_cons (lv_i hl 8 rfl (by first | rfl | omega)) (lv_cons (lv_at hl 2 rfl) (lv_nil hl))))))))))
          refine z_icmp_ne (tgt := 114) hx hb (by omega) ⟨by decide, by decide⟩ dX9_draws_107 (by decide) (fun c_7 => ?_) (fun c_7 => ?_)
          · refine lv_iload hx hb dX9_draws_114 (lv_at hl 0 rfl) ?_
            refine z_ifb_eq (tgt := 123) hx hb dX9_draws_116 (by decide) (fun c_8 => ?_) (fun c_8 => ?_)
            · have hgd : ¬ (gDown (nw 0) (nw 1) (nG nw) cx cy) = -1 := by omega
              have hnn := gNext_nn (x := cx) (y := cy) hG (by omega) hgd
              have hso : (sOff (nw 88) (nL nw) (nCe nw) (gNext (nw 0) (nw 1) (nG nw) (9 * cy + cx))) := Classical.byContradiction (fun q => absurd (And.intro hnn q) (by assumption))
              refine lv_iload hx hb dX9_draws_123 (lv_at hl 8 rfl) ?_
              refine lv_bipush (v := iV 6) hx hb dX9_draws_125 (by decide) ?_
              refine z_icmp_ne (tgt := 134) hx hb (by omega) ⟨by decide, by decide⟩ dX9_draws_127 (by decide) (fun c_9 => ?_) (fun c_9 => ?_)
              · refine lv_iconst (v := iV 0) hx hb dX9_draws_134 (by decide) ?_
                refine z_eq (z := (sEnd (nw 88) (nL nw) (nCe nw) (gNext (nw 0) (nw 1) (nG nw) (9 * cy + cx)) (Nat.cast (jq + 1) : Int))) (by unfold sEnd; first | rw [if_pos (gNext_no (by omega) (by omega))] | (rw [if_neg hs2.1, if_pos (bP_f hs2.2)]; done) | (rw [if_neg hnn, if_neg (by rw [bP_t hso]; omega), if_pos (by omega)]; done) | (rw [if_neg hnn, if_neg (by rw [bP_t hso]; omega), if_neg (by omega)]; done)) ?_
                exact jn_135  _ _ hP hD hS _ (lv_cons (lv_at hl 1 rfl) (lv_cons (lv_at hl 2 rfl) (lv_cons (lv_at hl 3 rfl) (lv_cons (lv_at hl 4 rfl) (lv_cons (lv_at hl 5 rfl) (lv_cons (lv_at hl 6 rfl) (lv_cons (lv_at hl 7 rfl) (lv_cons (lv_at hl 8 rfl) (lv_cons (lv_at hl 9 rfl) (lv_cons (lv_at hl 10 rfl) (lv_cons (lv_at hl 0 rfl) (lv_nil hl))))))))))))
              · refine lv_iconst (v := iV 3) hx hb dX9_draws_130 (by decide) ?_
                refine lv_goto (tgt := 135) hx hb dX9_draws_131 (by decide) ?_
                refine z_eq (z := (sEnd (nw 88) (nL nw) (nCe nw) (gNext (nw 0) (nw 1) (nG nw) (9 * cy + cx)) (Nat.cast (jq + 1) : Int))) (by unfold sEnd; first | rw [if_pos (gNext_no (by omega) (by omega))] | (rw [if_neg hs2.1, if_pos (bP_f hs2.2)]; done) | (rw [if_neg hnn, if_neg (by rw [bP_t hso]; omega), if_pos (by omega)]; done) | (rw [if_neg hnn, if_neg (by rw [bP_t hso]; omega), if_neg (by omega)]; done)) ?_
                exact jn_135  _ _ hP hD hS _ (lv_cons (lv_at hl 1 rfl) (lv_cons (lv_at hl 2 rfl) (lv_cons (lv_at hl 3 rfl) (lv_cons (lv_at hl 4 rfl) (lv_cons (lv_at hl 5 rfl) (lv_cons (lv_at hl 6 rfl) (lv_cons (lv_at hl 7 rfl) (lv_cons (lv_at hl 8 rfl) (lv_cons (lv_at hl 9 rfl) (lv_cons (lv_at hl 10 rfl) (lv_cons (lv_at hl 0 rfl) (lv_nil hl))))))))))))
            · have hs2 : ¬ (gNext (nw 0) (nw 1) (nG nw) (9 * cy + cx)) = -1 ∧ ¬ (sOff (nw 88) (nL nw) (nCe nw) (gNext (nw 0) (nw 1) (nG nw) (9 * cy + cx))) := by assumption
              refine lv_iconst (v := iV 2) hx hb dX9_draws_119 (by decide) ?_
              refine lv_goto (tgt := 135) hx hb dX9_draws_120 (by decide) ?_
              refine z_eq (z := (sEnd (nw 88) (nL nw) (nCe nw) (gNext (nw 0) (nw 1) (nG nw) (9 * cy + cx)) (Nat.cast (jq + 1) : Int))) (by unfold sEnd; first | rw [if_pos (gNext_no (by omega) (by omega))] | (rw [if_neg hs2.1, if_pos (bP_f hs2.2)]; done) | (rw [if_neg hnn, if_neg (by rw [bP_t hso]; omega), if_pos (by omega)]; done) | (rw [if_neg hnn, if_neg (by rw [bP_t hso]; omega), if_neg (by omega)]; done)) ?_
              exact jn_135  _ _ hP hD hS _ (lv_cons (lv_at hl 1 rfl) (lv_cons (lv_at hl 2 rfl) (lv_cons (lv_at hl 3 rfl) (lv_cons (lv_at hl 4 rfl) (lv_cons (lv_at hl 5 rfl) (lv_cons (lv_at hl 6 rfl) (lv_cons (lv_at hl 7 rfl) (lv_cons (lv_at hl 8 rfl) (lv_cons (lv_at hl 9 rfl) (lv_cons (lv_at hl 10 rfl) (lv_cons (lv_at hl 0 rfl) (lv_nil hl))))))))))))
          · refine lv_iconst (v := iV 1) hx hb dX9_draws_110 (by decide) ?_
            refine lv_goto (tgt := 135) hx hb dX9_draws_111 (by decide) ?_
            refine z_eq (z := (sEnd (nw 88) (nL nw) (nCe nw) (gNext (nw 0) (nw 1) (nG nw) (9 * cy + cx)) (Nat.cast (jq + 1) : Int))) (by unfold sEnd; first | rw [if_pos (gNext_no (by omega) (by omega))] | (rw [if_neg hs2.1, if_pos (bP_f hs2.2)]; done) | (rw [if_neg hnn, if_neg (by rw [bP_t hso]; omega), if_pos (by omega)]; done) | (rw [if_neg hnn, if_neg (by rw [bP_t hso]; omega), if_neg (by omega)]; done)) ?_
            exact jn_135  _ _ hP hD hS _ (lv_cons (lv_at hl 1 rfl) (lv_cons (lv_at hl 2 rfl) (lv_cons (lv_at hl 3 rfl) (lv_cons (lv_at hl 4 rfl) (lv_cons (lv_at hl 5 rfl) (lv_cons (lv_at hl 6 rfl) (lv_cons (lv_at hl 7 rfl) (lv_cons (lv_at hl 8 rfl) (lv_cons (lv_at hl 9 rfl) (lv_cons (lv_at hl 10 rfl) (lv_cons (lv_at hl 0 rfl) (lv_nil hl))))))))))))
        refine z_icmp_eq (tgt := 100) hx hb (by omega) ⟨by decide, by decide⟩ dX9_draws_69 (by decide) (fun c_10 => ?_) (fun c_10 => ?_)
        · refine lv_iconst (v := iV 0) hx hb dX9_draws_100 (by decide) ?_
          refine z_eq (z := bP (¬ (gNext (nw 0) (nw 1) (nG nw) (9 * cy + cx)) = -1 ∧ ¬ (sOff (nw 88) (nL nw) (nCe nw) (gNext (nw 0) (nw 1) (nG nw) (9 * cy + cx))))) (by first | exact (bP_t ⟨hnn, by assumption⟩).symm | exact (bP_f (fun q => q.2 (by assumption))).symm | exact (bP_f (fun q => q.1 (gNext_no (by omega) (by omega)))).symm) ?_
          exact jn_101  _ _ hP hD hS _ (lv_cons (lv_at hl 2 rfl) (lv_cons (lv_at hl 3 rfl) (lv_cons (lv_at hl 4 rfl) (lv_cons (lv_at hl 5 rfl) (lv_cons (lv_at hl 6 rfl) (lv_cons (lv_at hl 7 rfl) (lv_cons (lv_at hl 8 rfl) (lv_cons (lv_at hl 1 rfl) (lv_cons (lv_at hl 9 rfl) (lv_cons (lv_at hl 0 rfl) (lv_nil hl)))))))))))
        · have hgd : ¬ (gDown (nw 0) (nw 1) (nG nw) cx cy) = -1 := by omega
          have hlo := gDown_lo hgd
          have hnx := gNext_xy (g := nG nw) (x := cx) (y := cy) (by omega) hgd
          have hnn := gNext_nn (x := cx) (y := cy) hG (by omega) hgd
          refine lv_aload_n hx hb dX9_draws_72 rfl (lv_at hl 2 rfl) ?_
          refine lv_iload hx hb dX9_draws_73 (lv_at hl 7 rfl) ?_
          refine lv_iload hx hb dX9_draws_75 (lv_at hl 0 rfl) ?_
          refine z_eq (z := (gDown (nw 0) (nw 1) (nG nw) cx cy)) (by omega) ?_
          refine z_callS X hP hS hl.1 (c_X9_right l G _ (gDown (nw 0) (nw 1) (nG nw) cx cy) (by first | assumption | omega)) wd_903 kX9_right ⟨rfl, rfl, Nat.le_of_ble_eq_true rfl, Nat.le_of_ble_eq_true rfl⟩ [] rfl rfl rfl (Nat.le_of_ble_eq_true rfl) dX9_draws_77 ⟨Nat.zero_le _, Nat.zero_le _⟩ (fun H locs hP hS => ?_)
          have f_11 := zR_r (gDown (nw 0) (nw 1) (nG nw) cx cy).toNat
          refine z_iadd hx hb dX9_draws_80 ?_
          refine lv_iload hx hb dX9_draws_81 (lv_at hl 8 rfl) ?_
          refine lv_iload hx hb dX9_draws_83 (lv_at hl 0 rfl) ?_
          refine z_eq (z := (gDown (nw 0) (nw 1) (nG nw) cx cy)) (by omega) ?_
          refine z_callS X hP hS hl.1 (c_X9_below l G _ (gDown (nw 0) (nw 1) (nG nw) cx cy) (by first | assumption | omega)) wd_906 kX9_below ⟨rfl, rfl, Nat.le_of_ble_eq_true rfl, Nat.le_of_ble_eq_true rfl⟩ [] rfl rfl rfl (Nat.le_of_ble_eq_true rfl) dX9_draws_85 ⟨Nat.zero_le _, Nat.zero_le _⟩ (fun H locs hP hS => ?_)
          have f_12 := zB_r (gDown (nw 0) (nw 1) (nG nw) cx cy).toNat
          refine z_iadd hx hb dX9_draws_88 ?_
          refine lv_iload_n hx hb dX9_draws_89 rfl (lv_at hl 5 rfl) ?_
          refine z_callV X hP hS hl.1 (c_X9_isOff l G _ mA mLen mSpot mUn mRr mPit mFar mTm (sPut nw (89 + 8 * (nw 88).toNat) (jq + 1) (gWk (mNx nw) (9 * yI + xI))) (cx + (zR (gDown (nw 0) (nw 1) (nG nw) cx cy).toNat)) (cy + (zB (gDown (nw 0) (nw 1) (nG nw) cx cy).toNat)) (nw 88) (hMv) (by first | assumption | omega) (by first | assumption | omega)) wd_1025 kX9_isOff ⟨rfl, rfl, Nat.le_of_ble_eq_true rfl, Nat.le_of_ble_eq_true rfl⟩ [0, 1] rfl 0 rfl rfl rfl rfl (Nat.le_of_ble_eq_true rfl) dX9_draws_90 ⟨Nat.zero_le _, Nat.zero_le _⟩ (fun H locs hP hS => ?_)
          refine z_eq (z := bP (sOff (nw 88) (nL nw) (nCe nw) (gNext (nw 0) (nw 1) (nG nw) (9 * cy + cx)))) (by rw [hnx]; exact bP_c (mP_off (by omega) (fun k => (hnL k).2))) ?_
          refine z_ifb_ne (tgt := 100) hx hb dX9_draws_93 (by decide) (fun c_13 => ?_) (fun c_13 => ?_)
          · refine lv_iconst (v := iV 0) hx hb dX9_draws_100 (by decide) ?_
            refine z_eq (z := bP (¬ (gNext (nw 0) (nw 1) (nG nw) (9 * cy + cx)) = -1 ∧ ¬ (sOff (nw 88) (nL nw) (nCe nw) (gNext (nw 0) (nw 1) (nG nw) (9 * cy + cx))))) (by first | exact (bP_t ⟨hnn, by assumption⟩).symm | exact (bP_f (fun q => q.2 (by assumption))).symm | exact (bP_f (fun q => q.1 (gNext_no (by omega) (by omega)))).symm) ?_
            exact jn_101  _ _ hP hD hS _ (lv_cons (lv_at hl 2 rfl) (lv_cons (lv_at hl 3 rfl) (lv_cons (lv_at hl 4 rfl) (lv_cons (lv_at hl 5 rfl) (lv_cons (lv_at hl 6 rfl) (lv_cons (lv_at hl 7 rfl) (lv_cons (lv_at hl 8 rfl) (lv_cons (lv_at hl 1 rfl) (lv_cons (lv_at hl 9 rfl) (lv_cons (lv_at hl 0 rfl) (lv_nil hl)))))))))))
          · refine lv_iconst (v := iV 1) hx hb dX9_draws_96 (by decide) ?_
            refine lv_goto (tgt := 101) hx hb dX9_draws_97 (by decide) ?_
            refine z_eq (z := bP (¬ (gNext (nw 0) (nw 1) (nG nw) (9 * cy + cx)) = -1 ∧ ¬ (sOff (nw 88) (nL nw) (nCe nw) (gNext (nw 0) (nw 1) (nG nw) (9 * cy + cx))))) (by first | exact (bP_t ⟨hnn, by assumption⟩).symm | exact (bP_f (fun q => q.2 (by assumption))).symm | exact (bP_f (fun q => q.1 (gNext_no (by omega) (by omega)))).symm) ?_
            exact jn_101  _ _ hP hD hS _ (lv_cons (lv_at hl 2 rfl) (lv_cons (lv_at hl 3 rfl) (lv_cons (lv_at hl 4 rfl) (lv_cons (lv_at hl 5 rfl) (lv_cons (lv_at hl 6 rfl) (lv_cons (lv_at hl 7 rfl) (lv_cons (lv_at hl 8 rfl) (lv_cons (lv_at hl 1 rfl) (lv_cons (lv_at hl 9 rfl) (lv_cons (lv_at hl 0 rfl) (lv_nil hl)))))))))))
  have hP : va_P G.1 vwCl [(mA 0, .inr (9, [.int (iV mLen), .ref (mA 1), .int (iV mSpot), .ref (mA 2), .ref (mA 3), .ref (mA 4), .int (iV mUn), .int (iV mRr), .int (iV mPit), .int (iV mFar), .ref (mA 5), .ref (mA 6), .ref (mA 7), .ref (mA 8), .int (iV mTm), .ref (mA 9), .ref (mA 10), .ref (mA 11)])), (mA 2, .inl (G.2.1, 249, .inl (fun k => iV (sPut nw (89 + 8 * (nw 88).toNat) 0 (gWk (mNx nw) (9 * yI + xI)) k))))] _ := z_castP (by rw [sPut_0]) hP
  have hD : va_D _ [(mA 0, .inr (9, [.int (iV mLen), .ref (mA 1), .int (iV mSpot), .ref (mA 2), .ref (mA 3), .ref (mA 4), .int (iV mUn), .int (iV mRr), .int (iV mPit), .int (iV mFar), .ref (mA 5), .ref (mA 6), .ref (mA 7), .ref (mA 8), .int (iV mTm), .ref (mA 9), .ref (mA 10), .ref (mA 11)])), (mA 2, .inl (G.2.1, 249, .inl (fun k => iV (sPut nw (89 + 8 * (nw 88).toNat) 0 (gWk (mNx nw) (9 * yI + xI)) k))))] := z_castD (by rw [sPut_0]) hD
  exact lp_29 _ 0 0 xI yI (by first | assumption | omega) (by omega) (fun i hi => absurd hi (Nat.not_lt_zero i)) (fun _ => ⟨hcel, rfl, by omega⟩) (⟨fun _ => rfl, fun h => absurd rfl h⟩) (Nat.lt_succ_self _) _ _ hP hD hS _ (lv_cons (lv_at hl 6 rfl) (lv_cons (lv_at hl 7 rfl) (lv_cons (lv_at hl 8 rfl) (lv_cons (lv_at hl 5 rfl) (lv_cons (lv_at hl 4 rfl) (lv_cons (lv_at hl 3 rfl) (lv_cons (lv_at hl 2 rfl) (lv_cons (lv_i hl 1 rfl (by first | rfl | omega)) (lv_cons (lv_at hl 0 rfl) (lv_nil hl))))))))))

set_option maxHeartbeats 4000000 in
set_option maxRecDepth 100000 in
theorem c_X9_draw (l : Launch) (G : zG) (sz : Nat) (mA : Nat → Nat) (mLen : Int) (mSpot : Int) (mUn : Int) (mRr : Int) (mPit : Int) (mFar : Int) (mTm : Int) (nw : Nat → Int) (bf : Nat → Int) (xI : Int) (yI : Int) (hun : 0 ≤ mUn ∧ mUn ≤ 6) (hM : mOK nw) (hrxI : iR xI) (hryI : iR yI) : Met l yX9_draw (Cond.code yX9_draw cX9_draw 3 (some .int) :: zT) (zRm 5 126) (zPw G [.ref (mA 0), .int (iV xI), .int (iV yI)] [(mA 0, .inr (9, [.int (iV mLen), .ref (mA 1), .int (iV mSpot), .ref (mA 2), .ref (mA 3), .ref (mA 4), .int (iV mUn), .int (iV mRr), .int (iV mPit), .int (iV mFar), .ref (mA 5), .ref (mA 6), .ref (mA 7), .ref (mA 8), .int (iV mTm), .ref (mA 9), .ref (mA 10), .ref (mA 11)])), (mA 2, .inl (G.2.1, 249, .inl (fun k => iV (nw k)))), (mA 4, .inl (G.2.1, 1494, .inl (fun k => iV (bf k))))] sz) (zQw G ((mDw mUn bf nw xI yI).1) [(mA 0, .inr (9, [.int (iV mLen), .ref (mA 1), .int (iV mSpot), .ref (mA 2), .ref (mA 3), .ref (mA 4), .int (iV mUn), .int (iV mRr), .int (iV mPit), .int (iV mFar), .ref (mA 5), .ref (mA 6), .ref (mA 7), .ref (mA 8), .int (iV mTm), .ref (mA 9), .ref (mA 10), .ref (mA 11)])), (mA 2, .inl (G.2.1, 249, .inl (fun k => iV (nw k)))), (mA 4, .inl (G.2.1, 1494, .inl (fun k => iV (bf k))))] [(mA 0, .inr (9, [.int (iV mLen), .ref (mA 1), .int (iV mSpot), .ref (mA 2), .ref (mA 3), .ref (mA 4), .int (iV ((mDw mUn bf nw xI yI).2.1)), .int (iV mRr), .int (iV mPit), .int (iV mFar), .ref (mA 5), .ref (mA 6), .ref (mA 7), .ref (mA 8), .int (iV mTm), .ref (mA 9), .ref (mA 10), .ref (mA 11)])), (mA 2, .inl (G.2.1, 249, .inl (fun k => iV ((mDw mUn bf nw xI yI).2.2.2 k)))), (mA 4, .inl (G.2.1, 1494, .inl (fun k => iV ((mDw mUn bf nw xI yI).2.2.1 k))))] sz) 0 0 (va_A [(mA 0, .inr (9, [.int (iV mLen), .ref (mA 1), .int (iV mSpot), .ref (mA 2), .ref (mA 3), .ref (mA 4), .int (iV mUn), .int (iV mRr), .int (iV mPit), .int (iV mFar), .ref (mA 5), .ref (mA 6), .ref (mA 7), .ref (mA 8), .int (iV mTm), .ref (mA 9), .ref (mA 10), .ref (mA 11)])), (mA 2, .inl (G.2.1, 249, .inl (fun k => iV (nw k)))), (mA 4, .inl (G.2.1, 1494, .inl (fun k => iV (bf k))))] sz) := by
  refine Met.ofW (cc := cX9_draw) (maxL := 3) (ret := (some .int)) (by decide) rfl ?_
  intro p e s m args below meth c s₁ B hml hv
  obtain ⟨rfl, hsz, hP, hK, hSt, hD0⟩ := hv
  have hx := B.exec
  have hb := B.bytes
  have hr := B.returns
  have hts : ∀ w ∈ zT, w.before _ s = true := fun w h => atoms_spec (ws := (Cond.code yX9_draw cX9_draw 3 (some .int) :: zT)) B.pre w (List.mem_cons_of_mem _ h)
  have hown : s.vm.findClass RX9 = some m.cls := findClass_of_methodNamed B.named
  have hlocks := B.notSynchronized
  subst hsz
  have hD : va_D (va_A [(mA 0, .inr (9, [.int (iV mLen), .ref (mA 1), .int (iV mSpot), .ref (mA 2), .ref (mA 3), .ref (mA 4), .int (iV mUn), .int (iV mRr), .int (iV mPit), .int (iV mFar), .ref (mA 5), .ref (mA 6), .ref (mA 7), .ref (mA 8), .int (iV mTm), .ref (mA 9), .ref (mA 10), .ref (mA 11)])), (mA 2, .inl (G.2.1, 249, .inl (fun k => iV (nw k)))), (mA 4, .inl (G.2.1, 1494, .inl (fun k => iV (bf k))))] s.heap.size) [(mA 0, .inr (9, [.int (iV mLen), .ref (mA 1), .int (iV mSpot), .ref (mA 2), .ref (mA 3), .ref (mA 4), .int (iV mUn), .int (iV mRr), .int (iV mPit), .int (iV mFar), .ref (mA 5), .ref (mA 6), .ref (mA 7), .ref (mA 8), .int (iV mTm), .ref (mA 9), .ref (mA 10), .ref (mA 11)])), (mA 2, .inl (G.2.1, 249, .inl (fun k => iV (nw k)))), (mA 4, .inl (G.2.1, 1494, .inl (fun k => iV (bf k))))] := hD0.self
  have hA : ∀ q : Nat, s.heap.size ≤ q → va_A [(mA 0, .inr (9, [.int (iV mLen), .ref (mA 1), .int (iV mSpot), .ref (mA 2), .ref (mA 3), .ref (mA 4), .int (iV mUn), .int (iV mRr), .int (iV mPit), .int (iV mFar), .ref (mA 5), .ref (mA 6), .ref (mA 7), .ref (mA 8), .int (iV mTm), .ref (mA 9), .ref (mA 10), .ref (mA 11)])), (mA 2, .inl (G.2.1, 249, .inl (fun k => iV (nw k)))), (mA 4, .inl (G.2.1, 1494, .inl (fun k => iV (bf k))))] s.heap.size q := fun q h => Or.inr h
  have hS : va_S (va_A [(mA 0, .inr (9, [.int (iV mLen), .ref (mA 1), .int (iV mSpot), .ref (mA 2), .ref (mA 3), .ref (mA 4), .int (iV mUn), .int (iV mRr), .int (iV mPit), .int (iV mFar), .ref (mA 5), .ref (mA 6), .ref (mA 7), .ref (mA 8), .int (iV mTm), .ref (mA 9), .ref (mA 10), .ref (mA 11)])), (mA 2, .inl (G.2.1, 249, .inl (fun k => iV (nw k)))), (mA 4, .inl (G.2.1, 1494, .inl (fun k => iV (bf k))))] s.heap.size) s.heap s.heap [] := va_S.rf
  have hP : va_P G.1 vwCl [(mA 0, .inr (9, [.int (iV mLen), .ref (mA 1), .int (iV mSpot), .ref (mA 2), .ref (mA 3), .ref (mA 4), .int (iV mUn), .int (iV mRr), .int (iV mPit), .int (iV mFar), .ref (mA 5), .ref (mA 6), .ref (mA 7), .ref (mA 8), .int (iV mTm), .ref (mA 9), .ref (mA 10), .ref (mA 11)])), (mA 2, .inl (G.2.1, 249, .inl (fun k => iV (nw k)))), (mA 4, .inl (G.2.1, 1494, .inl (fun k => iV (bf k))))] s.heap := hP
  have X := And.intro hx (And.intro hb (And.intro hml (And.intro hown (And.intro hts (And.intro hK (And.intro hSt hA))))))
  have hl := lv_entry ([.ref (mA 0), .int (iV xI), .int (iV yI)]) (n := 3) (Nat.le_of_ble_eq_true rfl)
  rw [lg_entry_eq]
  generalize (lg_sl ([.ref (mA 0), .int (iV xI), .int (iV yI)]) ++ List.replicate (3 - (lg_sl ([.ref (mA 0), .int (iV xI), .int (iV yI)])).length) Slot.unset).toArray = ls at hl ⊢
  have hl : lv_has ls 3 [(0, .ref (mA 0)), (1, .int (iV xI)), (2, .int (iV yI))] := hl
  obtain ⟨hG, hWH3, hn88, hnL, hnQ, hn6, hn80⟩ := id hM
  obtain ⟨hW0, hW9, hH0, hH9, hg⟩ := id hG
  refine lv_aload_n hx hb dX9_draw_0 rfl (lv_at hl 0 rfl) ?_
  refine lv_iload_n hx hb dX9_draw_1 rfl (lv_at hl 1 rfl) ?_
  refine lv_iload_n hx hb dX9_draw_2 rfl (lv_at hl 2 rfl) ?_
  refine z_callV X hP hS hl.1 (c_X9_isCell l G _ mA mLen mSpot mUn mRr mPit mFar mTm nw xI yI (by first | assumption | omega) (by first | assumption | omega) (by first | assumption | omega)) wd_875 kX9_isCell ⟨rfl, rfl, Nat.le_of_ble_eq_true rfl, Nat.le_of_ble_eq_true rfl⟩ [0, 1] rfl 0 rfl rfl rfl rfl (Nat.le_of_ble_eq_true rfl) dX9_draw_3 ⟨Nat.zero_le _, Nat.zero_le _⟩ (fun H locs hP hS => ?_)
  refine z_ifb_ne (tgt := 11) hx hb dX9_draw_6 (by decide) (fun c_1 => ?_) (fun c_1 => ?_)
  · refine lv_aload_n hx hb dX9_draw_11 rfl (lv_at hl 0 rfl) ?_
    refine lv_iload_n hx hb dX9_draw_12 rfl (lv_at hl 1 rfl) ?_
    refine lv_iload_n hx hb dX9_draw_13 rfl (lv_at hl 2 rfl) ?_
    refine z_callV X hP hS hl.1 (c_X9_whyNot l G _ mA mLen mSpot mUn mRr mPit mFar mTm nw xI yI (by first | assumption | omega) (by first | assumption | omega)) wd_1021 kX9_whyNot ⟨rfl, rfl, Nat.le_of_ble_eq_true rfl, Nat.le_of_ble_eq_true rfl⟩ [0, 1] rfl 0 rfl rfl rfl rfl (Nat.le_of_ble_eq_true rfl) dX9_draw_14 ⟨Nat.zero_le _, Nat.zero_le _⟩ (fun H locs hP hS => ?_)
    have f_2 := mWhy_r nw (9 * yI + xI)
    refine z_if_le (tgt := 23) hx hb (by omega) dX9_draw_17 (by decide) (fun c_3 => ?_) (fun c_3 => ?_)
    · refine lv_aload_n hx hb dX9_draw_23 rfl (lv_at hl 0 rfl) ?_
      refine va_get (D := G.1) (ci := 9) (v := .ref (mA 2)) (C := RX9) (T := TX9) (N := 18) hx hb hts inX9 hown hK hP 0 rfl rfl 3 (by decide) (hts _ wd_761) (fun _ h9 => h9) rfl dX9_draw_24 ?_
      refine lv_bipush (v := iV 88) hx hb dX9_draw_27 (by decide) ?_
      refine z_iald (G := G) (f := nw) hx hb hK hP 1 rfl (by omega) (by omega) (by decide) dX9_draw_29 ?_
      refine z_eq (z := (nw 88)) (by rfl) ?_
      refine lv_bipush (v := iV 20) hx hb dX9_draw_30 (by decide) ?_
      refine z_icmp_ne (tgt := 38) hx hb (by omega) ⟨by decide, by decide⟩ dX9_draw_32 (by decide) (fun c_4 => ?_) (fun c_4 => ?_)
      · refine lv_aload_n hx hb dX9_draw_38 rfl (lv_at hl 0 rfl) ?_
        refine z_callVwv (w2 := [(mA 0, .inr (9, [.int (iV mLen), .ref (mA 1), .int (iV mSpot), .ref (mA 2), .ref (mA 3), .ref (mA 4), .int (iV ((mNt mUn bf nw).1)), .int (iV mRr), .int (iV mPit), .int (iV mFar), .ref (mA 5), .ref (mA 6), .ref (mA 7), .ref (mA 8), .int (iV mTm), .ref (mA 9), .ref (mA 10), .ref (mA 11)])), (mA 2, .inl (G.2.1, 249, .inl (fun k => iV (nw k)))), (mA 4, .inl (G.2.1, 1494, .inl (fun k => iV ((mNt mUn bf nw).2 k))))]) X hP hD hS hl.1 (c_X9_note l G _ mA mLen mSpot mUn mRr mPit mFar mTm nw bf (by first | assumption | omega)) wd_861 kX9_note ⟨rfl, rfl, Nat.le_of_ble_eq_true rfl, Nat.le_of_ble_eq_true rfl⟩ [0, 1, 2] [] rfl rfl rfl ⟨rfl, rfl⟩ rfl (by decide) 0 rfl rfl rfl rfl (Nat.le_of_ble_eq_true rfl) dX9_draw_39 ⟨Nat.zero_le _, Nat.zero_le _⟩ (fun H locs hP hD hS => ?_)
        refine lv_aload_n hx hb dX9_draw_42 rfl (lv_at hl 0 rfl) ?_
        refine lv_iload_n hx hb dX9_draw_43 rfl (lv_at hl 1 rfl) ?_
        refine lv_iload_n hx hb dX9_draw_44 rfl (lv_at hl 2 rfl) ?_
        refine z_callVwv (w2 := [(mA 0, .inr (9, [.int (iV mLen), .ref (mA 1), .int (iV mSpot), .ref (mA 2), .ref (mA 3), .ref (mA 4), .int (iV ((mNt mUn bf nw).1)), .int (iV mRr), .int (iV mPit), .int (iV mFar), .ref (mA 5), .ref (mA 6), .ref (mA 7), .ref (mA 8), .int (iV mTm), .ref (mA 9), .ref (mA 10), .ref (mA 11)])), (mA 2, .inl (G.2.1, 249, .inl (fun k => iV (mDr nw (9 * yI + xI) k)))), (mA 4, .inl (G.2.1, 1494, .inl (fun k => iV ((mNt mUn bf nw).2 k))))]) X hP hD hS hl.1 (c_X9_draws l G _ mA mLen mSpot ((mNt mUn bf nw).1) mRr mPit mFar mTm nw xI yI (by first | assumption | omega) (by first | assumption | omega) (by first | assumption | omega)) wd_1033 kX9_draws ⟨rfl, rfl, Nat.le_of_ble_eq_true rfl, Nat.le_of_ble_eq_true rfl⟩ [0, 1] [2] rfl rfl rfl ⟨rfl, rfl⟩ rfl (by decide) 0 rfl rfl rfl rfl (Nat.le_of_ble_eq_true rfl) dX9_draw_45 ⟨Nat.zero_le _, Nat.zero_le _⟩ (fun H locs hP hD hS => ?_)
        refine lv_aload_n hx hb dX9_draw_48 rfl (lv_at hl 0 rfl) ?_
        refine va_get (D := G.1) (ci := 9) (v := .ref (mA 2)) (C := RX9) (T := TX9) (N := 18) hx hb hts inX9 hown hK hP 0 rfl rfl 3 (by decide) (hts _ wd_761) (fun _ h9 => h9) rfl dX9_draw_49 ?_
        refine lv_bipush (v := iV 88) hx hb dX9_draw_52 (by decide) ?_
        refine z_iald (G := G) (f := mDr nw (9 * yI + xI)) hx hb hK hP 1 rfl (by omega) (by omega) (by decide) dX9_draw_54 ?_
        refine z_eq (z := (mDr nw (9 * yI + xI) 88)) (by rfl) ?_
        refine z_eq (z := (nw 88 + 1)) (by exact mDr_88 nw _) ?_
        refine lv_iconst (v := iV 1) hx hb dX9_draw_55 (by decide) ?_
        refine z_isub hx hb dX9_draw_56 ?_
        refine z_eq (z := (mDw mUn bf nw xI yI).1) (by first | (rw [mDw_b (by assumption)]; done) | (rw [mDw_n (by assumption) (by omega)]; done) | (rw [mDw_f (by assumption) (by omega) (by assumption)]; done) | (rw [mDw_k (by assumption) (by omega) (by assumption)]; done)) ?_
        have hP : va_P G.1 vwCl [(mA 0, .inr (9, [.int (iV mLen), .ref (mA 1), .int (iV mSpot), .ref (mA 2), .ref (mA 3), .ref (mA 4), .int (iV ((mDw mUn bf nw xI yI).2.1)), .int (iV mRr), .int (iV mPit), .int (iV mFar), .ref (mA 5), .ref (mA 6), .ref (mA 7), .ref (mA 8), .int (iV mTm), .ref (mA 9), .ref (mA 10), .ref (mA 11)])), (mA 2, .inl (G.2.1, 249, .inl (fun k => iV ((mDw mUn bf nw xI yI).2.2.2 k)))), (mA 4, .inl (G.2.1, 1494, .inl (fun k => iV ((mDw mUn bf nw xI yI).2.2.1 k))))] _ := z_castP (by first | (rw [mDw_b (by assumption)]; done) | (rw [mDw_n (by assumption) (by omega)]; done) | (rw [mDw_f (by assumption) (by omega) (by assumption)]; done) | (rw [mDw_k (by assumption) (by omega) (by assumption)]; done)) hP
        exact z_retw hx hb hr hlocks hP hS dX9_draw_57
      · refine lv_bipush (v := iV (-3)) hx hb dX9_draw_35 (by decide) ?_
        refine z_eq (z := (mDw mUn bf nw xI yI).1) (by first | (rw [mDw_b (by assumption)]; done) | (rw [mDw_n (by assumption) (by omega)]; done) | (rw [mDw_f (by assumption) (by omega) (by assumption)]; done) | (rw [mDw_k (by assumption) (by omega) (by assumption)]; done)) ?_
        have hP : va_P G.1 vwCl [(mA 0, .inr (9, [.int (iV mLen), .ref (mA 1), .int (iV mSpot), .ref (mA 2), .ref (mA 3), .ref (mA 4), .int (iV ((mDw mUn bf nw xI yI).2.1)), .int (iV mRr), .int (iV mPit), .int (iV mFar), .ref (mA 5), .ref (mA 6), .ref (mA 7), .ref (mA 8), .int (iV mTm), .ref (mA 9), .ref (mA 10), .ref (mA 11)])), (mA 2, .inl (G.2.1, 249, .inl (fun k => iV ((mDw mUn bf nw xI yI).2.2.2 k)))), (mA 4, .inl (G.2.1, 1494, .inl (fun k => iV ((mDw mUn bf nw xI yI).2.2.1 k))))] _ := z_castP (by first | (rw [mDw_b (by assumption)]; done) | (rw [mDw_n (by assumption) (by omega)]; done) | (rw [mDw_f (by assumption) (by omega) (by assumption)]; done) | (rw [mDw_k (by assumption) (by omega) (by assumption)]; done)) hP
        exact z_retw hx hb hr hlocks hP hS dX9_draw_37
    · refine lv_bipush (v := iV (-2)) hx hb dX9_draw_20 (by decide) ?_
      refine z_eq (z := (mDw mUn bf nw xI yI).1) (by first | (rw [mDw_b (by assumption)]; done) | (rw [mDw_n (by assumption) (by omega)]; done) | (rw [mDw_f (by assumption) (by omega) (by assumption)]; done) | (rw [mDw_k (by assumption) (by omega) (by assumption)]; done)) ?_
      have hP : va_P G.1 vwCl [(mA 0, .inr (9, [.int (iV mLen), .ref (mA 1), .int (iV mSpot), .ref (mA 2), .ref (mA 3), .ref (mA 4), .int (iV ((mDw mUn bf nw xI yI).2.1)), .int (iV mRr), .int (iV mPit), .int (iV mFar), .ref (mA 5), .ref (mA 6), .ref (mA 7), .ref (mA 8), .int (iV mTm), .ref (mA 9), .ref (mA 10), .ref (mA 11)])), (mA 2, .inl (G.2.1, 249, .inl (fun k => iV ((mDw mUn bf nw xI yI).2.2.2 k)))), (mA 4, .inl (G.2.1, 1494, .inl (fun k => iV ((mDw mUn bf nw xI yI).2.2.1 k))))] _ := z_castP (by first | (rw [mDw_b (by assumption)]; done) | (rw [mDw_n (by assumption) (by omega)]; done) | (rw [mDw_f (by assumption) (by omega) (by assumption)]; done) | (rw [mDw_k (by assumption) (by omega) (by assumption)]; done)) hP
      exact z_retw hx hb hr hlocks hP hS dX9_draw_22
  · refine lv_iconst (v := iV (-1)) hx hb dX9_draw_9 (by decide) ?_
    refine z_eq (z := (mDw mUn bf nw xI yI).1) (by first | (rw [mDw_b (by assumption)]; done) | (rw [mDw_n (by assumption) (by omega)]; done) | (rw [mDw_f (by assumption) (by omega) (by assumption)]; done) | (rw [mDw_k (by assumption) (by omega) (by assumption)]; done)) ?_
    have hP : va_P G.1 vwCl [(mA 0, .inr (9, [.int (iV mLen), .ref (mA 1), .int (iV mSpot), .ref (mA 2), .ref (mA 3), .ref (mA 4), .int (iV ((mDw mUn bf nw xI yI).2.1)), .int (iV mRr), .int (iV mPit), .int (iV mFar), .ref (mA 5), .ref (mA 6), .ref (mA 7), .ref (mA 8), .int (iV mTm), .ref (mA 9), .ref (mA 10), .ref (mA 11)])), (mA 2, .inl (G.2.1, 249, .inl (fun k => iV ((mDw mUn bf nw xI yI).2.2.2 k)))), (mA 4, .inl (G.2.1, 1494, .inl (fun k => iV ((mDw mUn bf nw xI yI).2.2.1 k))))] _ := z_castP (by first | (rw [mDw_b (by assumption)]; done) | (rw [mDw_n (by assumption) (by omega)]; done) | (rw [mDw_f (by assumption) (by omega) (by assumption)]; done) | (rw [mDw_k (by assumption) (by omega) (by assumption)]; done)) hP
    exact z_retw hx hb hr hlocks hP hS dX9_draw_10

set_option maxHeartbeats 4000000 in
set_option maxRecDepth 100000 in
theorem c_X9_isStroke (l : Launch) (G : zG) (sz : Nat) (mA : Nat → Nat) (mLen : Int) (mSpot : Int) (mUn : Int) (mRr : Int) (mPit : Int) (mFar : Int) (mTm : Int) (nw : Nat → Int) (sI : Int) (hM : mOK nw) (hrsI : iR sI) : Met l yX9_isStroke (Cond.code yX9_isStroke cX9_isStroke 2 (some .boolean) :: zT) (zRm 1 25) (zPr G [.ref (mA 0), .int (iV sI)] [(mA 0, .inr (9, [.int (iV mLen), .ref (mA 1), .int (iV mSpot), .ref (mA 2), .ref (mA 3), .ref (mA 4), .int (iV mUn), .int (iV mRr), .int (iV mPit), .int (iV mFar), .ref (mA 5), .ref (mA 6), .ref (mA 7), .ref (mA 8), .int (iV mTm), .ref (mA 9), .ref (mA 10), .ref (mA 11)])), (mA 2, .inl (G.2.1, 249, .inl (fun k => iV (nw k))))] sz) (zQr (bP (0 ≤ sI ∧ sI < nw 88)) sz) 0 0 (zF sz) := by
  refine Met.ofW (cc := cX9_isStroke) (maxL := 2) (ret := (some .boolean)) (by decide) rfl ?_
  intro p e s m args below meth c s₁ B hml hv
  obtain ⟨rfl, hsz, hP, hK, hSt⟩ := hv
  have hx := B.exec
  have hb := B.bytes
  have hr := B.returns
  have hts : ∀ w ∈ zT, w.before _ s = true := fun w h => atoms_spec (ws := (Cond.code yX9_isStroke cX9_isStroke 2 (some .boolean) :: zT)) B.pre w (List.mem_cons_of_mem _ h)
  have hown : s.vm.findClass RX9 = some m.cls := findClass_of_methodNamed B.named
  have hlocks := B.notSynchronized
  subst hsz
  have hA : ∀ q : Nat, s.heap.size ≤ q → zF s.heap.size q := fun _ h => h
  have hS : va_S (zF s.heap.size) s.heap s.heap [] := va_S.rf
  have hP : va_P G.1 vwCl [(mA 0, .inr (9, [.int (iV mLen), .ref (mA 1), .int (iV mSpot), .ref (mA 2), .ref (mA 3), .ref (mA 4), .int (iV mUn), .int (iV mRr), .int (iV mPit), .int (iV mFar), .ref (mA 5), .ref (mA 6), .ref (mA 7), .ref (mA 8), .int (iV mTm), .ref (mA 9), .ref (mA 10), .ref (mA 11)])), (mA 2, .inl (G.2.1, 249, .inl (fun k => iV (nw k))))] s.heap := hP
  have X := And.intro hx (And.intro hb (And.intro hml (And.intro hown (And.intro hts (And.intro hK (And.intro hSt hA))))))
  have hl := lv_entry ([.ref (mA 0), .int (iV sI)]) (n := 2) (Nat.le_of_ble_eq_true rfl)
  rw [lg_entry_eq]
  generalize (lg_sl ([.ref (mA 0), .int (iV sI)]) ++ List.replicate (2 - (lg_sl ([.ref (mA 0), .int (iV sI)])).length) Slot.unset).toArray = ls at hl ⊢
  have hl : lv_has ls 2 [(0, .ref (mA 0)), (1, .int (iV sI))] := hl
  obtain ⟨hG, hWH3, hn88, hnL, hnQ, hn6, hn80⟩ := id hM
  obtain ⟨hW0, hW9, hH0, hH9, hg⟩ := id hG
  refine lv_iload_n hx hb dX9_isStroke_0 rfl (lv_at hl 1 rfl) ?_
  refine z_i2l hx hb (by omega) dX9_isStroke_1 ?_
  refine lv_lconst (v := lV 0) hx hb dX9_isStroke_2 (by decide) ?_
  refine lv_aload_n hx hb dX9_isStroke_3 rfl (lv_at hl 0 rfl) ?_
  refine va_get (D := G.1) (ci := 9) (v := .ref (mA 2)) (C := RX9) (T := TX9) (N := 18) hx hb hts inX9 hown hK hP 0 rfl rfl 3 (by decide) (hts _ wd_761) (fun _ h9 => h9) rfl dX9_isStroke_4 ?_
  refine lv_bipush (v := iV 88) hx hb dX9_isStroke_7 (by decide) ?_
  refine z_iald (G := G) (f := nw) hx hb hK hP 1 rfl (by omega) (by omega) (by decide) dX9_isStroke_9 ?_
  refine z_eq (z := (nw 88)) (by rfl) ?_
  refine lv_iconst (v := iV 1) hx hb dX9_isStroke_10 (by decide) ?_
  refine z_isub hx hb dX9_isStroke_11 ?_
  refine z_i2l hx hb (by omega) dX9_isStroke_12 ?_
  refine z_callS X hP hS hl.1 (c_X9_in l G _ sI 0 ((nw 88) - 1) (by first | assumption | omega) (by first | assumption | omega) (by first | assumption | omega)) wd_819 kX9_in ⟨rfl, rfl, Nat.le_of_ble_eq_true rfl, Nat.le_of_ble_eq_true rfl⟩ [] rfl rfl rfl (Nat.le_of_ble_eq_true rfl) dX9_isStroke_13 ⟨Nat.zero_le _, Nat.zero_le _⟩ (fun H locs hP hS => ?_)
  refine z_eq (z := bP (0 ≤ sI ∧ sI < nw 88)) (by exact bP_c (by omega)) ?_
  exact z_retb hx hb hr hlocks hS dX9_isStroke_16

set_option maxHeartbeats 4000000 in
set_option maxRecDepth 100000 in
theorem c_X9_rub (l : Launch) (G : zG) (sz : Nat) (mA : Nat → Nat) (mLen : Int) (mSpot : Int) (mUn : Int) (mRr : Int) (mPit : Int) (mFar : Int) (mTm : Int) (nw : Nat → Int) (bf : Nat → Int) (sI : Int) (hun : 0 ≤ mUn ∧ mUn ≤ 6) (hM : mOK nw) (hrsI : iR sI) : Met l yX9_rub (Cond.code yX9_rub cX9_rub 2 (some .int) :: zT) (zRm 2 46) (zPw G [.ref (mA 0), .int (iV sI)] [(mA 0, .inr (9, [.int (iV mLen), .ref (mA 1), .int (iV mSpot), .ref (mA 2), .ref (mA 3), .ref (mA 4), .int (iV mUn), .int (iV mRr), .int (iV mPit), .int (iV mFar), .ref (mA 5), .ref (mA 6), .ref (mA 7), .ref (mA 8), .int (iV mTm), .ref (mA 9), .ref (mA 10), .ref (mA 11)])), (mA 2, .inl (G.2.1, 249, .inl (fun k => iV (nw k)))), (mA 4, .inl (G.2.1, 1494, .inl (fun k => iV (bf k))))] sz) (zQw G ((mRu mUn bf nw sI).1) [(mA 0, .inr (9, [.int (iV mLen), .ref (mA 1), .int (iV mSpot), .ref (mA 2), .ref (mA 3), .ref (mA 4), .int (iV mUn), .int (iV mRr), .int (iV mPit), .int (iV mFar), .ref (mA 5), .ref (mA 6), .ref (mA 7), .ref (mA 8), .int (iV mTm), .ref (mA 9), .ref (mA 10), .ref (mA 11)])), (mA 2, .inl (G.2.1, 249, .inl (fun k => iV (nw k)))), (mA 4, .inl (G.2.1, 1494, .inl (fun k => iV (bf k))))] [(mA 0, .inr (9, [.int (iV mLen), .ref (mA 1), .int (iV mSpot), .ref (mA 2), .ref (mA 3), .ref (mA 4), .int (iV ((mRu mUn bf nw sI).2.1)), .int (iV mRr), .int (iV mPit), .int (iV mFar), .ref (mA 5), .ref (mA 6), .ref (mA 7), .ref (mA 8), .int (iV mTm), .ref (mA 9), .ref (mA 10), .ref (mA 11)])), (mA 2, .inl (G.2.1, 249, .inl (fun k => iV ((mRu mUn bf nw sI).2.2.2 k)))), (mA 4, .inl (G.2.1, 1494, .inl (fun k => iV ((mRu mUn bf nw sI).2.2.1 k))))] sz) 0 0 (va_A [(mA 0, .inr (9, [.int (iV mLen), .ref (mA 1), .int (iV mSpot), .ref (mA 2), .ref (mA 3), .ref (mA 4), .int (iV mUn), .int (iV mRr), .int (iV mPit), .int (iV mFar), .ref (mA 5), .ref (mA 6), .ref (mA 7), .ref (mA 8), .int (iV mTm), .ref (mA 9), .ref (mA 10), .ref (mA 11)])), (mA 2, .inl (G.2.1, 249, .inl (fun k => iV (nw k)))), (mA 4, .inl (G.2.1, 1494, .inl (fun k => iV (bf k))))] sz) := by
  refine Met.ofW (cc := cX9_rub) (maxL := 2) (ret := (some .int)) (by decide) rfl ?_
  intro p e s m args below meth c s₁ B hml hv
  obtain ⟨rfl, hsz, hP, hK, hSt, hD0⟩ := hv
  have hx := B.exec
  have hb := B.bytes
  have hr := B.returns
  have hts : ∀ w ∈ zT, w.before _ s = true := fun w h => atoms_spec (ws := (Cond.code yX9_rub cX9_rub 2 (some .int) :: zT)) B.pre w (List.mem_cons_of_mem _ h)
  have hown : s.vm.findClass RX9 = some m.cls := findClass_of_methodNamed B.named
  have hlocks := B.notSynchronized
  subst hsz
  have hD : va_D (va_A [(mA 0, .inr (9, [.int (iV mLen), .ref (mA 1), .int (iV mSpot), .ref (mA 2), .ref (mA 3), .ref (mA 4), .int (iV mUn), .int (iV mRr), .int (iV mPit), .int (iV mFar), .ref (mA 5), .ref (mA 6), .ref (mA 7), .ref (mA 8), .int (iV mTm), .ref (mA 9), .ref (mA 10), .ref (mA 11)])), (mA 2, .inl (G.2.1, 249, .inl (fun k => iV (nw k)))), (mA 4, .inl (G.2.1, 1494, .inl (fun k => iV (bf k))))] s.heap.size) [(mA 0, .inr (9, [.int (iV mLen), .ref (mA 1), .int (iV mSpot), .ref (mA 2), .ref (mA 3), .ref (mA 4), .int (iV mUn), .int (iV mRr), .int (iV mPit), .int (iV mFar), .ref (mA 5), .ref (mA 6), .ref (mA 7), .ref (mA 8), .int (iV mTm), .ref (mA 9), .ref (mA 10), .ref (mA 11)])), (mA 2, .inl (G.2.1, 249, .inl (fun k => iV (nw k)))), (mA 4, .inl (G.2.1, 1494, .inl (fun k => iV (bf k))))] := hD0.self
  have hA : ∀ q : Nat, s.heap.size ≤ q → va_A [(mA 0, .inr (9, [.int (iV mLen), .ref (mA 1), .int (iV mSpot), .ref (mA 2), .ref (mA 3), .ref (mA 4), .int (iV mUn), .int (iV mRr), .int (iV mPit), .int (iV mFar), .ref (mA 5), .ref (mA 6), .ref (mA 7), .ref (mA 8), .int (iV mTm), .ref (mA 9), .ref (mA 10), .ref (mA 11)])), (mA 2, .inl (G.2.1, 249, .inl (fun k => iV (nw k)))), (mA 4, .inl (G.2.1, 1494, .inl (fun k => iV (bf k))))] s.heap.size q := fun q h => Or.inr h
  have hS : va_S (va_A [(mA 0, .inr (9, [.int (iV mLen), .ref (mA 1), .int (iV mSpot), .ref (mA 2), .ref (mA 3), .ref (mA 4), .int (iV mUn), .int (iV mRr), .int (iV mPit), .int (iV mFar), .ref (mA 5), .ref (mA 6), .ref (mA 7), .ref (mA 8), .int (iV mTm), .ref (mA 9), .ref (mA 10), .ref (mA 11)])), (mA 2, .inl (G.2.1, 249, .inl (fun k => iV (nw k)))), (mA 4, .inl (G.2.1, 1494, .inl (fun k => iV (bf k))))] s.heap.size) s.heap s.heap [] := va_S.rf
  have hP : va_P G.1 vwCl [(mA 0, .inr (9, [.int (iV mLen), .ref (mA 1), .int (iV mSpot), .ref (mA 2), .ref (mA 3), .ref (mA 4), .int (iV mUn), .int (iV mRr), .int (iV mPit), .int (iV mFar), .ref (mA 5), .ref (mA 6), .ref (mA 7), .ref (mA 8), .int (iV mTm), .ref (mA 9), .ref (mA 10), .ref (mA 11)])), (mA 2, .inl (G.2.1, 249, .inl (fun k => iV (nw k)))), (mA 4, .inl (G.2.1, 1494, .inl (fun k => iV (bf k))))] s.heap := hP
  have X := And.intro hx (And.intro hb (And.intro hml (And.intro hown (And.intro hts (And.intro hK (And.intro hSt hA))))))
  have hl := lv_entry ([.ref (mA 0), .int (iV sI)]) (n := 2) (Nat.le_of_ble_eq_true rfl)
  rw [lg_entry_eq]
  generalize (lg_sl ([.ref (mA 0), .int (iV sI)]) ++ List.replicate (2 - (lg_sl ([.ref (mA 0), .int (iV sI)])).length) Slot.unset).toArray = ls at hl ⊢
  have hl : lv_has ls 2 [(0, .ref (mA 0)), (1, .int (iV sI))] := hl
  obtain ⟨hG, hWH3, hn88, hnL, hnQ, hn6, hn80⟩ := id hM
  obtain ⟨hW0, hW9, hH0, hH9, hg⟩ := id hG
  refine lv_aload_n hx hb dX9_rub_0 rfl (lv_at hl 0 rfl) ?_
  refine lv_iload_n hx hb dX9_rub_1 rfl (lv_at hl 1 rfl) ?_
  refine z_callV X hP hS hl.1 (c_X9_isStroke l G _ mA mLen mSpot mUn mRr mPit mFar mTm nw sI (by first | assumption | omega) (by first | assumption | omega)) wd_1041 kX9_isStroke ⟨rfl, rfl, Nat.le_of_ble_eq_true rfl, Nat.le_of_ble_eq_true rfl⟩ [0, 1] rfl 0 rfl rfl rfl rfl (Nat.le_of_ble_eq_true rfl) dX9_rub_2 ⟨Nat.zero_le _, Nat.zero_le _⟩ (fun H locs hP hS => ?_)
  refine z_ifb_ne (tgt := 10) hx hb dX9_rub_5 (by decide) (fun c_1 => ?_) (fun c_1 => ?_)
  · refine lv_aload_n hx hb dX9_rub_10 rfl (lv_at hl 0 rfl) ?_
    refine z_callVwv (w2 := [(mA 0, .inr (9, [.int (iV mLen), .ref (mA 1), .int (iV mSpot), .ref (mA 2), .ref (mA 3), .ref (mA 4), .int (iV ((mNt mUn bf nw).1)), .int (iV mRr), .int (iV mPit), .int (iV mFar), .ref (mA 5), .ref (mA 6), .ref (mA 7), .ref (mA 8), .int (iV mTm), .ref (mA 9), .ref (mA 10), .ref (mA 11)])), (mA 2, .inl (G.2.1, 249, .inl (fun k => iV (nw k)))), (mA 4, .inl (G.2.1, 1494, .inl (fun k => iV ((mNt mUn bf nw).2 k))))]) X hP hD hS hl.1 (c_X9_note l G _ mA mLen mSpot mUn mRr mPit mFar mTm nw bf (by first | assumption | omega)) wd_861 kX9_note ⟨rfl, rfl, Nat.le_of_ble_eq_true rfl, Nat.le_of_ble_eq_true rfl⟩ [0, 1, 2] [] rfl rfl rfl ⟨rfl, rfl⟩ rfl (by decide) 0 rfl rfl rfl rfl (Nat.le_of_ble_eq_true rfl) dX9_rub_11 ⟨Nat.zero_le _, Nat.zero_le _⟩ (fun H locs hP hD hS => ?_)
    refine lv_aload_n hx hb dX9_rub_14 rfl (lv_at hl 0 rfl) ?_
    refine lv_iload_n hx hb dX9_rub_15 rfl (lv_at hl 1 rfl) ?_
    refine z_callVwv (w2 := [(mA 0, .inr (9, [.int (iV mLen), .ref (mA 1), .int (iV mSpot), .ref (mA 2), .ref (mA 3), .ref (mA 4), .int (iV ((mNt mUn bf nw).1)), .int (iV mRr), .int (iV mPit), .int (iV mFar), .ref (mA 5), .ref (mA 6), .ref (mA 7), .ref (mA 8), .int (iV mTm), .ref (mA 9), .ref (mA 10), .ref (mA 11)])), (mA 2, .inl (G.2.1, 249, .inl (fun k => iV (mRb nw sI.toNat k)))), (mA 4, .inl (G.2.1, 1494, .inl (fun k => iV ((mNt mUn bf nw).2 k))))]) X hP hD hS hl.1 (c_X9_rubs l G _ mA mLen mSpot ((mNt mUn bf nw).1) mRr mPit mFar mTm nw sI (by first | assumption | omega) (by first | assumption | omega)) wd_883 kX9_rubs ⟨rfl, rfl, Nat.le_of_ble_eq_true rfl, Nat.le_of_ble_eq_true rfl⟩ [0, 1] [2] rfl rfl rfl ⟨rfl, rfl⟩ rfl (by decide) 0 rfl rfl rfl rfl (Nat.le_of_ble_eq_true rfl) dX9_rub_16 ⟨Nat.zero_le _, Nat.zero_le _⟩ (fun H locs hP hD hS => ?_)
    refine lv_aload_n hx hb dX9_rub_19 rfl (lv_at hl 0 rfl) ?_
    refine va_get (D := G.1) (ci := 9) (v := .ref (mA 2)) (C := RX9) (T := TX9) (N := 18) hx hb hts inX9 hown hK hP 0 rfl rfl 3 (by decide) (hts _ wd_761) (fun _ h9 => h9) rfl dX9_rub_20 ?_
    refine lv_bipush (v := iV 88) hx hb dX9_rub_23 (by decide) ?_
    refine z_iald (G := G) (f := mRb nw sI.toNat) hx hb hK hP 1 rfl (by omega) (by omega) (by decide) dX9_rub_25 ?_
    refine z_eq (z := (mRb nw sI.toNat 88)) (by rfl) ?_
    refine z_eq (z := (nw 88 - 1)) (by exact mRb_88 nw _) ?_
    refine z_eq (z := (mRu mUn bf nw sI).1) (by first | (rw [mRu_f (by assumption)]; done) | (rw [mRu_t (by assumption)]; done)) ?_
    have hP : va_P G.1 vwCl [(mA 0, .inr (9, [.int (iV mLen), .ref (mA 1), .int (iV mSpot), .ref (mA 2), .ref (mA 3), .ref (mA 4), .int (iV ((mRu mUn bf nw sI).2.1)), .int (iV mRr), .int (iV mPit), .int (iV mFar), .ref (mA 5), .ref (mA 6), .ref (mA 7), .ref (mA 8), .int (iV mTm), .ref (mA 9), .ref (mA 10), .ref (mA 11)])), (mA 2, .inl (G.2.1, 249, .inl (fun k => iV ((mRu mUn bf nw sI).2.2.2 k)))), (mA 4, .inl (G.2.1, 1494, .inl (fun k => iV ((mRu mUn bf nw sI).2.2.1 k))))] _ := z_castP (by first | (rw [mRu_f (by assumption)]; done) | (rw [mRu_t (by assumption)]; done)) hP
    exact z_retw hx hb hr hlocks hP hS dX9_rub_26
  · refine lv_iconst (v := iV (-1)) hx hb dX9_rub_8 (by decide) ?_
    refine z_eq (z := (mRu mUn bf nw sI).1) (by first | (rw [mRu_f (by assumption)]; done) | (rw [mRu_t (by assumption)]; done)) ?_
    have hP : va_P G.1 vwCl [(mA 0, .inr (9, [.int (iV mLen), .ref (mA 1), .int (iV mSpot), .ref (mA 2), .ref (mA 3), .ref (mA 4), .int (iV ((mRu mUn bf nw sI).2.1)), .int (iV mRr), .int (iV mPit), .int (iV mFar), .ref (mA 5), .ref (mA 6), .ref (mA 7), .ref (mA 8), .int (iV mTm), .ref (mA 9), .ref (mA 10), .ref (mA 11)])), (mA 2, .inl (G.2.1, 249, .inl (fun k => iV ((mRu mUn bf nw sI).2.2.2 k)))), (mA 4, .inl (G.2.1, 1494, .inl (fun k => iV ((mRu mUn bf nw sI).2.2.1 k))))] _ := z_castP (by first | (rw [mRu_f (by assumption)]; done) | (rw [mRu_t (by assumption)]; done)) hP
    exact z_retw hx hb hr hlocks hP hS dX9_rub_9

set_option maxHeartbeats 4000000 in
set_option maxRecDepth 100000 in
theorem c_X9_hatch (l : Launch) (G : zG) (sz : Nat) (mA : Nat → Nat) (mLen : Int) (mSpot : Int) (mUn : Int) (mRr : Int) (mPit : Int) (mFar : Int) (mTm : Int) (nw : Nat → Int) (bf : Nat → Int) (rN : Nat → Int) (hun : 0 ≤ mUn ∧ mUn ≤ 6) (hM : mOK nw) (hRN : (mHa 20 nw) = rN) : Met l yX9_hatch (Cond.code yX9_hatch cX9_hatch 6 (some .int) :: zT) (zRm 5 126) (zPw G [.ref (mA 0)] [(mA 0, .inr (9, [.int (iV mLen), .ref (mA 1), .int (iV mSpot), .ref (mA 2), .ref (mA 3), .ref (mA 4), .int (iV mUn), .int (iV mRr), .int (iV mPit), .int (iV mFar), .ref (mA 5), .ref (mA 6), .ref (mA 7), .ref (mA 8), .int (iV mTm), .ref (mA 9), .ref (mA 10), .ref (mA 11)])), (mA 2, .inl (G.2.1, 249, .inl (fun k => iV (nw k)))), (mA 4, .inl (G.2.1, 1494, .inl (fun k => iV (bf k))))] sz) (zQw G (rN 88 - nw 88) [(mA 0, .inr (9, [.int (iV mLen), .ref (mA 1), .int (iV mSpot), .ref (mA 2), .ref (mA 3), .ref (mA 4), .int (iV mUn), .int (iV mRr), .int (iV mPit), .int (iV mFar), .ref (mA 5), .ref (mA 6), .ref (mA 7), .ref (mA 8), .int (iV mTm), .ref (mA 9), .ref (mA 10), .ref (mA 11)])), (mA 2, .inl (G.2.1, 249, .inl (fun k => iV (nw k)))), (mA 4, .inl (G.2.1, 1494, .inl (fun k => iV (bf k))))] [(mA 0, .inr (9, [.int (iV mLen), .ref (mA 1), .int (iV mSpot), .ref (mA 2), .ref (mA 3), .ref (mA 4), .int (iV ((mNt mUn bf nw).1)), .int (iV mRr), .int (iV mPit), .int (iV mFar), .ref (mA 5), .ref (mA 6), .ref (mA 7), .ref (mA 8), .int (iV mTm), .ref (mA 9), .ref (mA 10), .ref (mA 11)])), (mA 2, .inl (G.2.1, 249, .inl (fun k => iV (rN k)))), (mA 4, .inl (G.2.1, 1494, .inl (fun k => iV ((mNt mUn bf nw).2 k))))] sz) 0 0 (va_A [(mA 0, .inr (9, [.int (iV mLen), .ref (mA 1), .int (iV mSpot), .ref (mA 2), .ref (mA 3), .ref (mA 4), .int (iV mUn), .int (iV mRr), .int (iV mPit), .int (iV mFar), .ref (mA 5), .ref (mA 6), .ref (mA 7), .ref (mA 8), .int (iV mTm), .ref (mA 9), .ref (mA 10), .ref (mA 11)])), (mA 2, .inl (G.2.1, 249, .inl (fun k => iV (nw k)))), (mA 4, .inl (G.2.1, 1494, .inl (fun k => iV (bf k))))] sz) := by
  refine Met.ofW (cc := cX9_hatch) (maxL := 6) (ret := (some .int)) (by decide) rfl ?_
  intro p e s m args below meth c s₁ B hml hv
  obtain ⟨rfl, hsz, hP, hK, hSt, hD0⟩ := hv
  have hx := B.exec
  have hb := B.bytes
  have hr := B.returns
  have hts : ∀ w ∈ zT, w.before _ s = true := fun w h => atoms_spec (ws := (Cond.code yX9_hatch cX9_hatch 6 (some .int) :: zT)) B.pre w (List.mem_cons_of_mem _ h)
  have hown : s.vm.findClass RX9 = some m.cls := findClass_of_methodNamed B.named
  have hlocks := B.notSynchronized
  subst hsz
  have hD : va_D (va_A [(mA 0, .inr (9, [.int (iV mLen), .ref (mA 1), .int (iV mSpot), .ref (mA 2), .ref (mA 3), .ref (mA 4), .int (iV mUn), .int (iV mRr), .int (iV mPit), .int (iV mFar), .ref (mA 5), .ref (mA 6), .ref (mA 7), .ref (mA 8), .int (iV mTm), .ref (mA 9), .ref (mA 10), .ref (mA 11)])), (mA 2, .inl (G.2.1, 249, .inl (fun k => iV (nw k)))), (mA 4, .inl (G.2.1, 1494, .inl (fun k => iV (bf k))))] s.heap.size) [(mA 0, .inr (9, [.int (iV mLen), .ref (mA 1), .int (iV mSpot), .ref (mA 2), .ref (mA 3), .ref (mA 4), .int (iV mUn), .int (iV mRr), .int (iV mPit), .int (iV mFar), .ref (mA 5), .ref (mA 6), .ref (mA 7), .ref (mA 8), .int (iV mTm), .ref (mA 9), .ref (mA 10), .ref (mA 11)])), (mA 2, .inl (G.2.1, 249, .inl (fun k => iV (nw k)))), (mA 4, .inl (G.2.1, 1494, .inl (fun k => iV (bf k))))] := hD0.self
  have hA : ∀ q : Nat, s.heap.size ≤ q → va_A [(mA 0, .inr (9, [.int (iV mLen), .ref (mA 1), .int (iV mSpot), .ref (mA 2), .ref (mA 3), .ref (mA 4), .int (iV mUn), .int (iV mRr), .int (iV mPit), .int (iV mFar), .ref (mA 5), .ref (mA 6), .ref (mA 7), .ref (mA 8), .int (iV mTm), .ref (mA 9), .ref (mA 10), .ref (mA 11)])), (mA 2, .inl (G.2.1, 249, .inl (fun k => iV (nw k)))), (mA 4, .inl (G.2.1, 1494, .inl (fun k => iV (bf k))))] s.heap.size q := fun q h => Or.inr h
  have hS : va_S (va_A [(mA 0, .inr (9, [.int (iV mLen), .ref (mA 1), .int (iV mSpot), .ref (mA 2), .ref (mA 3), .ref (mA 4), .int (iV mUn), .int (iV mRr), .int (iV mPit), .int (iV mFar), .ref (mA 5), .ref (mA 6), .ref (mA 7), .ref (mA 8), .int (iV mTm), .ref (mA 9), .ref (mA 10), .ref (mA 11)])), (mA 2, .inl (G.2.1, 249, .inl (fun k => iV (nw k)))), (mA 4, .inl (G.2.1, 1494, .inl (fun k => iV (bf k))))] s.heap.size) s.heap s.heap [] := va_S.rf
  have hP : va_P G.1 vwCl [(mA 0, .inr (9, [.int (iV mLen), .ref (mA 1), .int (iV mSpot), .ref (mA 2), .ref (mA 3), .ref (mA 4), .int (iV mUn), .int (iV mRr), .int (iV mPit), .int (iV mFar), .ref (mA 5), .ref (mA 6), .ref (mA 7), .ref (mA 8), .int (iV mTm), .ref (mA 9), .ref (mA 10), .ref (mA 11)])), (mA 2, .inl (G.2.1, 249, .inl (fun k => iV (nw k)))), (mA 4, .inl (G.2.1, 1494, .inl (fun k => iV (bf k))))] s.heap := hP
  have X := And.intro hx (And.intro hb (And.intro hml (And.intro hown (And.intro hts (And.intro hK (And.intro hSt hA))))))
  have hl := lv_entry ([.ref (mA 0)]) (n := 6) (Nat.le_of_ble_eq_true rfl)
  rw [lg_entry_eq]
  generalize (lg_sl ([.ref (mA 0)]) ++ List.replicate (6 - (lg_sl ([.ref (mA 0)])).length) Slot.unset).toArray = ls at hl ⊢
  have hl : lv_has ls 6 [(0, .ref (mA 0))] := hl
  obtain ⟨hG, hWH3, hn88, hnL, hnQ, hn6, hn80⟩ := id hM
  obtain ⟨hW0, hW9, hH0, hH9, hg⟩ := id hG
  refine lv_aload_n hx hb dX9_hatch_0 rfl (lv_at hl 0 rfl) ?_
  refine z_callVwv (w2 := [(mA 0, .inr (9, [.int (iV mLen), .ref (mA 1), .int (iV mSpot), .ref (mA 2), .ref (mA 3), .ref (mA 4), .int (iV ((mNt mUn bf nw).1)), .int (iV mRr), .int (iV mPit), .int (iV mFar), .ref (mA 5), .ref (mA 6), .ref (mA 7), .ref (mA 8), .int (iV mTm), .ref (mA 9), .ref (mA 10), .ref (mA 11)])), (mA 2, .inl (G.2.1, 249, .inl (fun k => iV (nw k)))), (mA 4, .inl (G.2.1, 1494, .inl (fun k => iV ((mNt mUn bf nw).2 k))))]) X hP hD hS hl.1 (c_X9_note l G _ mA mLen mSpot mUn mRr mPit mFar mTm nw bf (by first | assumption | omega)) wd_861 kX9_note ⟨rfl, rfl, Nat.le_of_ble_eq_true rfl, Nat.le_of_ble_eq_true rfl⟩ [0, 1, 2] [] rfl rfl rfl ⟨rfl, rfl⟩ rfl (by decide) 0 rfl rfl rfl rfl (Nat.le_of_ble_eq_true rfl) dX9_hatch_1 ⟨Nat.zero_le _, Nat.zero_le _⟩ (fun H locs hP hD hS => ?_)
  refine lv_iconst (v := iV 0) hx hb dX9_hatch_4 (by decide) ?_
  refine lv_istore_n (lv' := [(1, .int (iV 0)), (0, .ref (mA 0))]) hx hb dX9_hatch_5 rfl hl (by decide) rfl (fun ls hl => ?_)
  refine lv_iconst (v := iV 1) hx hb dX9_hatch_6 (by decide) ?_
  refine lv_istore_n (lv' := [(2, .int (iV 1)), (1, .int (iV 0)), (0, .ref (mA 0))]) hx hb dX9_hatch_7 rfl hl (by decide) rfl (fun ls hl => ?_)
  have lp_8 : ∀ (k : Nat) (fq : Nat) (mo : Int) (nv : Nat → Int) , (mOK nv) → (0 ≤ mo ∧ mo ≤ 1) → (nw 88 ≤ nv 88) → (¬ mo = 0 → 20 - nv 88 ≤ (Nat.cast fq : Int)) → ((¬ mo = 0 → (mHa 20 nw) = mHa fq nv) ∧ (mo = 0 → (mHa 20 nw) = nv)) → (2 * (20 - (nv 88).toNat) + mo.toNat) < k → ∀ (H : Heap) (locs : List Loc), va_P G.1 vwCl [(mA 0, .inr (9, [.int (iV mLen), .ref (mA 1), .int (iV mSpot), .ref (mA 2), .ref (mA 3), .ref (mA 4), .int (iV ((mNt mUn bf nw).1)), .int (iV mRr), .int (iV mPit), .int (iV mFar), .ref (mA 5), .ref (mA 6), .ref (mA 7), .ref (mA 8), .int (iV mTm), .ref (mA 9), .ref (mA 10), .ref (mA 11)])), (mA 2, .inl (G.2.1, 249, .inl (fun k => iV (nv k)))), (mA 4, .inl (G.2.1, 1494, .inl (fun k => iV ((mNt mUn bf nw).2 k))))] H → va_D (va_A [(mA 0, .inr (9, [.int (iV mLen), .ref (mA 1), .int (iV mSpot), .ref (mA 2), .ref (mA 3), .ref (mA 4), .int (iV mUn), .int (iV mRr), .int (iV mPit), .int (iV mFar), .ref (mA 5), .ref (mA 6), .ref (mA 7), .ref (mA 8), .int (iV mTm), .ref (mA 9), .ref (mA 10), .ref (mA 11)])), (mA 2, .inl (G.2.1, 249, .inl (fun k => iV (nw k)))), (mA 4, .inl (G.2.1, 1494, .inl (fun k => iV (bf k))))] s.heap.size) [(mA 0, .inr (9, [.int (iV mLen), .ref (mA 1), .int (iV mSpot), .ref (mA 2), .ref (mA 3), .ref (mA 4), .int (iV ((mNt mUn bf nw).1)), .int (iV mRr), .int (iV mPit), .int (iV mFar), .ref (mA 5), .ref (mA 6), .ref (mA 7), .ref (mA 8), .int (iV mTm), .ref (mA 9), .ref (mA 10), .ref (mA 11)])), (mA 2, .inl (G.2.1, 249, .inl (fun k => iV (nv k)))), (mA 4, .inl (G.2.1, 1494, .inl (fun k => iV ((mNt mUn bf nw).2 k))))] → va_S (va_A [(mA 0, .inr (9, [.int (iV mLen), .ref (mA 1), .int (iV mSpot), .ref (mA 2), .ref (mA 3), .ref (mA 4), .int (iV mUn), .int (iV mRr), .int (iV mPit), .int (iV mFar), .ref (mA 5), .ref (mA 6), .ref (mA 7), .ref (mA 8), .int (iV mTm), .ref (mA 9), .ref (mA 10), .ref (mA 11)])), (mA 2, .inl (G.2.1, 249, .inl (fun k => iV (nw k)))), (mA 4, .inl (G.2.1, 1494, .inl (fun k => iV (bf k))))] s.heap.size) s.heap H locs → ∀ ls : Array Slot, lv_has ls 6 [(0, .ref (mA 0)), (1, .int (iV (nv 88 - nw 88))), (2, .int (iV mo))] → W p l e (headSpec (Cond.code yX9_hatch cX9_hatch 6 (some .int) :: zT) (zRm 5 126)).room s m ([Value.ref (mA 0)] : List Value).toArray below meth c H locs 0 0 (MQ below (zQw G (rN 88 - nw 88) [(mA 0, .inr (9, [.int (iV mLen), .ref (mA 1), .int (iV mSpot), .ref (mA 2), .ref (mA 3), .ref (mA 4), .int (iV mUn), .int (iV mRr), .int (iV mPit), .int (iV mFar), .ref (mA 5), .ref (mA 6), .ref (mA 7), .ref (mA 8), .int (iV mTm), .ref (mA 9), .ref (mA 10), .ref (mA 11)])), (mA 2, .inl (G.2.1, 249, .inl (fun k => iV (nw k)))), (mA 4, .inl (G.2.1, 1494, .inl (fun k => iV (bf k))))] [(mA 0, .inr (9, [.int (iV mLen), .ref (mA 1), .int (iV mSpot), .ref (mA 2), .ref (mA 3), .ref (mA 4), .int (iV ((mNt mUn bf nw).1)), .int (iV mRr), .int (iV mPit), .int (iV mFar), .ref (mA 5), .ref (mA 6), .ref (mA 7), .ref (mA 8), .int (iV mTm), .ref (mA 9), .ref (mA 10), .ref (mA 11)])), (mA 2, .inl (G.2.1, 249, .inl (fun k => iV (rN k)))), (mA 4, .inl (G.2.1, 1494, .inl (fun k => iV ((mNt mUn bf nw).2 k))))] s.heap.size) ([Value.ref (mA 0)] : List Value).toArray s 0 0 (va_A [(mA 0, .inr (9, [.int (iV mLen), .ref (mA 1), .int (iV mSpot), .ref (mA 2), .ref (mA 3), .ref (mA 4), .int (iV mUn), .int (iV mRr), .int (iV mPit), .int (iV mFar), .ref (mA 5), .ref (mA 6), .ref (mA 7), .ref (mA 8), .int (iV mTm), .ref (mA 9), .ref (mA 10), .ref (mA 11)])), (mA 2, .inl (G.2.1, 249, .inl (fun k => iV (nw k)))), (mA 4, .inl (G.2.1, 1494, .inl (fun k => iV (bf k))))] s.heap.size)) (F0 m 8 ls []) := by
    intro k
    induction k with
    | zero => intro fq mo nv hM hmo hnn hfu hp hk_; exact absurd hk_ (Nat.not_lt_zero _)
    | succ k ih_8 =>
      intro fq mo nv hM hmo hnn hfu hp hk_8 H locs hP hD hS ls hl
      have hv8 := hM.2.2.1
      have hvW := hM.1.2.1
      have hvH := hM.1.2.2.2.1
      refine lv_iload_n hx hb dX9_hatch_8 rfl (lv_at hl 2 rfl) ?_
      refine z_if_eq (tgt := 165) hx hb (by omega) dX9_hatch_9 (by decide) (fun c_1 => ?_) (fun c_1 => ?_)
      · have hfin : rN = nv := by rw [← hRN]; first | exact hp.2 (by assumption) | exact (hp.1 (by omega)).trans (mHa_e (by omega))
        refine lv_iload_n hx hb dX9_hatch_165 rfl (lv_at hl 1 rfl) ?_
        refine z_eq (z := (rN 88 - nw 88)) (by first | (rw [hfin]; done) | (rw [hfin]; omega)) ?_
        have hP : va_P G.1 vwCl [(mA 0, .inr (9, [.int (iV mLen), .ref (mA 1), .int (iV mSpot), .ref (mA 2), .ref (mA 3), .ref (mA 4), .int (iV ((mNt mUn bf nw).1)), .int (iV mRr), .int (iV mPit), .int (iV mFar), .ref (mA 5), .ref (mA 6), .ref (mA 7), .ref (mA 8), .int (iV mTm), .ref (mA 9), .ref (mA 10), .ref (mA 11)])), (mA 2, .inl (G.2.1, 249, .inl (fun k => iV (rN k)))), (mA 4, .inl (G.2.1, 1494, .inl (fun k => iV ((mNt mUn bf nw).2 k))))] _ := z_castP (by rw [hfin]) hP
        exact z_retw hx hb hr hlocks hP hS dX9_hatch_166
      · refine lv_aload_n hx hb dX9_hatch_12 rfl (lv_at hl 0 rfl) ?_
        refine va_get (D := G.1) (ci := 9) (v := .ref (mA 2)) (C := RX9) (T := TX9) (N := 18) hx hb hts inX9 hown hK hP 0 rfl rfl 3 (by decide) (hts _ wd_761) (fun _ h9 => h9) rfl dX9_hatch_13 ?_
        refine lv_bipush (v := iV 88) hx hb dX9_hatch_16 (by decide) ?_
        refine z_iald (G := G) (f := nv) hx hb hK hP 1 rfl (by omega) (by omega) (by decide) dX9_hatch_18 ?_
        refine z_eq (z := (nv 88)) (by rfl) ?_
        refine lv_bipush (v := iV 20) hx hb dX9_hatch_19 (by decide) ?_
        refine z_icmp_ge (tgt := 165) hx hb (by omega) ⟨by decide, by decide⟩ dX9_hatch_21 (by decide) (fun c_2 => ?_) (fun c_2 => ?_)
        · have hfin : rN = nv := by rw [← hRN]; first | exact hp.2 (by assumption) | exact (hp.1 (by omega)).trans (mHa_e (by omega))
          refine lv_iload_n hx hb dX9_hatch_165 rfl (lv_at hl 1 rfl) ?_
          refine z_eq (z := (rN 88 - nw 88)) (by first | (rw [hfin]; done) | (rw [hfin]; omega)) ?_
          have hP : va_P G.1 vwCl [(mA 0, .inr (9, [.int (iV mLen), .ref (mA 1), .int (iV mSpot), .ref (mA 2), .ref (mA 3), .ref (mA 4), .int (iV ((mNt mUn bf nw).1)), .int (iV mRr), .int (iV mPit), .int (iV mFar), .ref (mA 5), .ref (mA 6), .ref (mA 7), .ref (mA 8), .int (iV mTm), .ref (mA 9), .ref (mA 10), .ref (mA 11)])), (mA 2, .inl (G.2.1, 249, .inl (fun k => iV (rN k)))), (mA 4, .inl (G.2.1, 1494, .inl (fun k => iV ((mNt mUn bf nw).2 k))))] _ := z_castP (by rw [hfin]) hP
          exact z_retw hx hb hr hlocks hP hS dX9_hatch_166
        · have hmo1 : mo = 1 := by omega
          have hfq := hfu (by omega)
          refine lv_bipush (v := iV (-4)) hx hb dX9_hatch_24 (by decide) ?_
          refine lv_istore_n (lv' := [(3, .int (iV (-4))), (0, .ref (mA 0)), (1, .int (iV (nv 88 - nw 88))), (2, .int (iV mo))]) hx hb dX9_hatch_26 rfl hl (by decide) rfl (fun ls hl => ?_)
          refine lv_iconst (v := iV 0) hx hb dX9_hatch_27 (by decide) ?_
          refine lv_istore (lv' := [(4, .int (iV 0)), (3, .int (iV (-4))), (0, .ref (mA 0)), (1, .int (iV (nv 88 - nw 88))), (2, .int (iV mo))]) hx hb dX9_hatch_28 hl (by decide) rfl (fun ls hl => ?_)
          have lp_30 : ∀ (k : Nat) (nq : Nat) , (nq ≤ 81) → (81 - nq) < k → ∀ (H : Heap) (locs : List Loc), va_P G.1 vwCl [(mA 0, .inr (9, [.int (iV mLen), .ref (mA 1), .int (iV mSpot), .ref (mA 2), .ref (mA 3), .ref (mA 4), .int (iV ((mNt mUn bf nw).1)), .int (iV mRr), .int (iV mPit), .int (iV mFar), .ref (mA 5), .ref (mA 6), .ref (mA 7), .ref (mA 8), .int (iV mTm), .ref (mA 9), .ref (mA 10), .ref (mA 11)])), (mA 2, .inl (G.2.1, 249, .inl (fun k => iV (nv k)))), (mA 4, .inl (G.2.1, 1494, .inl (fun k => iV ((mNt mUn bf nw).2 k))))] H → va_D (va_A [(mA 0, .inr (9, [.int (iV mLen), .ref (mA 1), .int (iV mSpot), .ref (mA 2), .ref (mA 3), .ref (mA 4), .int (iV mUn), .int (iV mRr), .int (iV mPit), .int (iV mFar), .ref (mA 5), .ref (mA 6), .ref (mA 7), .ref (mA 8), .int (iV mTm), .ref (mA 9), .ref (mA 10), .ref (mA 11)])), (mA 2, .inl (G.2.1, 249, .inl (fun k => iV (nw k)))), (mA 4, .inl (G.2.1, 1494, .inl (fun k => iV (bf k))))] s.heap.size) [(mA 0, .inr (9, [.int (iV mLen), .ref (mA 1), .int (iV mSpot), .ref (mA 2), .ref (mA 3), .ref (mA 4), .int (iV ((mNt mUn bf nw).1)), .int (iV mRr), .int (iV mPit), .int (iV mFar), .ref (mA 5), .ref (mA 6), .ref (mA 7), .ref (mA 8), .int (iV mTm), .ref (mA 9), .ref (mA 10), .ref (mA 11)])), (mA 2, .inl (G.2.1, 249, .inl (fun k => iV (nv k)))), (mA 4, .inl (G.2.1, 1494, .inl (fun k => iV ((mNt mUn bf nw).2 k))))] → va_S (va_A [(mA 0, .inr (9, [.int (iV mLen), .ref (mA 1), .int (iV mSpot), .ref (mA 2), .ref (mA 3), .ref (mA 4), .int (iV mUn), .int (iV mRr), .int (iV mPit), .int (iV mFar), .ref (mA 5), .ref (mA 6), .ref (mA 7), .ref (mA 8), .int (iV mTm), .ref (mA 9), .ref (mA 10), .ref (mA 11)])), (mA 2, .inl (G.2.1, 249, .inl (fun k => iV (nw k)))), (mA 4, .inl (G.2.1, 1494, .inl (fun k => iV (bf k))))] s.heap.size) s.heap H locs → ∀ ls : Array Slot, lv_has ls 6 [(0, .ref (mA 0)), (1, .int (iV (nv 88 - nw 88))), (2, .int (iV mo)), (3, .int (iV (mBs nv nq))), (4, .int (iV (Nat.cast nq : Int)))] → W p l e (headSpec (Cond.code yX9_hatch cX9_hatch 6 (some .int) :: zT) (zRm 5 126)).room s m ([Value.ref (mA 0)] : List Value).toArray below meth c H locs 0 0 (MQ below (zQw G (rN 88 - nw 88) [(mA 0, .inr (9, [.int (iV mLen), .ref (mA 1), .int (iV mSpot), .ref (mA 2), .ref (mA 3), .ref (mA 4), .int (iV mUn), .int (iV mRr), .int (iV mPit), .int (iV mFar), .ref (mA 5), .ref (mA 6), .ref (mA 7), .ref (mA 8), .int (iV mTm), .ref (mA 9), .ref (mA 10), .ref (mA 11)])), (mA 2, .inl (G.2.1, 249, .inl (fun k => iV (nw k)))), (mA 4, .inl (G.2.1, 1494, .inl (fun k => iV (bf k))))] [(mA 0, .inr (9, [.int (iV mLen), .ref (mA 1), .int (iV mSpot), .ref (mA 2), .ref (mA 3), .ref (mA 4), .int (iV ((mNt mUn bf nw).1)), .int (iV mRr), .int (iV mPit), .int (iV mFar), .ref (mA 5), .ref (mA 6), .ref (mA 7), .ref (mA 8), .int (iV mTm), .ref (mA 9), .ref (mA 10), .ref (mA 11)])), (mA 2, .inl (G.2.1, 249, .inl (fun k => iV (rN k)))), (mA 4, .inl (G.2.1, 1494, .inl (fun k => iV ((mNt mUn bf nw).2 k))))] s.heap.size) ([Value.ref (mA 0)] : List Value).toArray s 0 0 (va_A [(mA 0, .inr (9, [.int (iV mLen), .ref (mA 1), .int (iV mSpot), .ref (mA 2), .ref (mA 3), .ref (mA 4), .int (iV mUn), .int (iV mRr), .int (iV mPit), .int (iV mFar), .ref (mA 5), .ref (mA 6), .ref (mA 7), .ref (mA 8), .int (iV mTm), .ref (mA 9), .ref (mA 10), .ref (mA 11)])), (mA 2, .inl (G.2.1, 249, .inl (fun k => iV (nw k)))), (mA 4, .inl (G.2.1, 1494, .inl (fun k => iV (bf k))))] s.heap.size)) (F0 m 30 ls []) := by
            intro k
            induction k with
            | zero => intro nq hn hk_; exact absurd hk_ (Nat.not_lt_zero _)
            | succ k ih_30 =>
              intro nq hn hk_30 H locs hP hD hS ls hl
              have hbr := mBs_r nv nq
              refine lv_iload hx hb dX9_hatch_30 (lv_at hl 4 rfl) ?_
              refine lv_bipush (v := iV 81) hx hb dX9_hatch_32 (by decide) ?_
              refine z_icmp_ge (tgt := 131) hx hb (by omega) ⟨by decide, by decide⟩ dX9_hatch_34 (by decide) (fun c_3 => ?_) (fun c_3 => ?_)
              · have hn81 : nq = 81 := by omega
                refine lv_iload_n hx hb dX9_hatch_131 rfl (lv_at hl 3 rfl) ?_
                refine lv_bipush (v := iV (-4)) hx hb dX9_hatch_132 (by decide) ?_
                have jn_142 : ∀ (H : Heap) (locs : List Loc), va_P G.1 vwCl [(mA 0, .inr (9, [.int (iV mLen), .ref (mA 1), .int (iV mSpot), .ref (mA 2), .ref (mA 3), .ref (mA 4), .int (iV ((mNt mUn bf nw).1)), .int (iV mRr), .int (iV mPit), .int (iV mFar), .ref (mA 5), .ref (mA 6), .ref (mA 7), .ref (mA 8), .int (iV mTm), .ref (mA 9), .ref (mA 10), .ref (mA 11)])), (mA 2, .inl (G.2.1, 249, .inl (fun k => iV (nv k)))), (mA 4, .inl (G.2.1, 1494, .inl (fun k => iV ((mNt mUn bf nw).2 k))))] H → va_D (va_A [(mA 0, .inr (9, [.int (iV mLen), .ref (mA 1), .int (iV mSpot), .ref (mA 2), .ref (mA 3), .ref (mA 4), .int (iV mUn), .int (iV mRr), .int (iV mPit), .int (iV mFar), .ref (mA 5), .ref (mA 6), .ref (mA 7), .ref (mA 8), .int (iV mTm), .ref (mA 9), .ref (mA 10), .ref (mA 11)])), (mA 2, .inl (G.2.1, 249, .inl (fun k => iV (nw k)))), (mA 4, .inl (G.2.1, 1494, .inl (fun k => iV (bf k))))] s.heap.size) [(mA 0, .inr (9, [.int (iV mLen), .ref (mA 1), .int (iV mSpot), .ref (mA 2), .ref (mA 3), .ref (mA 4), .int (iV ((mNt mUn bf nw).1)), .int (iV mRr), .int (iV mPit), .int (iV mFar), .ref (mA 5), .ref (mA 6), .ref (mA 7), .ref (mA 8), .int (iV mTm), .ref (mA 9), .ref (mA 10), .ref (mA 11)])), (mA 2, .inl (G.2.1, 249, .inl (fun k => iV (nv k)))), (mA 4, .inl (G.2.1, 1494, .inl (fun k => iV ((mNt mUn bf nw).2 k))))] → va_S (va_A [(mA 0, .inr (9, [.int (iV mLen), .ref (mA 1), .int (iV mSpot), .ref (mA 2), .ref (mA 3), .ref (mA 4), .int (iV mUn), .int (iV mRr), .int (iV mPit), .int (iV mFar), .ref (mA 5), .ref (mA 6), .ref (mA 7), .ref (mA 8), .int (iV mTm), .ref (mA 9), .ref (mA 10), .ref (mA 11)])), (mA 2, .inl (G.2.1, 249, .inl (fun k => iV (nw k)))), (mA 4, .inl (G.2.1, 1494, .inl (fun k => iV (bf k))))] s.heap.size) s.heap H locs → ∀ ls : Array Slot, lv_has ls 6 [(0, .ref (mA 0)), (1, .int (iV (nv 88 - nw 88))), (2, .int (iV mo)), (3, .int (iV (mBs nv nq))), (4, .int (iV (Nat.cast nq : Int)))] → W p l e (headSpec (Cond.code yX9_hatch cX9_hatch 6 (some .int) :: zT) (zRm 5 126)).room s m ([Value.ref (mA 0)] : List Value).toArray below meth c H locs 0 0 (MQ below (zQw G (rN 88 - nw 88) [(mA 0, .inr (9, [.int (iV mLen), .ref (mA 1), .int (iV mSpot), .ref (mA 2), .ref (mA 3), .ref (mA 4), .int (iV mUn), .int (iV mRr), .int (iV mPit), .int (iV mFar), .ref (mA 5), .ref (mA 6), .ref (mA 7), .ref (mA 8), .int (iV mTm), .ref (mA 9), .ref (mA 10), .ref (mA 11)])), (mA 2, .inl (G.2.1, 249, .inl (fun k => iV (nw k)))), (mA 4, .inl (G.2.1, 1494, .inl (fun k => iV (bf k))))] [(mA 0, .inr (9, [.int (iV mLen), .ref (mA 1), .int (iV mSpot), .ref (mA 2), .ref (mA 3), .ref (mA 4), .int (iV ((mNt mUn bf nw).1)), .int (iV mRr), .int (iV mPit), .int (iV mFar), .ref (mA 5), .ref (mA 6), .ref (mA 7), .ref (mA 8), .int (iV mTm), .ref (mA 9), .ref (mA 10), .ref (mA 11)])), (mA 2, .inl (G.2.1, 249, .inl (fun k => iV (rN k)))), (mA 4, .inl (G.2.1, 1494, .inl (fun k => iV ((mNt mUn bf nw).2 k))))] s.heap.size) ([Value.ref (mA 0)] : List Value).toArray s 0 0 (va_A [(mA 0, .inr (9, [.int (iV mLen), .ref (mA 1), .int (iV mSpot), .ref (mA 2), .ref (mA 3), .ref (mA 4), .int (iV mUn), .int (iV mRr), .int (iV mPit), .int (iV mFar), .ref (mA 5), .ref (mA 6), .ref (mA 7), .ref (mA 8), .int (iV mTm), .ref (mA 9), .ref (mA 10), .ref (mA 11)])), (mA 2, .inl (G.2.1, 249, .inl (fun k => iV (nw k)))), (mA 4, .inl (G.2.1, 1494, .inl (fun k => iV (bf k))))] s.heap.size)) (F0 m 142 ls [.int (iV (bP (¬ mBs nv 81 = -4)))]) := by
                  intro  H locs hP hD hS ls hl
                  refine lv_istore_n (lv' := [(2, .int (iV (bP (¬ mBs nv 81 = -4)))), (0, .ref (mA 0)), (1, .int (iV (nv 88 - nw 88))), (3, .int (iV (mBs nv nq))), (4, .int (iV (Nat.cast nq : Int)))]) hx hb dX9_hatch_142 rfl hl (by decide) rfl (fun ls hl => ?_)
                  refine lv_iload_n hx hb dX9_hatch_143 rfl (lv_at hl 0 rfl) ?_
                  refine z_ifb_eq (tgt := 162) hx hb dX9_hatch_144 (by decide) (fun c_4 => ?_) (fun c_4 => ?_)
                  · refine lv_goto (tgt := 8) hx hb dX9_hatch_162 (by decide) ?_
                    exact ih_8 (fq - 1) (bP (¬ mBs nv 81 = -4)) nv (by first | assumption | (rw [c9i _ (by omega)]; exact mOK_dr hM (by omega) (by omega))) (by exact bP_r _) (by first | (rw [mDr_88]; omega) | omega) (fun h0 => by first | (rw [mDr_88]; omega) | exact absurd (bP_f (by assumption)) h0) (by rw [hp.1 (by omega)]; first | (rw [c9i _ (by omega), hb81]; exact ⟨fun _ => mHa_s (by omega) ⟨by omega, hbs1⟩, fun h => absurd (h.symm.trans (bP_t hbs1)) (by decide)⟩) | exact ⟨fun h => absurd (bP_f (by assumption)) h, fun _ => mHa_e (fun q => absurd q.2 (by assumption))⟩) (by first | (rw [mDr_88, bP_t hbs1]; omega) | (rw [bP_f (q := ¬ mBs nv 81 = -4) (by assumption)]; omega)) _ _ hP hD hS _ (lv_cons (lv_at hl 1 rfl) (lv_cons (lv_at hl 2 rfl) (lv_cons (lv_i hl 0 rfl (by first | rfl | omega | (rw [mDr_88]; omega))) (lv_nil hl))))
                  · have hbs1 : ¬ mBs nv 81 = -4 := by assumption
                    have hb81 : mBs nv nq = mBs nv 81 := by rw [hn81]
                    have hbq : ¬ mBs nv nq = -4 := by rw [hb81]; exact hbs1
                    have hbr3 := hbr.resolve_left hbq
                    have hmm := hbr3.2.2
                    have hbr2 : 0 ≤ mBs nv nq ∧ mBs nv nq < 81 := by omega
                    have hin := hmm.1
                    rw [show (Nat.cast (mBs nv nq).toNat : Int) = mBs nv nq by omega] at hin
                    refine lv_aload_n hx hb dX9_hatch_147 rfl (lv_at hl 1 rfl) ?_
                    refine lv_iload_n hx hb dX9_hatch_148 rfl (lv_at hl 3 rfl) ?_
                    refine lv_bipush (v := iV 9) hx hb dX9_hatch_149 (by decide) ?_
                    refine z_irem hx hb (by omega) (by omega) dX9_hatch_151 ?_
                    refine lv_iload_n hx hb dX9_hatch_152 rfl (lv_at hl 3 rfl) ?_
                    refine lv_bipush (v := iV 9) hx hb dX9_hatch_153 (by decide) ?_
                    refine z_idiv hx hb (by omega) (by omega) dX9_hatch_155 ?_
                    refine z_callVwv (w2 := [(mA 0, .inr (9, [.int (iV mLen), .ref (mA 1), .int (iV mSpot), .ref (mA 2), .ref (mA 3), .ref (mA 4), .int (iV ((mNt mUn bf nw).1)), .int (iV mRr), .int (iV mPit), .int (iV mFar), .ref (mA 5), .ref (mA 6), .ref (mA 7), .ref (mA 8), .int (iV mTm), .ref (mA 9), .ref (mA 10), .ref (mA 11)])), (mA 2, .inl (G.2.1, 249, .inl (fun k => iV (mDr nv (9 * ((mBs nv nq) / 9) + ((mBs nv nq) % 9)) k)))), (mA 4, .inl (G.2.1, 1494, .inl (fun k => iV ((mNt mUn bf nw).2 k))))]) X hP hD hS hl.1 (c_X9_draws l G _ mA mLen mSpot ((mNt mUn bf nw).1) mRr mPit mFar mTm nv ((mBs nv nq) % 9) ((mBs nv nq) / 9) (by first | assumption | omega) (hin.2) (by first | assumption | omega)) wd_1033 kX9_draws ⟨rfl, rfl, Nat.le_of_ble_eq_true rfl, Nat.le_of_ble_eq_true rfl⟩ [0, 1] [2] rfl rfl rfl ⟨rfl, rfl⟩ rfl (by decide) 0 rfl rfl rfl rfl (Nat.le_of_ble_eq_true rfl) dX9_hatch_156 ⟨Nat.zero_le _, Nat.zero_le _⟩ (fun H locs hP hD hS => ?_)
                    refine z_iinc (lv' := [(1, .int (iV ((nv 88 - nw 88) + 1))), (2, .int (iV (bP (¬ mBs nv 81 = -4)))), (0, .ref (mA 0)), (3, .int (iV (mBs nv nq))), (4, .int (iV (Nat.cast nq : Int)))]) hx hb dX9_hatch_159 hl (k := 2) rfl (by decide) rfl (fun ls hl => ?_)
                    refine lv_goto (tgt := 8) hx hb dX9_hatch_162 (by decide) ?_
                    have hP : va_P G.1 vwCl [(mA 0, .inr (9, [.int (iV mLen), .ref (mA 1), .int (iV mSpot), .ref (mA 2), .ref (mA 3), .ref (mA 4), .int (iV ((mNt mUn bf nw).1)), .int (iV mRr), .int (iV mPit), .int (iV mFar), .ref (mA 5), .ref (mA 6), .ref (mA 7), .ref (mA 8), .int (iV mTm), .ref (mA 9), .ref (mA 10), .ref (mA 11)])), (mA 2, .inl (G.2.1, 249, .inl (fun k => iV ((mDr nv (9 * ((mBs nv nq) / 9) + ((mBs nv nq) % 9))) k)))), (mA 4, .inl (G.2.1, 1494, .inl (fun k => iV ((mNt mUn bf nw).2 k))))] _ := z_castP (by rfl) hP
                    have hD : va_D _ [(mA 0, .inr (9, [.int (iV mLen), .ref (mA 1), .int (iV mSpot), .ref (mA 2), .ref (mA 3), .ref (mA 4), .int (iV ((mNt mUn bf nw).1)), .int (iV mRr), .int (iV mPit), .int (iV mFar), .ref (mA 5), .ref (mA 6), .ref (mA 7), .ref (mA 8), .int (iV mTm), .ref (mA 9), .ref (mA 10), .ref (mA 11)])), (mA 2, .inl (G.2.1, 249, .inl (fun k => iV ((mDr nv (9 * ((mBs nv nq) / 9) + ((mBs nv nq) % 9))) k)))), (mA 4, .inl (G.2.1, 1494, .inl (fun k => iV ((mNt mUn bf nw).2 k))))] := z_castD (by rfl) hD
                    exact ih_8 (fq - 1) (bP (¬ mBs nv 81 = -4)) (mDr nv (9 * ((mBs nv nq) / 9) + ((mBs nv nq) % 9))) (by first | assumption | (rw [c9i _ (by omega)]; exact mOK_dr hM (by omega) (by omega))) (by exact bP_r _) (by first | (rw [mDr_88]; omega) | omega) (fun h0 => by first | (rw [mDr_88]; omega) | exact absurd (bP_f (by assumption)) h0) (by rw [hp.1 (by omega)]; first | (rw [c9i _ (by omega), hb81]; exact ⟨fun _ => mHa_s (by omega) ⟨by omega, hbs1⟩, fun h => absurd (h.symm.trans (bP_t hbs1)) (by decide)⟩) | exact ⟨fun h => absurd (bP_f (by assumption)) h, fun _ => mHa_e (fun q => absurd q.2 (by assumption))⟩) (by first | (rw [mDr_88, bP_t hbs1]; omega) | (rw [bP_f (q := ¬ mBs nv 81 = -4) (by assumption)]; omega)) _ _ hP hD hS _ (lv_cons (lv_at hl 2 rfl) (lv_cons (lv_i hl 0 rfl (by first | rfl | omega | (rw [mDr_88]; omega))) (lv_cons (lv_i hl 1 rfl (by first | rfl | omega | (rw [mDr_88]; omega))) (lv_nil hl))))
                refine z_icmp_eq (tgt := 141) hx hb (by omega) ⟨by decide, by decide⟩ dX9_hatch_134 (by decide) (fun c_5 => ?_) (fun c_5 => ?_)
                · have hbs0 : mBs nv 81 = -4 := by rw [← hn81]; assumption
                  refine lv_iconst (v := iV 0) hx hb dX9_hatch_141 (by decide) ?_
                  refine z_eq (z := bP (¬ mBs nv 81 = -4)) (by first | exact (bP_t hbs1).symm | exact (bP_f (fun q => q hbs0)).symm) ?_
                  exact jn_142  _ _ hP hD hS _ (lv_cons (lv_at hl 0 rfl) (lv_cons (lv_at hl 1 rfl) (lv_cons (lv_at hl 2 rfl) (lv_cons (lv_at hl 3 rfl) (lv_cons (lv_at hl 4 rfl) (lv_nil hl))))))
                · have hbs1 : ¬ mBs nv 81 = -4 := by rw [← hn81]; assumption
                  refine lv_iconst (v := iV 1) hx hb dX9_hatch_137 (by decide) ?_
                  refine lv_goto (tgt := 142) hx hb dX9_hatch_138 (by decide) ?_
                  refine z_eq (z := bP (¬ mBs nv 81 = -4)) (by first | exact (bP_t hbs1).symm | exact (bP_f (fun q => q hbs0)).symm) ?_
                  exact jn_142  _ _ hP hD hS _ (lv_cons (lv_at hl 0 rfl) (lv_cons (lv_at hl 1 rfl) (lv_cons (lv_at hl 2 rfl) (lv_cons (lv_at hl 3 rfl) (lv_cons (lv_at hl 4 rfl) (lv_nil hl))))))
              · refine lv_aload_n hx hb dX9_hatch_37 rfl (lv_at hl 0 rfl) ?_
                refine lv_iload hx hb dX9_hatch_38 (lv_at hl 4 rfl) ?_
                refine lv_bipush (v := iV 9) hx hb dX9_hatch_40 (by decide) ?_
                refine z_irem hx hb (by omega) (by omega) dX9_hatch_42 ?_
                refine lv_iload hx hb dX9_hatch_43 (lv_at hl 4 rfl) ?_
                refine lv_bipush (v := iV 9) hx hb dX9_hatch_45 (by decide) ?_
                refine z_idiv hx hb (by omega) (by omega) dX9_hatch_47 ?_
                refine z_callV X hP hS hl.1 (c_X9_isCell l G _ mA mLen mSpot ((mNt mUn bf nw).1) mRr mPit mFar mTm nv ((Nat.cast nq : Int) % 9) ((Nat.cast nq : Int) / 9) (by first | assumption | omega) (by first | assumption | omega) (by first | assumption | omega)) wd_875 kX9_isCell ⟨rfl, rfl, Nat.le_of_ble_eq_true rfl, Nat.le_of_ble_eq_true rfl⟩ [0, 1] rfl 0 rfl rfl rfl rfl (Nat.le_of_ble_eq_true rfl) dX9_hatch_48 ⟨Nat.zero_le _, Nat.zero_le _⟩ (fun H locs hP hS => ?_)
                have jn_76 : ∀ (H : Heap) (locs : List Loc), va_P G.1 vwCl [(mA 0, .inr (9, [.int (iV mLen), .ref (mA 1), .int (iV mSpot), .ref (mA 2), .ref (mA 3), .ref (mA 4), .int (iV ((mNt mUn bf nw).1)), .int (iV mRr), .int (iV mPit), .int (iV mFar), .ref (mA 5), .ref (mA 6), .ref (mA 7), .ref (mA 8), .int (iV mTm), .ref (mA 9), .ref (mA 10), .ref (mA 11)])), (mA 2, .inl (G.2.1, 249, .inl (fun k => iV (nv k)))), (mA 4, .inl (G.2.1, 1494, .inl (fun k => iV ((mNt mUn bf nw).2 k))))] H → va_D (va_A [(mA 0, .inr (9, [.int (iV mLen), .ref (mA 1), .int (iV mSpot), .ref (mA 2), .ref (mA 3), .ref (mA 4), .int (iV mUn), .int (iV mRr), .int (iV mPit), .int (iV mFar), .ref (mA 5), .ref (mA 6), .ref (mA 7), .ref (mA 8), .int (iV mTm), .ref (mA 9), .ref (mA 10), .ref (mA 11)])), (mA 2, .inl (G.2.1, 249, .inl (fun k => iV (nw k)))), (mA 4, .inl (G.2.1, 1494, .inl (fun k => iV (bf k))))] s.heap.size) [(mA 0, .inr (9, [.int (iV mLen), .ref (mA 1), .int (iV mSpot), .ref (mA 2), .ref (mA 3), .ref (mA 4), .int (iV ((mNt mUn bf nw).1)), .int (iV mRr), .int (iV mPit), .int (iV mFar), .ref (mA 5), .ref (mA 6), .ref (mA 7), .ref (mA 8), .int (iV mTm), .ref (mA 9), .ref (mA 10), .ref (mA 11)])), (mA 2, .inl (G.2.1, 249, .inl (fun k => iV (nv k)))), (mA 4, .inl (G.2.1, 1494, .inl (fun k => iV ((mNt mUn bf nw).2 k))))] → va_S (va_A [(mA 0, .inr (9, [.int (iV mLen), .ref (mA 1), .int (iV mSpot), .ref (mA 2), .ref (mA 3), .ref (mA 4), .int (iV mUn), .int (iV mRr), .int (iV mPit), .int (iV mFar), .ref (mA 5), .ref (mA 6), .ref (mA 7), .ref (mA 8), .int (iV mTm), .ref (mA 9), .ref (mA 10), .ref (mA 11)])), (mA 2, .inl (G.2.1, 249, .inl (fun k => iV (nw k)))), (mA 4, .inl (G.2.1, 1494, .inl (fun k => iV (bf k))))] s.heap.size) s.heap H locs → ∀ ls : Array Slot, lv_has ls 6 [(0, .ref (mA 0)), (1, .int (iV (nv 88 - nw 88))), (2, .int (iV mo)), (3, .int (iV (mBs nv nq))), (4, .int (iV (Nat.cast nq : Int)))] → W p l e (headSpec (Cond.code yX9_hatch cX9_hatch 6 (some .int) :: zT) (zRm 5 126)).room s m ([Value.ref (mA 0)] : List Value).toArray below meth c H locs 0 0 (MQ below (zQw G (rN 88 - nw 88) [(mA 0, .inr (9, [.int (iV mLen), .ref (mA 1), .int (iV mSpot), .ref (mA 2), .ref (mA 3), .ref (mA 4), .int (iV mUn), .int (iV mRr), .int (iV mPit), .int (iV mFar), .ref (mA 5), .ref (mA 6), .ref (mA 7), .ref (mA 8), .int (iV mTm), .ref (mA 9), .ref (mA 10), .ref (mA 11)])), (mA 2, .inl (G.2.1, 249, .inl (fun k => iV (nw k)))), (mA 4, .inl (G.2.1, 1494, .inl (fun k => iV (bf k))))] [(mA 0, .inr (9, [.int (iV mLen), .ref (mA 1), .int (iV mSpot), .ref (mA 2), .ref (mA 3), .ref (mA 4), .int (iV ((mNt mUn bf nw).1)), .int (iV mRr), .int (iV mPit), .int (iV mFar), .ref (mA 5), .ref (mA 6), .ref (mA 7), .ref (mA 8), .int (iV mTm), .ref (mA 9), .ref (mA 10), .ref (mA 11)])), (mA 2, .inl (G.2.1, 249, .inl (fun k => iV (rN k)))), (mA 4, .inl (G.2.1, 1494, .inl (fun k => iV ((mNt mUn bf nw).2 k))))] s.heap.size) ([Value.ref (mA 0)] : List Value).toArray s 0 0 (va_A [(mA 0, .inr (9, [.int (iV mLen), .ref (mA 1), .int (iV mSpot), .ref (mA 2), .ref (mA 3), .ref (mA 4), .int (iV mUn), .int (iV mRr), .int (iV mPit), .int (iV mFar), .ref (mA 5), .ref (mA 6), .ref (mA 7), .ref (mA 8), .int (iV mTm), .ref (mA 9), .ref (mA 10), .ref (mA 11)])), (mA 2, .inl (G.2.1, 249, .inl (fun k => iV (nw k)))), (mA 4, .inl (G.2.1, 1494, .inl (fun k => iV (bf k))))] s.heap.size)) (F0 m 76 ls [.int (iV (bP (mMay nv nq)))]) := by
                  intro  H locs hP hD hS ls hl
                  refine lv_istore (lv' := [(5, .int (iV (bP (mMay nv nq)))), (0, .ref (mA 0)), (1, .int (iV (nv 88 - nw 88))), (2, .int (iV mo)), (3, .int (iV (mBs nv nq))), (4, .int (iV (Nat.cast nq : Int)))]) hx hb dX9_hatch_76 hl (by decide) rfl (fun ls hl => ?_)
                  refine lv_iload hx hb dX9_hatch_78 (lv_at hl 0 rfl) ?_
                  have jn_124 : ∀ (H : Heap) (locs : List Loc), va_P G.1 vwCl [(mA 0, .inr (9, [.int (iV mLen), .ref (mA 1), .int (iV mSpot), .ref (mA 2), .ref (mA 3), .ref (mA 4), .int (iV ((mNt mUn bf nw).1)), .int (iV mRr), .int (iV mPit), .int (iV mFar), .ref (mA 5), .ref (mA 6), .ref (mA 7), .ref (mA 8), .int (iV mTm), .ref (mA 9), .ref (mA 10), .ref (mA 11)])), (mA 2, .inl (G.2.1, 249, .inl (fun k => iV (nv k)))), (mA 4, .inl (G.2.1, 1494, .inl (fun k => iV ((mNt mUn bf nw).2 k))))] H → va_D (va_A [(mA 0, .inr (9, [.int (iV mLen), .ref (mA 1), .int (iV mSpot), .ref (mA 2), .ref (mA 3), .ref (mA 4), .int (iV mUn), .int (iV mRr), .int (iV mPit), .int (iV mFar), .ref (mA 5), .ref (mA 6), .ref (mA 7), .ref (mA 8), .int (iV mTm), .ref (mA 9), .ref (mA 10), .ref (mA 11)])), (mA 2, .inl (G.2.1, 249, .inl (fun k => iV (nw k)))), (mA 4, .inl (G.2.1, 1494, .inl (fun k => iV (bf k))))] s.heap.size) [(mA 0, .inr (9, [.int (iV mLen), .ref (mA 1), .int (iV mSpot), .ref (mA 2), .ref (mA 3), .ref (mA 4), .int (iV ((mNt mUn bf nw).1)), .int (iV mRr), .int (iV mPit), .int (iV mFar), .ref (mA 5), .ref (mA 6), .ref (mA 7), .ref (mA 8), .int (iV mTm), .ref (mA 9), .ref (mA 10), .ref (mA 11)])), (mA 2, .inl (G.2.1, 249, .inl (fun k => iV (nv k)))), (mA 4, .inl (G.2.1, 1494, .inl (fun k => iV ((mNt mUn bf nw).2 k))))] → va_S (va_A [(mA 0, .inr (9, [.int (iV mLen), .ref (mA 1), .int (iV mSpot), .ref (mA 2), .ref (mA 3), .ref (mA 4), .int (iV mUn), .int (iV mRr), .int (iV mPit), .int (iV mFar), .ref (mA 5), .ref (mA 6), .ref (mA 7), .ref (mA 8), .int (iV mTm), .ref (mA 9), .ref (mA 10), .ref (mA 11)])), (mA 2, .inl (G.2.1, 249, .inl (fun k => iV (nw k)))), (mA 4, .inl (G.2.1, 1494, .inl (fun k => iV (bf k))))] s.heap.size) s.heap H locs → ∀ ls : Array Slot, lv_has ls 6 [(0, .ref (mA 0)), (1, .int (iV (nv 88 - nw 88))), (2, .int (iV mo)), (3, .int (iV (mBs nv nq))), (4, .int (iV (Nat.cast nq : Int)))] → W p l e (headSpec (Cond.code yX9_hatch cX9_hatch 6 (some .int) :: zT) (zRm 5 126)).room s m ([Value.ref (mA 0)] : List Value).toArray below meth c H locs 0 0 (MQ below (zQw G (rN 88 - nw 88) [(mA 0, .inr (9, [.int (iV mLen), .ref (mA 1), .int (iV mSpot), .ref (mA 2), .ref (mA 3), .ref (mA 4), .int (iV mUn), .int (iV mRr), .int (iV mPit), .int (iV mFar), .ref (mA 5), .ref (mA 6), .ref (mA 7), .ref (mA 8), .int (iV mTm), .ref (mA 9), .ref (mA 10), .ref (mA 11)])), (mA 2, .inl (G.2.1, 249, .inl (fun k => iV (nw k)))), (mA 4, .inl (G.2.1, 1494, .inl (fun k => iV (bf k))))] [(mA 0, .inr (9, [.int (iV mLen), .ref (mA 1), .int (iV mSpot), .ref (mA 2), .ref (mA 3), .ref (mA 4), .int (iV ((mNt mUn bf nw).1)), .int (iV mRr), .int (iV mPit), .int (iV mFar), .ref (mA 5), .ref (mA 6), .ref (mA 7), .ref (mA 8), .int (iV mTm), .ref (mA 9), .ref (mA 10), .ref (mA 11)])), (mA 2, .inl (G.2.1, 249, .inl (fun k => iV (rN k)))), (mA 4, .inl (G.2.1, 1494, .inl (fun k => iV ((mNt mUn bf nw).2 k))))] s.heap.size) ([Value.ref (mA 0)] : List Value).toArray s 0 0 (va_A [(mA 0, .inr (9, [.int (iV mLen), .ref (mA 1), .int (iV mSpot), .ref (mA 2), .ref (mA 3), .ref (mA 4), .int (iV mUn), .int (iV mRr), .int (iV mPit), .int (iV mFar), .ref (mA 5), .ref (mA 6), .ref (mA 7), .ref (mA 8), .int (iV mTm), .ref (mA 9), .ref (mA 10), .ref (mA 11)])), (mA 2, .inl (G.2.1, 249, .inl (fun k => iV (nw k)))), (mA 4, .inl (G.2.1, 1494, .inl (fun k => iV (bf k))))] s.heap.size)) (F0 m 124 ls [.int (iV (mBs nv (nq + 1)))]) := by
                    intro  H locs hP hD hS ls hl
                    refine lv_istore_n (lv' := [(3, .int (iV (mBs nv (nq + 1)))), (0, .ref (mA 0)), (1, .int (iV (nv 88 - nw 88))), (2, .int (iV mo)), (4, .int (iV (Nat.cast nq : Int)))]) hx hb dX9_hatch_124 rfl hl (by decide) rfl (fun ls hl => ?_)
                    refine z_iinc (lv' := [(4, .int (iV ((Nat.cast nq : Int) + 1))), (3, .int (iV (mBs nv (nq + 1)))), (0, .ref (mA 0)), (1, .int (iV (nv 88 - nw 88))), (2, .int (iV mo))]) hx hb dX9_hatch_125 hl (k := 4) rfl (by decide) rfl (fun ls hl => ?_)
                    refine lv_goto (tgt := 30) hx hb dX9_hatch_128 (by decide) ?_
                    exact ih_30 (nq + 1) (by first | assumption | omega) (by omega) _ _ hP hD hS _ (lv_cons (lv_at hl 2 rfl) (lv_cons (lv_at hl 3 rfl) (lv_cons (lv_at hl 4 rfl) (lv_cons (lv_at hl 1 rfl) (lv_cons (lv_i hl 0 rfl (by first | rfl | omega)) (lv_nil hl))))))
                  refine z_ifb_eq (tgt := 123) hx hb dX9_hatch_80 (by decide) (fun c_6 => ?_) (fun c_6 => ?_)
                  · refine lv_iload_n hx hb dX9_hatch_123 rfl (lv_at hl 4 rfl) ?_
                    refine z_eq (z := (mBs nv (nq + 1))) (by first | exact mBs_t hmay (Or.inl (by assumption)) | exact mBs_t hmay (Or.inr (by omega)) | exact mBs_f (fun q => by first | exact absurd q.1 (by assumption) | exact q.2.elim (fun q3 => absurd q3 (by assumption)) (fun q3 => by omega))) ?_
                    exact jn_124  _ _ hP hD hS _ (lv_cons (lv_at hl 1 rfl) (lv_cons (lv_at hl 2 rfl) (lv_cons (lv_at hl 3 rfl) (lv_cons (lv_at hl 4 rfl) (lv_cons (lv_at hl 5 rfl) (lv_nil hl))))))
                  · have hmay : mMay nv nq := by assumption
                    refine lv_iload_n hx hb dX9_hatch_83 rfl (lv_at hl 4 rfl) ?_
                    refine lv_bipush (v := iV (-4)) hx hb dX9_hatch_84 (by decide) ?_
                    refine z_icmp_eq (tgt := 118) hx hb (by omega) ⟨by decide, by decide⟩ dX9_hatch_86 (by decide) (fun c_7 => ?_) (fun c_7 => ?_)
                    · refine lv_iload hx hb dX9_hatch_118 (lv_at hl 5 rfl) ?_
                      refine lv_goto (tgt := 124) hx hb dX9_hatch_120 (by decide) ?_
                      refine z_eq (z := (mBs nv (nq + 1))) (by first | exact mBs_t hmay (Or.inl (by assumption)) | exact mBs_t hmay (Or.inr (by omega)) | exact mBs_f (fun q => by first | exact absurd q.1 (by assumption) | exact q.2.elim (fun q3 => absurd q3 (by assumption)) (fun q3 => by omega))) ?_
                      exact jn_124  _ _ hP hD hS _ (lv_cons (lv_at hl 1 rfl) (lv_cons (lv_at hl 2 rfl) (lv_cons (lv_at hl 3 rfl) (lv_cons (lv_at hl 4 rfl) (lv_cons (lv_at hl 5 rfl) (lv_nil hl))))))
                    · have hbr2 : 0 ≤ mBs nv nq ∧ mBs nv nq < 81 := by rcases hbr with h | h <;> omega
                      refine lv_aload_n hx hb dX9_hatch_89 rfl (lv_at hl 1 rfl) ?_
                      refine lv_iload hx hb dX9_hatch_90 (lv_at hl 5 rfl) ?_
                      refine lv_bipush (v := iV 9) hx hb dX9_hatch_92 (by decide) ?_
                      refine z_irem hx hb (by omega) (by omega) dX9_hatch_94 ?_
                      refine lv_iload hx hb dX9_hatch_95 (lv_at hl 5 rfl) ?_
                      refine lv_bipush (v := iV 9) hx hb dX9_hatch_97 (by decide) ?_
                      refine z_idiv hx hb (by omega) (by omega) dX9_hatch_99 ?_
                      refine z_callV X hP hS hl.1 (c_X9_steep l G _ mA mLen mSpot ((mNt mUn bf nw).1) mRr mPit mFar mTm nv ((Nat.cast nq : Int) % 9) ((Nat.cast nq : Int) / 9) (by first | assumption | omega) (by first | assumption | omega)) wd_913 kX9_steep ⟨rfl, rfl, Nat.le_of_ble_eq_true rfl, Nat.le_of_ble_eq_true rfl⟩ [0, 1] rfl 0 rfl rfl rfl rfl (Nat.le_of_ble_eq_true rfl) dX9_hatch_100 ⟨Nat.zero_le _, Nat.zero_le _⟩ (fun H locs hP hS => ?_)
                      have f_8 := gSteep_r (id hM).1 ((Nat.cast nq : Int) % 9) ((Nat.cast nq : Int) / 9)
                      refine lv_aload_n hx hb dX9_hatch_103 rfl (lv_at hl 1 rfl) ?_
                      refine lv_iload_n hx hb dX9_hatch_104 rfl (lv_at hl 4 rfl) ?_
                      refine lv_bipush (v := iV 9) hx hb dX9_hatch_105 (by decide) ?_
                      refine z_irem hx hb (by omega) (by omega) dX9_hatch_107 ?_
                      refine lv_iload_n hx hb dX9_hatch_108 rfl (lv_at hl 4 rfl) ?_
                      refine lv_bipush (v := iV 9) hx hb dX9_hatch_109 (by decide) ?_
                      refine z_idiv hx hb (by omega) (by omega) dX9_hatch_111 ?_
                      refine z_callV X hP hS hl.1 (c_X9_steep l G _ mA mLen mSpot ((mNt mUn bf nw).1) mRr mPit mFar mTm nv ((mBs nv nq) % 9) ((mBs nv nq) / 9) (by first | assumption | omega) (by first | assumption | omega)) wd_913 kX9_steep ⟨rfl, rfl, Nat.le_of_ble_eq_true rfl, Nat.le_of_ble_eq_true rfl⟩ [0, 1] rfl 0 rfl rfl rfl rfl (Nat.le_of_ble_eq_true rfl) dX9_hatch_112 ⟨Nat.zero_le _, Nat.zero_le _⟩ (fun H locs hP hS => ?_)
                      have f_9 := gSteep_r (id hM).1 ((mBs nv nq) % 9) ((mBs nv nq) / 9)
                      refine z_icmp_le (tgt := 123) hx hb (by omega) (by omega) dX9_hatch_115 (by decide) (fun c_10 => ?_) (fun c_10 => ?_)
                      · refine lv_iload_n hx hb dX9_hatch_123 rfl (lv_at hl 4 rfl) ?_
                        refine z_eq (z := (mBs nv (nq + 1))) (by first | exact mBs_t hmay (Or.inl (by assumption)) | exact mBs_t hmay (Or.inr (by omega)) | exact mBs_f (fun q => by first | exact absurd q.1 (by assumption) | exact q.2.elim (fun q3 => absurd q3 (by assumption)) (fun q3 => by omega))) ?_
                        exact jn_124  _ _ hP hD hS _ (lv_cons (lv_at hl 1 rfl) (lv_cons (lv_at hl 2 rfl) (lv_cons (lv_at hl 3 rfl) (lv_cons (lv_at hl 4 rfl) (lv_cons (lv_at hl 5 rfl) (lv_nil hl))))))
                      · refine lv_iload hx hb dX9_hatch_118 (lv_at hl 5 rfl) ?_
                        refine lv_goto (tgt := 124) hx hb dX9_hatch_120 (by decide) ?_
                        refine z_eq (z := (mBs nv (nq + 1))) (by first | exact mBs_t hmay (Or.inl (by assumption)) | exact mBs_t hmay (Or.inr (by omega)) | exact mBs_f (fun q => by first | exact absurd q.1 (by assumption) | exact q.2.elim (fun q3 => absurd q3 (by assumption)) (fun q3 => by omega))) ?_
                        exact jn_124  _ _ hP hD hS _ (lv_cons (lv_at hl 1 rfl) (lv_cons (lv_at hl 2 rfl) (lv_cons (lv_at hl 3 rfl) (lv_cons (lv_at hl 4 rfl) (lv_cons (lv_at hl 5 rfl) (lv_nil hl))))))
                refine z_ifb_eq (tgt := 75) hx hb dX9_hatch_51 (by decide) (fun c_11 => ?_) (fun c_11 => ?_)
                · refine lv_iconst (v := iV 0) hx hb dX9_hatch_75 (by decide) ?_
                  refine z_eq (z := bP (mMay nv nq)) (by first | exact (bP_t ⟨by omega, by assumption⟩).symm | exact (bP_f (fun q => by first | exact absurd q.2 (by assumption) | (have := q.1; omega))).symm) ?_
                  exact jn_76  _ _ hP hD hS _ (lv_cons (lv_at hl 0 rfl) (lv_cons (lv_at hl 1 rfl) (lv_cons (lv_at hl 2 rfl) (lv_cons (lv_at hl 3 rfl) (lv_cons (lv_at hl 4 rfl) (lv_nil hl))))))
                · refine lv_aload_n hx hb dX9_hatch_54 rfl (lv_at hl 0 rfl) ?_
                  refine lv_iload hx hb dX9_hatch_55 (lv_at hl 4 rfl) ?_
                  refine lv_bipush (v := iV 9) hx hb dX9_hatch_57 (by decide) ?_
                  refine z_irem hx hb (by omega) (by omega) dX9_hatch_59 ?_
                  refine lv_iload hx hb dX9_hatch_60 (lv_at hl 4 rfl) ?_
                  refine lv_bipush (v := iV 9) hx hb dX9_hatch_62 (by decide) ?_
                  refine z_idiv hx hb (by omega) (by omega) dX9_hatch_64 ?_
                  refine z_callV X hP hS hl.1 (c_X9_whyNot l G _ mA mLen mSpot ((mNt mUn bf nw).1) mRr mPit mFar mTm nv ((Nat.cast nq : Int) % 9) ((Nat.cast nq : Int) / 9) (by first | assumption | omega) (by first | assumption | omega)) wd_1021 kX9_whyNot ⟨rfl, rfl, Nat.le_of_ble_eq_true rfl, Nat.le_of_ble_eq_true rfl⟩ [0, 1] rfl 0 rfl rfl rfl rfl (Nat.le_of_ble_eq_true rfl) dX9_hatch_65 ⟨Nat.zero_le _, Nat.zero_le _⟩ (fun H locs hP hS => ?_)
                  have f_12 := mWhy_r nv (9 * ((Nat.cast nq : Int) / 9) + ((Nat.cast nq : Int) % 9))
                  refine z_eq (z := (mWhy nv (Nat.cast nq : Int))) (by rw [c9i _ (by omega)]) ?_
                  have hwr := mWhy_r nv (Nat.cast nq : Int)
                  refine z_if_ne (tgt := 75) hx hb (by omega) dX9_hatch_68 (by decide) (fun c_13 => ?_) (fun c_13 => ?_)
                  · refine lv_iconst (v := iV 0) hx hb dX9_hatch_75 (by decide) ?_
                    refine z_eq (z := bP (mMay nv nq)) (by first | exact (bP_t ⟨by omega, by assumption⟩).symm | exact (bP_f (fun q => by first | exact absurd q.2 (by assumption) | (have := q.1; omega))).symm) ?_
                    exact jn_76  _ _ hP hD hS _ (lv_cons (lv_at hl 0 rfl) (lv_cons (lv_at hl 1 rfl) (lv_cons (lv_at hl 2 rfl) (lv_cons (lv_at hl 3 rfl) (lv_cons (lv_at hl 4 rfl) (lv_nil hl))))))
                  · refine lv_iconst (v := iV 1) hx hb dX9_hatch_71 (by decide) ?_
                    refine lv_goto (tgt := 76) hx hb dX9_hatch_72 (by decide) ?_
                    refine z_eq (z := bP (mMay nv nq)) (by first | exact (bP_t ⟨by omega, by assumption⟩).symm | exact (bP_f (fun q => by first | exact absurd q.2 (by assumption) | (have := q.1; omega))).symm) ?_
                    exact jn_76  _ _ hP hD hS _ (lv_cons (lv_at hl 0 rfl) (lv_cons (lv_at hl 1 rfl) (lv_cons (lv_at hl 2 rfl) (lv_cons (lv_at hl 3 rfl) (lv_cons (lv_at hl 4 rfl) (lv_nil hl))))))
          exact lp_30 _ 0 (by first | assumption | omega) (Nat.lt_succ_self _) _ _ hP hD hS _ (lv_cons (lv_at hl 2 rfl) (lv_cons (lv_at hl 3 rfl) (lv_cons (lv_at hl 4 rfl) (lv_cons (lv_i hl 1 rfl (by first | rfl | omega)) (lv_cons (lv_i hl 0 rfl (by first | rfl | omega)) (lv_nil hl))))))
  exact lp_8 _ 20 1 nw (hM) (by omega) (by omega) (fun _ => by show 20 - nw 88 ≤ (Nat.cast 20 : Int); omega) (⟨fun _ => rfl, fun h => absurd h (by decide)⟩) (Nat.lt_succ_self _) _ _ hP hD hS _ (lv_cons (lv_at hl 2 rfl) (lv_cons (lv_i hl 1 rfl (by first | rfl | omega | (rw [mDr_88]; omega))) (lv_cons (lv_at hl 0 rfl) (lv_nil hl))))

set_option maxHeartbeats 4000000 in
set_option maxRecDepth 100000 in
theorem c_X9_stroke (l : Launch) (G : zG) (sz : Nat) (mA : Nat → Nat) (mLen : Int) (mSpot : Int) (mUn : Int) (mRr : Int) (mPit : Int) (mFar : Int) (mTm : Int) (nw : Nat → Int) (sI : Int) (kI : Int) (hM : mOK nw) (hrsI : iR sI) (hrkI : iR kI) : Met l yX9_stroke (Cond.code yX9_stroke cX9_stroke 5 (some .int) :: zT) (zRm 2 46) (zPr G [.ref (mA 0), .int (iV sI), .int (iV kI)] [(mA 0, .inr (9, [.int (iV mLen), .ref (mA 1), .int (iV mSpot), .ref (mA 2), .ref (mA 3), .ref (mA 4), .int (iV mUn), .int (iV mRr), .int (iV mPit), .int (iV mFar), .ref (mA 5), .ref (mA 6), .ref (mA 7), .ref (mA 8), .int (iV mTm), .ref (mA 9), .ref (mA 10), .ref (mA 11)])), (mA 2, .inl (G.2.1, 249, .inl (fun k => iV (nw k))))] sz) (zQr (mStk nw sI kI) sz) 0 0 (zF sz) := by
  refine Met.ofW (cc := cX9_stroke) (maxL := 5) (ret := (some .int)) (by decide) rfl ?_
  intro p e s m args below meth c s₁ B hml hv
  obtain ⟨rfl, hsz, hP, hK, hSt⟩ := hv
  have hx := B.exec
  have hb := B.bytes
  have hr := B.returns
  have hts : ∀ w ∈ zT, w.before _ s = true := fun w h => atoms_spec (ws := (Cond.code yX9_stroke cX9_stroke 5 (some .int) :: zT)) B.pre w (List.mem_cons_of_mem _ h)
  have hown : s.vm.findClass RX9 = some m.cls := findClass_of_methodNamed B.named
  have hlocks := B.notSynchronized
  subst hsz
  have hA : ∀ q : Nat, s.heap.size ≤ q → zF s.heap.size q := fun _ h => h
  have hS : va_S (zF s.heap.size) s.heap s.heap [] := va_S.rf
  have hP : va_P G.1 vwCl [(mA 0, .inr (9, [.int (iV mLen), .ref (mA 1), .int (iV mSpot), .ref (mA 2), .ref (mA 3), .ref (mA 4), .int (iV mUn), .int (iV mRr), .int (iV mPit), .int (iV mFar), .ref (mA 5), .ref (mA 6), .ref (mA 7), .ref (mA 8), .int (iV mTm), .ref (mA 9), .ref (mA 10), .ref (mA 11)])), (mA 2, .inl (G.2.1, 249, .inl (fun k => iV (nw k))))] s.heap := hP
  have X := And.intro hx (And.intro hb (And.intro hml (And.intro hown (And.intro hts (And.intro hK (And.intro hSt hA))))))
  have hl := lv_entry ([.ref (mA 0), .int (iV sI), .int (iV kI)]) (n := 5) (Nat.le_of_ble_eq_true rfl)
  rw [lg_entry_eq]
  generalize (lg_sl ([.ref (mA 0), .int (iV sI), .int (iV kI)]) ++ List.replicate (5 - (lg_sl ([.ref (mA 0), .int (iV sI), .int (iV kI)])).length) Slot.unset).toArray = ls at hl ⊢
  have hl : lv_has ls 5 [(0, .ref (mA 0)), (1, .int (iV sI)), (2, .int (iV kI))] := hl
  obtain ⟨hG, hWH3, hn88, hnL, hnQ, hn6, hn80⟩ := id hM
  obtain ⟨hW0, hW9, hH0, hH9, hg⟩ := id hG
  refine lv_aload_n hx hb dX9_stroke_0 rfl (lv_at hl 0 rfl) ?_
  refine lv_iload_n hx hb dX9_stroke_1 rfl (lv_at hl 1 rfl) ?_
  refine z_callV X hP hS hl.1 (c_X9_isStroke l G _ mA mLen mSpot mUn mRr mPit mFar mTm nw sI (by first | assumption | omega) (by first | assumption | omega)) wd_1041 kX9_isStroke ⟨rfl, rfl, Nat.le_of_ble_eq_true rfl, Nat.le_of_ble_eq_true rfl⟩ [0, 1] rfl 0 rfl rfl rfl rfl (Nat.le_of_ble_eq_true rfl) dX9_stroke_2 ⟨Nat.zero_le _, Nat.zero_le _⟩ (fun H locs hP hS => ?_)
  refine z_ifb_eq (tgt := 14) hx hb dX9_stroke_5 (by decide) (fun c_1 => ?_) (fun c_1 => ?_)
  · refine lv_iconst (v := iV (-1)) hx hb dX9_stroke_14 (by decide) ?_
    refine z_eq (z := (mStk nw sI kI)) (by unfold mStk; first | rw [if_neg (by omega)] | (rw [if_pos (by omega)]; first | rw [if_pos (by assumption)] | rw [if_neg (by omega), if_pos (by assumption)] | rw [if_neg (by omega), if_neg (by omega), if_pos (by assumption)] | rw [if_neg (by omega), if_neg (by omega), if_neg (by omega), if_pos (by omega)] | rw [if_neg (by omega), if_neg (by omega), if_neg (by omega), if_neg (by omega)])) ?_
    exact z_ret hx hb hr hlocks hS dX9_stroke_15
  · refine lv_iload_n hx hb dX9_stroke_8 rfl (lv_at hl 2 rfl) ?_
    refine lv_bipush (v := iV (-3)) hx hb dX9_stroke_9 (by decide) ?_
    refine z_icmp_ge (tgt := 16) hx hb (by omega) ⟨by decide, by decide⟩ dX9_stroke_11 (by decide) (fun c_2 => ?_) (fun c_2 => ?_)
    · refine lv_bipush (v := iV 89) hx hb dX9_stroke_16 (by decide) ?_
      refine lv_bipush (v := iV 8) hx hb dX9_stroke_18 (by decide) ?_
      refine lv_iload_n hx hb dX9_stroke_20 rfl (lv_at hl 1 rfl) ?_
      refine z_imul hx hb dX9_stroke_21 ?_
      refine z_iadd hx hb dX9_stroke_22 ?_
      refine lv_istore_n (lv' := [(3, .int (iV (89 + (8 * sI)))), (0, .ref (mA 0)), (1, .int (iV sI)), (2, .int (iV kI))]) hx hb dX9_stroke_23 rfl hl (by decide) rfl (fun ls hl => ?_)
      refine lv_aload_n hx hb dX9_stroke_24 rfl (lv_at hl 1 rfl) ?_
      refine va_get (D := G.1) (ci := 9) (v := .ref (mA 2)) (C := RX9) (T := TX9) (N := 18) hx hb hts inX9 hown hK hP 0 rfl rfl 3 (by decide) (hts _ wd_761) (fun _ h9 => h9) rfl dX9_stroke_25 ?_
      refine lv_iload_n hx hb dX9_stroke_28 rfl (lv_at hl 0 rfl) ?_
      refine lv_bipush (v := iV 6) hx hb dX9_stroke_29 (by decide) ?_
      refine z_iadd hx hb dX9_stroke_31 ?_
      refine z_iald (G := G) (f := nw) hx hb hK hP 1 rfl (by omega) (by omega) (by decide) dX9_stroke_32 ?_
      refine z_eq (z := (nL nw sI.toNat)) (by exact nL_at' (by omega)) ?_
      have hvL := hnL sI.toNat
      refine lv_istore (lv' := [(4, .int (iV (nL nw sI.toNat))), (3, .int (iV (89 + (8 * sI)))), (0, .ref (mA 0)), (1, .int (iV sI)), (2, .int (iV kI))]) hx hb dX9_stroke_33 hl (by decide) rfl (fun ls hl => ?_)
      refine lv_iload_n hx hb dX9_stroke_35 rfl (lv_at hl 4 rfl) ?_
      by_cases h_3 : kI = (-3)
      · refine z_tsw (tgt := 77) (k := (-3)) (off := 41) hx hb dX9_stroke_36 h_3 (by decide) (by decide) ?_
        refine lv_aload_n hx hb dX9_stroke_77 rfl (lv_at hl 2 rfl) ?_
        refine va_get (D := G.1) (ci := 9) (v := .ref (mA 2)) (C := RX9) (T := TX9) (N := 18) hx hb hts inX9 hown hK hP 0 rfl rfl 3 (by decide) (hts _ wd_761) (fun _ h9 => h9) rfl dX9_stroke_78 ?_
        refine lv_bipush (v := iV 7) hx hb dX9_stroke_81 (by decide) ?_
        refine lv_aload_n hx hb dX9_stroke_83 rfl (lv_at hl 2 rfl) ?_
        refine va_get (D := G.1) (ci := 9) (v := .ref (mA 2)) (C := RX9) (T := TX9) (N := 18) hx hb hts inX9 hown hK hP 0 rfl rfl 3 (by decide) (hts _ wd_761) (fun _ h9 => h9) rfl dX9_stroke_84 ?_
        refine lv_iload_n hx hb dX9_stroke_87 rfl (lv_at hl 1 rfl) ?_
        refine z_iald (G := G) (f := nw) hx hb hK hP 1 rfl (by omega) (by omega) (by decide) dX9_stroke_88 ?_
        refine z_eq (z := (nCe nw sI.toNat 0)) (by unfold nCe; congr 1; omega) ?_
        have hv1 : 0 ≤ nCe nw sI.toNat 0 ∧ nCe nw sI.toNat 0 ≤ 80 := hn80 (89 + 8 * sI.toNat + 0) (by omega)
        refine z_iadd hx hb dX9_stroke_89 ?_
        refine z_iald (G := G) (f := nw) hx hb hK hP 1 rfl (by omega) (by omega) (by decide) dX9_stroke_90 ?_
        refine z_eq (z := (nG nw (nCe nw sI.toNat 0).toNat)) (by exact nG_c hv1) ?_
        refine lv_aload_n hx hb dX9_stroke_91 rfl (lv_at hl 2 rfl) ?_
        refine va_get (D := G.1) (ci := 9) (v := .ref (mA 2)) (C := RX9) (T := TX9) (N := 18) hx hb hts inX9 hown hK hP 0 rfl rfl 3 (by decide) (hts _ wd_761) (fun _ h9 => h9) rfl dX9_stroke_92 ?_
        refine lv_bipush (v := iV 7) hx hb dX9_stroke_95 (by decide) ?_
        refine lv_aload_n hx hb dX9_stroke_97 rfl (lv_at hl 2 rfl) ?_
        refine va_get (D := G.1) (ci := 9) (v := .ref (mA 2)) (C := RX9) (T := TX9) (N := 18) hx hb hts inX9 hown hK hP 0 rfl rfl 3 (by decide) (hts _ wd_761) (fun _ h9 => h9) rfl dX9_stroke_98 ?_
        refine lv_iload_n hx hb dX9_stroke_101 rfl (lv_at hl 1 rfl) ?_
        refine lv_iload hx hb dX9_stroke_102 (lv_at hl 0 rfl) ?_
        refine z_iadd hx hb dX9_stroke_104 ?_
        refine lv_iconst (v := iV 1) hx hb dX9_stroke_105 (by decide) ?_
        refine z_isub hx hb dX9_stroke_106 ?_
        refine z_iald (G := G) (f := nw) hx hb hK hP 1 rfl (by omega) (by omega) (by decide) dX9_stroke_107 ?_
        have hv2 := hn80 (89 + 8 * sI + nL nw sI.toNat - 1).toNat (by omega)
        refine z_iadd hx hb dX9_stroke_108 ?_
        refine z_iald (G := G) (f := nw) hx hb hK hP 1 rfl (by omega) (by omega) (by decide) dX9_stroke_109 ?_
        refine z_eq (z := (nG nw (nw (89 + 8 * sI + nL nw sI.toNat - 1).toNat).toNat)) (by exact nG_c hv2) ?_
        refine z_isub hx hb dX9_stroke_110 ?_
        refine z_eq (z := (mStk nw sI kI)) (by unfold mStk; first | rw [if_neg (by omega)] | (rw [if_pos (by omega)]; first | rw [if_pos (by assumption)] | rw [if_neg (by omega), if_pos (by assumption)] | rw [if_neg (by omega), if_neg (by omega), if_pos (by assumption)] | rw [if_neg (by omega), if_neg (by omega), if_neg (by omega), if_pos (by omega)] | rw [if_neg (by omega), if_neg (by omega), if_neg (by omega), if_neg (by omega)])) ?_
        exact z_ret hx hb hr hlocks hS dX9_stroke_111
      by_cases h_4 : kI = (-2)
      · refine z_tsw (tgt := 67) (k := (-2)) (off := 31) hx hb dX9_stroke_36 h_4 (by decide) (by decide) ?_
        refine lv_aload_n hx hb dX9_stroke_67 rfl (lv_at hl 2 rfl) ?_
        refine va_get (D := G.1) (ci := 9) (v := .ref (mA 2)) (C := RX9) (T := TX9) (N := 18) hx hb hts inX9 hown hK hP 0 rfl rfl 3 (by decide) (hts _ wd_761) (fun _ h9 => h9) rfl dX9_stroke_68 ?_
        refine lv_iload_n hx hb dX9_stroke_71 rfl (lv_at hl 1 rfl) ?_
        refine lv_bipush (v := iV 7) hx hb dX9_stroke_72 (by decide) ?_
        refine z_iadd hx hb dX9_stroke_74 ?_
        refine z_iald (G := G) (f := nw) hx hb hK hP 1 rfl (by omega) (by omega) (by decide) dX9_stroke_75 ?_
        refine z_eq (z := (nE nw sI.toNat)) (by exact nE_at (by omega)) ?_
        refine z_eq (z := (mStk nw sI kI)) (by unfold mStk; first | rw [if_neg (by omega)] | (rw [if_pos (by omega)]; first | rw [if_pos (by assumption)] | rw [if_neg (by omega), if_pos (by assumption)] | rw [if_neg (by omega), if_neg (by omega), if_pos (by assumption)] | rw [if_neg (by omega), if_neg (by omega), if_neg (by omega), if_pos (by omega)] | rw [if_neg (by omega), if_neg (by omega), if_neg (by omega), if_neg (by omega)])) ?_
        exact z_ret hx hb hr hlocks hS dX9_stroke_76
      by_cases h_5 : kI = (-1)
      · refine z_tsw (tgt := 64) (k := (-1)) (off := 28) hx hb dX9_stroke_36 h_5 (by decide) (by decide) ?_
        refine lv_iload hx hb dX9_stroke_64 (lv_at hl 0 rfl) ?_
        refine z_eq (z := (mStk nw sI kI)) (by unfold mStk; first | rw [if_neg (by omega)] | (rw [if_pos (by omega)]; first | rw [if_pos (by assumption)] | rw [if_neg (by omega), if_pos (by assumption)] | rw [if_neg (by omega), if_neg (by omega), if_pos (by assumption)] | rw [if_neg (by omega), if_neg (by omega), if_neg (by omega), if_pos (by omega)] | rw [if_neg (by omega), if_neg (by omega), if_neg (by omega), if_neg (by omega)])) ?_
        exact z_ret hx hb hr hlocks hS dX9_stroke_66
      refine z_tswd (tgt := 112) hx hb (by omega) dX9_stroke_36 (by omega) (by decide) ?_
      refine lv_iload_n hx hb dX9_stroke_112 rfl (lv_at hl 4 rfl) ?_
      refine lv_iload hx hb dX9_stroke_113 (lv_at hl 0 rfl) ?_
      refine z_icmp_ge (tgt := 129) hx hb (by omega) (by omega) dX9_stroke_115 (by decide) (fun c_6 => ?_) (fun c_6 => ?_)
      · refine lv_bipush (v := iV (-4)) hx hb dX9_stroke_129 (by decide) ?_
        refine z_eq (z := (mStk nw sI kI)) (by unfold mStk; first | rw [if_neg (by omega)] | (rw [if_pos (by omega)]; first | rw [if_pos (by assumption)] | rw [if_neg (by omega), if_pos (by assumption)] | rw [if_neg (by omega), if_neg (by omega), if_pos (by assumption)] | rw [if_neg (by omega), if_neg (by omega), if_neg (by omega), if_pos (by omega)] | rw [if_neg (by omega), if_neg (by omega), if_neg (by omega), if_neg (by omega)])) ?_
        exact z_ret hx hb hr hlocks hS dX9_stroke_131
      · refine lv_aload_n hx hb dX9_stroke_118 rfl (lv_at hl 2 rfl) ?_
        refine va_get (D := G.1) (ci := 9) (v := .ref (mA 2)) (C := RX9) (T := TX9) (N := 18) hx hb hts inX9 hown hK hP 0 rfl rfl 3 (by decide) (hts _ wd_761) (fun _ h9 => h9) rfl dX9_stroke_119 ?_
        refine lv_iload_n hx hb dX9_stroke_122 rfl (lv_at hl 1 rfl) ?_
        refine lv_iload_n hx hb dX9_stroke_123 rfl (lv_at hl 4 rfl) ?_
        refine z_iadd hx hb dX9_stroke_124 ?_
        refine z_iald (G := G) (f := nw) hx hb hK hP 1 rfl (by omega) (by omega) (by decide) dX9_stroke_125 ?_
        refine z_eq (z := (nCe nw sI.toNat kI.toNat)) (by unfold nCe; congr 1; omega) ?_
        refine lv_goto (tgt := 131) hx hb dX9_stroke_126 (by decide) ?_
        refine z_eq (z := (mStk nw sI kI)) (by unfold mStk; first | rw [if_neg (by omega)] | (rw [if_pos (by omega)]; first | rw [if_pos (by assumption)] | rw [if_neg (by omega), if_pos (by assumption)] | rw [if_neg (by omega), if_neg (by omega), if_pos (by assumption)] | rw [if_neg (by omega), if_neg (by omega), if_neg (by omega), if_pos (by omega)] | rw [if_neg (by omega), if_neg (by omega), if_neg (by omega), if_neg (by omega)])) ?_
        exact z_ret hx hb hr hlocks hS dX9_stroke_131
    · refine lv_iconst (v := iV (-1)) hx hb dX9_stroke_14 (by decide) ?_
      refine z_eq (z := (mStk nw sI kI)) (by unfold mStk; first | rw [if_neg (by omega)] | (rw [if_pos (by omega)]; first | rw [if_pos (by assumption)] | rw [if_neg (by omega), if_pos (by assumption)] | rw [if_neg (by omega), if_neg (by omega), if_pos (by assumption)] | rw [if_neg (by omega), if_neg (by omega), if_neg (by omega), if_pos (by omega)] | rw [if_neg (by omega), if_neg (by omega), if_neg (by omega), if_neg (by omega)])) ?_
      exact z_ret hx hb hr hlocks hS dX9_stroke_15

set_option maxHeartbeats 4000000 in
set_option maxRecDepth 100000 in
theorem c_X9_whose (l : Launch) (G : zG) (sz : Nat) (mA : Nat → Nat) (mLen : Int) (mSpot : Int) (mUn : Int) (mRr : Int) (mPit : Int) (mFar : Int) (mTm : Int) (nw : Nat → Int) (xI : Int) (yI : Int) (hM : mOK nw) (hrxI : iR xI) (hryI : iR yI) : Met l yX9_whose (Cond.code yX9_whose cX9_whose 5 (some .int) :: zT) (zRm 2 47) (zPr G [.ref (mA 0), .int (iV xI), .int (iV yI)] [(mA 0, .inr (9, [.int (iV mLen), .ref (mA 1), .int (iV mSpot), .ref (mA 2), .ref (mA 3), .ref (mA 4), .int (iV mUn), .int (iV mRr), .int (iV mPit), .int (iV mFar), .ref (mA 5), .ref (mA 6), .ref (mA 7), .ref (mA 8), .int (iV mTm), .ref (mA 9), .ref (mA 10), .ref (mA 11)])), (mA 2, .inl (G.2.1, 249, .inl (fun k => iV (nw k))))] sz) (zQr (if hXY (nw 0) (nw 1) xI yI then cNone (sOwn (nL nw) (nCe nw) (9 * yI + xI) (nw 88).toNat 0) else -1) sz) 0 0 (zF sz) := by
  refine Met.ofW (cc := cX9_whose) (maxL := 5) (ret := (some .int)) (by decide) rfl ?_
  intro p e s m args below meth c s₁ B hml hv
  obtain ⟨rfl, hsz, hP, hK, hSt⟩ := hv
  have hx := B.exec
  have hb := B.bytes
  have hr := B.returns
  have hts : ∀ w ∈ zT, w.before _ s = true := fun w h => atoms_spec (ws := (Cond.code yX9_whose cX9_whose 5 (some .int) :: zT)) B.pre w (List.mem_cons_of_mem _ h)
  have hown : s.vm.findClass RX9 = some m.cls := findClass_of_methodNamed B.named
  have hlocks := B.notSynchronized
  subst hsz
  have hA : ∀ q : Nat, s.heap.size ≤ q → zF s.heap.size q := fun _ h => h
  have hS : va_S (zF s.heap.size) s.heap s.heap [] := va_S.rf
  have hP : va_P G.1 vwCl [(mA 0, .inr (9, [.int (iV mLen), .ref (mA 1), .int (iV mSpot), .ref (mA 2), .ref (mA 3), .ref (mA 4), .int (iV mUn), .int (iV mRr), .int (iV mPit), .int (iV mFar), .ref (mA 5), .ref (mA 6), .ref (mA 7), .ref (mA 8), .int (iV mTm), .ref (mA 9), .ref (mA 10), .ref (mA 11)])), (mA 2, .inl (G.2.1, 249, .inl (fun k => iV (nw k))))] s.heap := hP
  have X := And.intro hx (And.intro hb (And.intro hml (And.intro hown (And.intro hts (And.intro hK (And.intro hSt hA))))))
  have hl := lv_entry ([.ref (mA 0), .int (iV xI), .int (iV yI)]) (n := 5) (Nat.le_of_ble_eq_true rfl)
  rw [lg_entry_eq]
  generalize (lg_sl ([.ref (mA 0), .int (iV xI), .int (iV yI)]) ++ List.replicate (5 - (lg_sl ([.ref (mA 0), .int (iV xI), .int (iV yI)])).length) Slot.unset).toArray = ls at hl ⊢
  have hl : lv_has ls 5 [(0, .ref (mA 0)), (1, .int (iV xI)), (2, .int (iV yI))] := hl
  obtain ⟨hG, hWH3, hn88, hnL, hnQ, hn6, hn80⟩ := id hM
  obtain ⟨hW0, hW9, hH0, hH9, hg⟩ := id hG
  refine lv_aload_n hx hb dX9_whose_0 rfl (lv_at hl 0 rfl) ?_
  refine lv_iload_n hx hb dX9_whose_1 rfl (lv_at hl 1 rfl) ?_
  refine lv_iload_n hx hb dX9_whose_2 rfl (lv_at hl 2 rfl) ?_
  refine z_callV X hP hS hl.1 (c_X9_isCell l G _ mA mLen mSpot mUn mRr mPit mFar mTm nw xI yI (by first | assumption | omega) (by first | assumption | omega) (by first | assumption | omega)) wd_875 kX9_isCell ⟨rfl, rfl, Nat.le_of_ble_eq_true rfl, Nat.le_of_ble_eq_true rfl⟩ [0, 1] rfl 0 rfl rfl rfl rfl (Nat.le_of_ble_eq_true rfl) dX9_whose_3 ⟨Nat.zero_le _, Nat.zero_le _⟩ (fun H locs hP hS => ?_)
  refine z_ifb_ne (tgt := 11) hx hb dX9_whose_6 (by decide) (fun c_1 => ?_) (fun c_1 => ?_)
  · have hce : hXY (nw 0) (nw 1) xI yI := by assumption
    refine lv_iconst (v := iV 0) hx hb dX9_whose_11 (by decide) ?_
    refine lv_istore_n (lv' := [(3, .int (iV 0)), (0, .ref (mA 0)), (1, .int (iV xI)), (2, .int (iV yI))]) hx hb dX9_whose_12 rfl hl (by decide) rfl (fun ls hl => ?_)
    have lp_13 : ∀ (k : Nat) (tq : Nat) , ((Nat.cast tq : Int) ≤ nw 88) → (sOwn (nL nw) (nCe nw) (9 * yI + xI) (nw 88).toNat 0 = sOwn (nL nw) (nCe nw) (9 * yI + xI) ((nw 88).toNat - tq) tq) → (20 - tq) < k → ∀ (H : Heap) (locs : List Loc), va_P G.1 vwCl [(mA 0, .inr (9, [.int (iV mLen), .ref (mA 1), .int (iV mSpot), .ref (mA 2), .ref (mA 3), .ref (mA 4), .int (iV mUn), .int (iV mRr), .int (iV mPit), .int (iV mFar), .ref (mA 5), .ref (mA 6), .ref (mA 7), .ref (mA 8), .int (iV mTm), .ref (mA 9), .ref (mA 10), .ref (mA 11)])), (mA 2, .inl (G.2.1, 249, .inl (fun k => iV (nw k))))] H → va_S (zF s.heap.size) s.heap H locs → ∀ ls : Array Slot, lv_has ls 5 [(0, .ref (mA 0)), (1, .int (iV xI)), (2, .int (iV yI)), (3, .int (iV (Nat.cast tq : Int)))] → W p l e (headSpec (Cond.code yX9_whose cX9_whose 5 (some .int) :: zT) (zRm 2 47)).room s m ([Value.ref (mA 0), Value.int (iV xI), Value.int (iV yI)] : List Value).toArray below meth c H locs 0 0 (MQ below (zQr (if hXY (nw 0) (nw 1) xI yI then cNone (sOwn (nL nw) (nCe nw) (9 * yI + xI) (nw 88).toNat 0) else -1) s.heap.size) ([Value.ref (mA 0), Value.int (iV xI), Value.int (iV yI)] : List Value).toArray s 0 0 (zF s.heap.size)) (F0 m 13 ls []) := by
      intro k
      induction k with
      | zero => intro tq ht hp hk_; exact absurd hk_ (Nat.not_lt_zero _)
      | succ k ih_13 =>
        intro tq ht hp hk_13 H locs hP hS ls hl
        have hvL := hnL tq
        refine lv_iload_n hx hb dX9_whose_13 rfl (lv_at hl 3 rfl) ?_
        refine lv_aload_n hx hb dX9_whose_14 rfl (lv_at hl 0 rfl) ?_
        refine va_get (D := G.1) (ci := 9) (v := .ref (mA 2)) (C := RX9) (T := TX9) (N := 18) hx hb hts inX9 hown hK hP 0 rfl rfl 3 (by decide) (hts _ wd_761) (fun _ h9 => h9) rfl dX9_whose_15 ?_
        refine lv_bipush (v := iV 88) hx hb dX9_whose_18 (by decide) ?_
        refine z_iald (G := G) (f := nw) hx hb hK hP 1 rfl (by omega) (by omega) (by decide) dX9_whose_20 ?_
        refine z_eq (z := (nw 88)) (by rfl) ?_
        refine z_icmp_ge (tgt := 85) hx hb (by omega) (by omega) dX9_whose_21 (by decide) (fun c_2 => ?_) (fun c_2 => ?_)
        · refine lv_bipush (v := iV (-4)) hx hb dX9_whose_85 (by decide) ?_
          refine z_eq (z := (if hXY (nw 0) (nw 1) xI yI then cNone (sOwn (nL nw) (nCe nw) (9 * yI + xI) (nw 88).toNat 0) else -1)) (by rw [if_pos hce, hp, show (nw 88).toNat - tq = 0 by omega]; rfl) ?_
          exact z_ret hx hb hr hlocks hS dX9_whose_87
        · refine lv_iconst (v := iV 0) hx hb dX9_whose_24 (by decide) ?_
          refine lv_istore (lv' := [(4, .int (iV 0)), (0, .ref (mA 0)), (1, .int (iV xI)), (2, .int (iV yI)), (3, .int (iV (Nat.cast tq : Int)))]) hx hb dX9_whose_25 hl (by decide) rfl (fun ls hl => ?_)
          have lp_27 : ∀ (k : Nat) (jq : Nat) , ((Nat.cast jq : Int) ≤ nL nw tq) → (∀ k : Nat, k < jq → ¬ nCe nw tq k = 9 * yI + xI) → (6 - jq) < k → ∀ (H : Heap) (locs : List Loc), va_P G.1 vwCl [(mA 0, .inr (9, [.int (iV mLen), .ref (mA 1), .int (iV mSpot), .ref (mA 2), .ref (mA 3), .ref (mA 4), .int (iV mUn), .int (iV mRr), .int (iV mPit), .int (iV mFar), .ref (mA 5), .ref (mA 6), .ref (mA 7), .ref (mA 8), .int (iV mTm), .ref (mA 9), .ref (mA 10), .ref (mA 11)])), (mA 2, .inl (G.2.1, 249, .inl (fun k => iV (nw k))))] H → va_S (zF s.heap.size) s.heap H locs → ∀ ls : Array Slot, lv_has ls 5 [(0, .ref (mA 0)), (1, .int (iV xI)), (2, .int (iV yI)), (3, .int (iV (Nat.cast tq : Int))), (4, .int (iV (Nat.cast jq : Int)))] → W p l e (headSpec (Cond.code yX9_whose cX9_whose 5 (some .int) :: zT) (zRm 2 47)).room s m ([Value.ref (mA 0), Value.int (iV xI), Value.int (iV yI)] : List Value).toArray below meth c H locs 0 0 (MQ below (zQr (if hXY (nw 0) (nw 1) xI yI then cNone (sOwn (nL nw) (nCe nw) (9 * yI + xI) (nw 88).toNat 0) else -1) s.heap.size) ([Value.ref (mA 0), Value.int (iV xI), Value.int (iV yI)] : List Value).toArray s 0 0 (zF s.heap.size)) (F0 m 27 ls []) := by
            intro k
            induction k with
            | zero => intro jq hj hno hk_; exact absurd hk_ (Nat.not_lt_zero _)
            | succ k ih_27 =>
              intro jq hj hno hk_27 H locs hP hS ls hl
              refine lv_iload hx hb dX9_whose_27 (lv_at hl 4 rfl) ?_
              refine lv_aload_n hx hb dX9_whose_29 rfl (lv_at hl 0 rfl) ?_
              refine va_get (D := G.1) (ci := 9) (v := .ref (mA 2)) (C := RX9) (T := TX9) (N := 18) hx hb hts inX9 hown hK hP 0 rfl rfl 3 (by decide) (hts _ wd_761) (fun _ h9 => h9) rfl dX9_whose_30 ?_
              refine lv_bipush (v := iV 89) hx hb dX9_whose_33 (by decide) ?_
              refine lv_bipush (v := iV 8) hx hb dX9_whose_35 (by decide) ?_
              refine lv_iload_n hx hb dX9_whose_37 rfl (lv_at hl 3 rfl) ?_
              refine z_imul hx hb dX9_whose_38 ?_
              refine z_iadd hx hb dX9_whose_39 ?_
              refine lv_bipush (v := iV 6) hx hb dX9_whose_40 (by decide) ?_
              refine z_iadd hx hb dX9_whose_42 ?_
              refine z_iald (G := G) (f := nw) hx hb hK hP 1 rfl (by omega) (by omega) (by decide) dX9_whose_43 ?_
              refine z_eq (z := (nL nw tq)) (by exact nL_at (by omega)) ?_
              refine z_icmp_ge (tgt := 79) hx hb (by omega) (by omega) dX9_whose_44 (by decide) (fun c_3 => ?_) (fun c_3 => ?_)
              · refine z_iinc (lv' := [(3, .int (iV ((Nat.cast tq : Int) + 1))), (0, .ref (mA 0)), (1, .int (iV xI)), (2, .int (iV yI)), (4, .int (iV (Nat.cast jq : Int)))]) hx hb dX9_whose_79 hl (k := 3) rfl (by decide) rfl (fun ls hl => ?_)
                refine lv_goto (tgt := 13) hx hb dX9_whose_82 (by decide) ?_
                exact ih_13 (tq + 1) (by first | assumption | omega) (by rw [hp, sOwn_f (by omega) (fun ⟨k, h1, h2⟩ => hno k (by omega) h2)]; rfl) (by omega) _ _ hP hS _ (lv_cons (lv_at hl 1 rfl) (lv_cons (lv_at hl 2 rfl) (lv_cons (lv_at hl 3 rfl) (lv_cons (lv_i hl 0 rfl (by omega)) (lv_nil hl)))))
              · refine lv_aload_n hx hb dX9_whose_47 rfl (lv_at hl 0 rfl) ?_
                refine va_get (D := G.1) (ci := 9) (v := .ref (mA 2)) (C := RX9) (T := TX9) (N := 18) hx hb hts inX9 hown hK hP 0 rfl rfl 3 (by decide) (hts _ wd_761) (fun _ h9 => h9) rfl dX9_whose_48 ?_
                refine lv_bipush (v := iV 89) hx hb dX9_whose_51 (by decide) ?_
                refine lv_bipush (v := iV 8) hx hb dX9_whose_53 (by decide) ?_
                refine lv_iload_n hx hb dX9_whose_55 rfl (lv_at hl 3 rfl) ?_
                refine z_imul hx hb dX9_whose_56 ?_
                refine z_iadd hx hb dX9_whose_57 ?_
                refine lv_iload hx hb dX9_whose_58 (lv_at hl 4 rfl) ?_
                refine z_iadd hx hb dX9_whose_60 ?_
                refine z_iald (G := G) (f := nw) hx hb hK hP 1 rfl (by omega) (by omega) (by decide) dX9_whose_61 ?_
                refine z_eq (z := (nCe nw tq jq)) (by exact nT_at) ?_
                have hnt : 0 ≤ nCe nw tq jq ∧ nCe nw tq jq ≤ 80 := hn80 (89 + 8 * tq + jq) (by omega)
                refine lv_bipush (v := iV 9) hx hb dX9_whose_62 (by decide) ?_
                refine lv_iload_n hx hb dX9_whose_64 rfl (lv_at hl 2 rfl) ?_
                refine z_imul hx hb dX9_whose_65 ?_
                refine lv_iload_n hx hb dX9_whose_66 rfl (lv_at hl 1 rfl) ?_
                refine z_iadd hx hb dX9_whose_67 ?_
                refine z_icmp_ne (tgt := 73) hx hb (by omega) (by omega) dX9_whose_68 (by decide) (fun c_4 => ?_) (fun c_4 => ?_)
                · refine z_iinc (lv' := [(4, .int (iV ((Nat.cast jq : Int) + 1))), (0, .ref (mA 0)), (1, .int (iV xI)), (2, .int (iV yI)), (3, .int (iV (Nat.cast tq : Int)))]) hx hb dX9_whose_73 hl (k := 4) rfl (by decide) rfl (fun ls hl => ?_)
                  refine lv_goto (tgt := 27) hx hb dX9_whose_76 (by decide) ?_
                  exact ih_27 (jq + 1) (by first | assumption | omega) (by first | exact fun d hd => absurd hd (Nat.not_lt_zero d) | exact all_s hno (by assumption)) (by omega) _ _ hP hS _ (lv_cons (lv_at hl 1 rfl) (lv_cons (lv_at hl 2 rfl) (lv_cons (lv_at hl 3 rfl) (lv_cons (lv_at hl 4 rfl) (lv_cons (lv_i hl 0 rfl (by omega)) (lv_nil hl))))))
                · refine lv_iload_n hx hb dX9_whose_71 rfl (lv_at hl 3 rfl) ?_
                  refine z_eq (z := (if hXY (nw 0) (nw 1) xI yI then cNone (sOwn (nL nw) (nCe nw) (9 * yI + xI) (nw 88).toNat 0) else -1)) (by rw [if_pos hce, hp, sOwn_t (by omega) ⟨jq, by omega, by assumption⟩, cNone_n]) ?_
                  exact z_ret hx hb hr hlocks hS dX9_whose_72
          exact lp_27 _ 0 (by first | assumption | omega) (by first | exact fun d hd => absurd hd (Nat.not_lt_zero d) | exact all_s hno (by assumption)) (Nat.lt_succ_self _) _ _ hP hS _ (lv_cons (lv_at hl 1 rfl) (lv_cons (lv_at hl 2 rfl) (lv_cons (lv_at hl 3 rfl) (lv_cons (lv_at hl 4 rfl) (lv_cons (lv_i hl 0 rfl (by omega)) (lv_nil hl))))))
    exact lp_13 _ 0 (by first | assumption | omega) (by rfl) (Nat.lt_succ_self _) _ _ hP hS _ (lv_cons (lv_at hl 1 rfl) (lv_cons (lv_at hl 2 rfl) (lv_cons (lv_at hl 3 rfl) (lv_cons (lv_i hl 0 rfl (by omega)) (lv_nil hl)))))
  · refine lv_iconst (v := iV (-1)) hx hb dX9_whose_9 (by decide) ?_
    refine z_eq (z := (if hXY (nw 0) (nw 1) xI yI then cNone (sOwn (nL nw) (nCe nw) (9 * yI + xI) (nw 88).toNat 0) else -1)) (by rw [if_neg (by assumption)]) ?_
    exact z_ret hx hb hr hlocks hS dX9_whose_10

set_option maxHeartbeats 4000000 in
set_option maxRecDepth 100000 in
theorem c_X9_sumOf (l : Launch) (G : zG) (sz : Nat) (mA : Nat → Nat) (mLen : Int) (mSpot : Int) (mUn : Int) (mRr : Int) (mPit : Int) (mFar : Int) (mTm : Int) (nw : Nat → Int) (whI : Int) (hM : mOK nw) (hrwhI : iR whI) : Met l yX9_sumOf (Cond.code yX9_sumOf cX9_sumOf 6 (some .int) :: zT) (zRm 4 96) (zPr G [.ref (mA 0), .int (iV whI)] [(mA 0, .inr (9, [.int (iV mLen), .ref (mA 1), .int (iV mSpot), .ref (mA 2), .ref (mA 3), .ref (mA 4), .int (iV mUn), .int (iV mRr), .int (iV mPit), .int (iV mFar), .ref (mA 5), .ref (mA 6), .ref (mA 7), .ref (mA 8), .int (iV mTm), .ref (mA 9), .ref (mA 10), .ref (mA 11)])), (mA 2, .inl (G.2.1, 249, .inl (fun k => iV (nw k))))] sz) (zQr (sumN (mSo nw whI) 81) sz) 0 0 (zF sz) := by
  refine Met.ofW (cc := cX9_sumOf) (maxL := 6) (ret := (some .int)) (by decide) rfl ?_
  intro p e s m args below meth c s₁ B hml hv
  obtain ⟨rfl, hsz, hP, hK, hSt⟩ := hv
  have hx := B.exec
  have hb := B.bytes
  have hr := B.returns
  have hts : ∀ w ∈ zT, w.before _ s = true := fun w h => atoms_spec (ws := (Cond.code yX9_sumOf cX9_sumOf 6 (some .int) :: zT)) B.pre w (List.mem_cons_of_mem _ h)
  have hown : s.vm.findClass RX9 = some m.cls := findClass_of_methodNamed B.named
  have hlocks := B.notSynchronized
  subst hsz
  have hA : ∀ q : Nat, s.heap.size ≤ q → zF s.heap.size q := fun _ h => h
  have hS : va_S (zF s.heap.size) s.heap s.heap [] := va_S.rf
  have hP : va_P G.1 vwCl [(mA 0, .inr (9, [.int (iV mLen), .ref (mA 1), .int (iV mSpot), .ref (mA 2), .ref (mA 3), .ref (mA 4), .int (iV mUn), .int (iV mRr), .int (iV mPit), .int (iV mFar), .ref (mA 5), .ref (mA 6), .ref (mA 7), .ref (mA 8), .int (iV mTm), .ref (mA 9), .ref (mA 10), .ref (mA 11)])), (mA 2, .inl (G.2.1, 249, .inl (fun k => iV (nw k))))] s.heap := hP
  have X := And.intro hx (And.intro hb (And.intro hml (And.intro hown (And.intro hts (And.intro hK (And.intro hSt hA))))))
  have hl := lv_entry ([.ref (mA 0), .int (iV whI)]) (n := 6) (Nat.le_of_ble_eq_true rfl)
  rw [lg_entry_eq]
  generalize (lg_sl ([.ref (mA 0), .int (iV whI)]) ++ List.replicate (6 - (lg_sl ([.ref (mA 0), .int (iV whI)])).length) Slot.unset).toArray = ls at hl ⊢
  have hl : lv_has ls 6 [(0, .ref (mA 0)), (1, .int (iV whI))] := hl
  obtain ⟨hG, hWH3, hn88, hnL, hnQ, hn6, hn80⟩ := id hM
  obtain ⟨hW0, hW9, hH0, hH9, hg⟩ := id hG
  refine lv_iconst (v := iV 0) hx hb dX9_sumOf_0 (by decide) ?_
  refine lv_istore_n (lv' := [(2, .int (iV 0)), (0, .ref (mA 0)), (1, .int (iV whI))]) hx hb dX9_sumOf_1 rfl hl (by decide) rfl (fun ls hl => ?_)
  refine lv_iconst (v := iV 0) hx hb dX9_sumOf_2 (by decide) ?_
  refine lv_istore_n (lv' := [(3, .int (iV 0)), (2, .int (iV 0)), (0, .ref (mA 0)), (1, .int (iV whI))]) hx hb dX9_sumOf_3 rfl hl (by decide) rfl (fun ls hl => ?_)
  have lp_4 : ∀ (k : Nat) (nq : Nat) , (nq ≤ 81) → (81 - nq) < k → ∀ (H : Heap) (locs : List Loc), va_P G.1 vwCl [(mA 0, .inr (9, [.int (iV mLen), .ref (mA 1), .int (iV mSpot), .ref (mA 2), .ref (mA 3), .ref (mA 4), .int (iV mUn), .int (iV mRr), .int (iV mPit), .int (iV mFar), .ref (mA 5), .ref (mA 6), .ref (mA 7), .ref (mA 8), .int (iV mTm), .ref (mA 9), .ref (mA 10), .ref (mA 11)])), (mA 2, .inl (G.2.1, 249, .inl (fun k => iV (nw k))))] H → va_S (zF s.heap.size) s.heap H locs → ∀ ls : Array Slot, lv_has ls 6 [(0, .ref (mA 0)), (1, .int (iV whI)), (2, .int (iV (sumN (mSo nw whI) nq))), (3, .int (iV (Nat.cast nq : Int)))] → W p l e (headSpec (Cond.code yX9_sumOf cX9_sumOf 6 (some .int) :: zT) (zRm 4 96)).room s m ([Value.ref (mA 0), Value.int (iV whI)] : List Value).toArray below meth c H locs 0 0 (MQ below (zQr (sumN (mSo nw whI) 81) s.heap.size) ([Value.ref (mA 0), Value.int (iV whI)] : List Value).toArray s 0 0 (zF s.heap.size)) (F0 m 4 ls []) := by
    intro k
    induction k with
    | zero => intro nq hn hk_; exact absurd hk_ (Nat.not_lt_zero _)
    | succ k ih_4 =>
      intro nq hn hk_4 H locs hP hS ls hl
      refine lv_iload_n hx hb dX9_sumOf_4 rfl (lv_at hl 3 rfl) ?_
      refine lv_bipush (v := iV 81) hx hb dX9_sumOf_5 (by decide) ?_
      refine z_icmp_ge (tgt := 128) hx hb (by omega) ⟨by decide, by decide⟩ dX9_sumOf_7 (by decide) (fun c_1 => ?_) (fun c_1 => ?_)
      · refine lv_iload_n hx hb dX9_sumOf_128 rfl (lv_at hl 2 rfl) ?_
        refine z_eq (z := (sumN (mSo nw whI) 81)) (by have h8 : nq = 81 := (by omega); subst h8; rfl) ?_
        exact z_ret hx hb hr hlocks hS dX9_sumOf_129
      · refine lv_iload_n hx hb dX9_sumOf_10 rfl (lv_at hl 3 rfl) ?_
        refine lv_bipush (v := iV 9) hx hb dX9_sumOf_11 (by decide) ?_
        refine z_irem hx hb (by omega) (by omega) dX9_sumOf_13 ?_
        refine lv_istore (lv' := [(4, .int (iV ((Nat.cast nq : Int) % 9))), (0, .ref (mA 0)), (1, .int (iV whI)), (2, .int (iV (sumN (mSo nw whI) nq))), (3, .int (iV (Nat.cast nq : Int)))]) hx hb dX9_sumOf_14 hl (by decide) rfl (fun ls hl => ?_)
        refine lv_iload_n hx hb dX9_sumOf_16 rfl (lv_at hl 4 rfl) ?_
        refine lv_bipush (v := iV 9) hx hb dX9_sumOf_17 (by decide) ?_
        refine z_idiv hx hb (by omega) (by omega) dX9_sumOf_19 ?_
        refine lv_istore (lv' := [(5, .int (iV ((Nat.cast nq : Int) / 9))), (4, .int (iV ((Nat.cast nq : Int) % 9))), (0, .ref (mA 0)), (1, .int (iV whI)), (2, .int (iV (sumN (mSo nw whI) nq))), (3, .int (iV (Nat.cast nq : Int)))]) hx hb dX9_sumOf_20 hl (by decide) rfl (fun ls hl => ?_)
        refine lv_aload_n hx hb dX9_sumOf_22 rfl (lv_at hl 2 rfl) ?_
        refine lv_iload hx hb dX9_sumOf_23 (lv_at hl 1 rfl) ?_
        refine lv_iload hx hb dX9_sumOf_25 (lv_at hl 0 rfl) ?_
        refine z_callV X hP hS hl.1 (c_X9_isCell l G _ mA mLen mSpot mUn mRr mPit mFar mTm nw ((Nat.cast nq : Int) % 9) ((Nat.cast nq : Int) / 9) (by first | assumption | omega) (by first | assumption | omega) (by first | assumption | omega)) wd_875 kX9_isCell ⟨rfl, rfl, Nat.le_of_ble_eq_true rfl, Nat.le_of_ble_eq_true rfl⟩ [0, 1] rfl 0 rfl rfl rfl rfl (Nat.le_of_ble_eq_true rfl) dX9_sumOf_27 ⟨Nat.zero_le _, Nat.zero_le _⟩ (fun H locs hP hS => ?_)
        refine z_ifb_eq (tgt := 122) hx hb dX9_sumOf_30 (by decide) (fun c_2 => ?_) (fun c_2 => ?_)
        · refine z_iinc (lv' := [(3, .int (iV ((Nat.cast nq : Int) + 1))), (5, .int (iV ((Nat.cast nq : Int) / 9))), (4, .int (iV ((Nat.cast nq : Int) % 9))), (0, .ref (mA 0)), (1, .int (iV whI)), (2, .int (iV (sumN (mSo nw whI) nq)))]) hx hb dX9_sumOf_122 hl (k := 5) rfl (by decide) rfl (fun ls hl => ?_)
          refine lv_goto (tgt := 4) hx hb dX9_sumOf_125 (by decide) ?_
          exact ih_4 (nq + 1) (by first | assumption | omega) (by omega) _ _ hP hS _ (lv_cons (lv_at hl 3 rfl) (lv_cons (lv_at hl 4 rfl) (lv_cons (lv_i hl 5 rfl (by first | rfl | omega | (simp only [sumN]; unfold mSo; rw [if_neg (fun q => by have := q.2; exact absurd this (by assumption))]; omega))) (lv_cons (lv_i hl 0 rfl (by first | rfl | omega | (simp only [sumN]; unfold mSo; rw [if_neg (fun q => by have := q.2; exact absurd this (by assumption))]; omega))) (lv_nil hl)))))
        · have hin : gIn (nw 0) (nw 1) (Nat.cast nq : Int) := ⟨by omega, by assumption⟩
          refine lv_iload_n hx hb dX9_sumOf_33 rfl (lv_at hl 4 rfl) ?_
          refine lv_iload_n hx hb dX9_sumOf_34 rfl (lv_at hl 3 rfl) ?_
          refine lv_iconst (v := iV 5) hx hb dX9_sumOf_35 (by decide) ?_
          have jn_120 : ∀ (H : Heap) (locs : List Loc), va_P G.1 vwCl [(mA 0, .inr (9, [.int (iV mLen), .ref (mA 1), .int (iV mSpot), .ref (mA 2), .ref (mA 3), .ref (mA 4), .int (iV mUn), .int (iV mRr), .int (iV mPit), .int (iV mFar), .ref (mA 5), .ref (mA 6), .ref (mA 7), .ref (mA 8), .int (iV mTm), .ref (mA 9), .ref (mA 10), .ref (mA 11)])), (mA 2, .inl (G.2.1, 249, .inl (fun k => iV (nw k))))] H → va_S (zF s.heap.size) s.heap H locs → ∀ ls : Array Slot, lv_has ls 6 [(0, .ref (mA 0)), (1, .int (iV whI)), (2, .int (iV (sumN (mSo nw whI) nq))), (3, .int (iV (Nat.cast nq : Int))), (4, .int (iV ((Nat.cast nq : Int) % 9))), (5, .int (iV ((Nat.cast nq : Int) / 9)))] → W p l e (headSpec (Cond.code yX9_sumOf cX9_sumOf 6 (some .int) :: zT) (zRm 4 96)).room s m ([Value.ref (mA 0), Value.int (iV whI)] : List Value).toArray below meth c H locs 0 0 (MQ below (zQr (sumN (mSo nw whI) 81) s.heap.size) ([Value.ref (mA 0), Value.int (iV whI)] : List Value).toArray s 0 0 (zF s.heap.size)) (F0 m 120 ls [.int (iV (mSo nw whI nq)), .int (iV (sumN (mSo nw whI) nq))]) := by
            intro  H locs hP hS ls hl
            refine z_iadd hx hb dX9_sumOf_120 ?_
            refine lv_istore_n (lv' := [(2, .int (iV ((sumN (mSo nw whI) nq) + (mSo nw whI nq)))), (0, .ref (mA 0)), (1, .int (iV whI)), (3, .int (iV (Nat.cast nq : Int))), (4, .int (iV ((Nat.cast nq : Int) % 9))), (5, .int (iV ((Nat.cast nq : Int) / 9)))]) hx hb dX9_sumOf_121 rfl hl (by decide) rfl (fun ls hl => ?_)
            refine z_iinc (lv' := [(3, .int (iV ((Nat.cast nq : Int) + 1))), (2, .int (iV ((sumN (mSo nw whI) nq) + (mSo nw whI nq)))), (0, .ref (mA 0)), (1, .int (iV whI)), (4, .int (iV ((Nat.cast nq : Int) % 9))), (5, .int (iV ((Nat.cast nq : Int) / 9)))]) hx hb dX9_sumOf_122 hl (k := 3) rfl (by decide) rfl (fun ls hl => ?_)
            refine lv_goto (tgt := 4) hx hb dX9_sumOf_125 (by decide) ?_
            exact ih_4 (nq + 1) (by first | assumption | omega) (by omega) _ _ hP hS _ (lv_cons (lv_at hl 2 rfl) (lv_cons (lv_at hl 3 rfl) (lv_cons (lv_i hl 1 rfl (by first | rfl | omega | (simp only [sumN]; unfold mSo; rw [if_neg (fun q => by have := q.2; exact absurd this (by assumption))]; omega))) (lv_cons (lv_i hl 0 rfl (by first | rfl | omega | (simp only [sumN]; unfold mSo; rw [if_neg (fun q => by have := q.2; exact absurd this (by assumption))]; omega))) (lv_nil hl)))))
          refine z_icmp_ne (tgt := 59) hx hb (by omega) ⟨by decide, by decide⟩ dX9_sumOf_36 (by decide) (fun c_3 => ?_) (fun c_3 => ?_)
          · refine lv_iload_n hx hb dX9_sumOf_59 rfl (lv_at hl 3 rfl) ?_
            refine lv_bipush (v := iV 6) hx hb dX9_sumOf_60 (by decide) ?_
            refine z_icmp_ne (tgt := 85) hx hb (by omega) ⟨by decide, by decide⟩ dX9_sumOf_62 (by decide) (fun c_4 => ?_) (fun c_4 => ?_)
            · refine lv_iload_n hx hb dX9_sumOf_85 rfl (lv_at hl 3 rfl) ?_
              refine lv_bipush (v := iV 7) hx hb dX9_sumOf_86 (by decide) ?_
              refine z_icmp_ne (tgt := 112) hx hb (by omega) ⟨by decide, by decide⟩ dX9_sumOf_88 (by decide) (fun c_5 => ?_) (fun c_5 => ?_)
              · refine lv_aload_n hx hb dX9_sumOf_112 rfl (lv_at hl 2 rfl) ?_
                refine lv_iload hx hb dX9_sumOf_113 (lv_at hl 1 rfl) ?_
                refine lv_iload hx hb dX9_sumOf_115 (lv_at hl 0 rfl) ?_
                refine z_callV X hP hS hl.1 (c_X9_height l G _ mA mLen mSpot mUn mRr mPit mFar mTm nw ((Nat.cast nq : Int) % 9) ((Nat.cast nq : Int) / 9) (by first | assumption | omega) (by first | assumption | omega)) wd_891 kX9_height ⟨rfl, rfl, Nat.le_of_ble_eq_true rfl, Nat.le_of_ble_eq_true rfl⟩ [0, 1] rfl 0 rfl rfl rfl rfl (Nat.le_of_ble_eq_true rfl) dX9_sumOf_117 ⟨Nat.zero_le _, Nat.zero_le _⟩ (fun H locs hP hS => ?_)
                have f_6 := gAt_r (id hM).1 ((Nat.cast nq : Int) % 9) ((Nat.cast nq : Int) / 9)
                refine z_eq (z := (mSo nw whI nq)) (by unfold mSo; rw [if_pos hin]; first | (rw [if_pos (by assumption)]; first | exact (bP_t (by assumption)).symm | exact (bP_f (by assumption)).symm) | (rw [if_neg (by assumption), if_pos (by assumption)]; first | exact (bP_t (by assumption)).symm | exact (bP_f (by assumption)).symm) | (rw [if_neg (by assumption), if_neg (by assumption), if_pos (by assumption)]; first | exact (bP_t (by omega)).symm | exact (bP_f (by omega)).symm) | (rw [if_neg (by assumption), if_neg (by assumption), if_neg (by assumption)])) ?_
                exact jn_120  _ _ hP hS _ (lv_cons (lv_at hl 2 rfl) (lv_cons (lv_at hl 3 rfl) (lv_cons (lv_at hl 4 rfl) (lv_cons (lv_at hl 5 rfl) (lv_cons (lv_at hl 1 rfl) (lv_cons (lv_at hl 0 rfl) (lv_nil hl)))))))
              · refine lv_aload_n hx hb dX9_sumOf_91 rfl (lv_at hl 2 rfl) ?_
                refine lv_iload hx hb dX9_sumOf_92 (lv_at hl 1 rfl) ?_
                refine lv_iload hx hb dX9_sumOf_94 (lv_at hl 0 rfl) ?_
                refine z_callV X hP hS hl.1 (c_X9_down l G _ mA mLen mSpot mUn mRr mPit mFar mTm nw ((Nat.cast nq : Int) % 9) ((Nat.cast nq : Int) / 9) (by first | assumption | omega) (by first | assumption | omega)) wd_917 kX9_down ⟨rfl, rfl, Nat.le_of_ble_eq_true rfl, Nat.le_of_ble_eq_true rfl⟩ [0, 1] rfl 0 rfl rfl rfl rfl (Nat.le_of_ble_eq_true rfl) dX9_sumOf_96 ⟨Nat.zero_le _, Nat.zero_le _⟩ (fun H locs hP hS => ?_)
                have f_7 := gDown_r (id hM).1 ((Nat.cast nq : Int) % 9) ((Nat.cast nq : Int) / 9)
                have f_8 := cNone_r (gDown_r (id hM).1 ((Nat.cast nq : Int) % 9) ((Nat.cast nq : Int) / 9))
                refine lv_bipush (v := iV (-4)) hx hb dX9_sumOf_99 (by decide) ?_
                refine z_icmp_ne (tgt := 108) hx hb (by omega) ⟨by decide, by decide⟩ dX9_sumOf_101 (by decide) (fun c_9 => ?_) (fun c_9 => ?_)
                · refine lv_iconst (v := iV 0) hx hb dX9_sumOf_108 (by decide) ?_
                  refine lv_goto (tgt := 120) hx hb dX9_sumOf_109 (by decide) ?_
                  refine z_eq (z := (mSo nw whI nq)) (by unfold mSo; rw [if_pos hin]; first | (rw [if_pos (by assumption)]; first | exact (bP_t (by assumption)).symm | exact (bP_f (by assumption)).symm) | (rw [if_neg (by assumption), if_pos (by assumption)]; first | exact (bP_t (by assumption)).symm | exact (bP_f (by assumption)).symm) | (rw [if_neg (by assumption), if_neg (by assumption), if_pos (by assumption)]; first | exact (bP_t (by omega)).symm | exact (bP_f (by omega)).symm) | (rw [if_neg (by assumption), if_neg (by assumption), if_neg (by assumption)])) ?_
                  exact jn_120  _ _ hP hS _ (lv_cons (lv_at hl 2 rfl) (lv_cons (lv_at hl 3 rfl) (lv_cons (lv_at hl 4 rfl) (lv_cons (lv_at hl 5 rfl) (lv_cons (lv_at hl 1 rfl) (lv_cons (lv_at hl 0 rfl) (lv_nil hl)))))))
                · refine lv_iconst (v := iV 1) hx hb dX9_sumOf_104 (by decide) ?_
                  refine lv_goto (tgt := 120) hx hb dX9_sumOf_105 (by decide) ?_
                  refine z_eq (z := (mSo nw whI nq)) (by unfold mSo; rw [if_pos hin]; first | (rw [if_pos (by assumption)]; first | exact (bP_t (by assumption)).symm | exact (bP_f (by assumption)).symm) | (rw [if_neg (by assumption), if_pos (by assumption)]; first | exact (bP_t (by assumption)).symm | exact (bP_f (by assumption)).symm) | (rw [if_neg (by assumption), if_neg (by assumption), if_pos (by assumption)]; first | exact (bP_t (by omega)).symm | exact (bP_f (by omega)).symm) | (rw [if_neg (by assumption), if_neg (by assumption), if_neg (by assumption)])) ?_
                  exact jn_120  _ _ hP hS _ (lv_cons (lv_at hl 2 rfl) (lv_cons (lv_at hl 3 rfl) (lv_cons (lv_at hl 4 rfl) (lv_cons (lv_at hl 5 rfl) (lv_cons (lv_at hl 1 rfl) (lv_cons (lv_at hl 0 rfl) (lv_nil hl)))))))
            · refine lv_aload_n hx hb dX9_sumOf_65 rfl (lv_at hl 2 rfl) ?_
              refine lv_iload hx hb dX9_sumOf_66 (lv_at hl 1 rfl) ?_
              refine lv_iload hx hb dX9_sumOf_68 (lv_at hl 0 rfl) ?_
              refine lv_iconst (v := iV (-1)) hx hb dX9_sumOf_70 (by decide) ?_
              refine z_callV X hP hS hl.1 (c_X9_isCrest l G _ mA mLen mSpot mUn mRr mPit mFar mTm nw ((Nat.cast nq : Int) % 9) ((Nat.cast nq : Int) / 9) (-1) (by first | assumption | omega) (by first | assumption | omega) (by first | assumption | omega)) wd_921 kX9_isCrest ⟨rfl, rfl, Nat.le_of_ble_eq_true rfl, Nat.le_of_ble_eq_true rfl⟩ [0, 1] rfl 0 rfl rfl rfl rfl (Nat.le_of_ble_eq_true rfl) dX9_sumOf_71 ⟨Nat.zero_le _, Nat.zero_le _⟩ (fun H locs hP hS => ?_)
              refine z_ifb_eq (tgt := 81) hx hb dX9_sumOf_74 (by decide) (fun c_10 => ?_) (fun c_10 => ?_)
              · refine lv_iconst (v := iV 0) hx hb dX9_sumOf_81 (by decide) ?_
                refine lv_goto (tgt := 120) hx hb dX9_sumOf_82 (by decide) ?_
                refine z_eq (z := (mSo nw whI nq)) (by unfold mSo; rw [if_pos hin]; first | (rw [if_pos (by assumption)]; first | exact (bP_t (by assumption)).symm | exact (bP_f (by assumption)).symm) | (rw [if_neg (by assumption), if_pos (by assumption)]; first | exact (bP_t (by assumption)).symm | exact (bP_f (by assumption)).symm) | (rw [if_neg (by assumption), if_neg (by assumption), if_pos (by assumption)]; first | exact (bP_t (by omega)).symm | exact (bP_f (by omega)).symm) | (rw [if_neg (by assumption), if_neg (by assumption), if_neg (by assumption)])) ?_
                exact jn_120  _ _ hP hS _ (lv_cons (lv_at hl 2 rfl) (lv_cons (lv_at hl 3 rfl) (lv_cons (lv_at hl 4 rfl) (lv_cons (lv_at hl 5 rfl) (lv_cons (lv_at hl 1 rfl) (lv_cons (lv_at hl 0 rfl) (lv_nil hl)))))))
              · refine lv_iconst (v := iV 1) hx hb dX9_sumOf_77 (by decide) ?_
                refine lv_goto (tgt := 120) hx hb dX9_sumOf_78 (by decide) ?_
                refine z_eq (z := (mSo nw whI nq)) (by unfold mSo; rw [if_pos hin]; first | (rw [if_pos (by assumption)]; first | exact (bP_t (by assumption)).symm | exact (bP_f (by assumption)).symm) | (rw [if_neg (by assumption), if_pos (by assumption)]; first | exact (bP_t (by assumption)).symm | exact (bP_f (by assumption)).symm) | (rw [if_neg (by assumption), if_neg (by assumption), if_pos (by assumption)]; first | exact (bP_t (by omega)).symm | exact (bP_f (by omega)).symm) | (rw [if_neg (by assumption), if_neg (by assumption), if_neg (by assumption)])) ?_
                exact jn_120  _ _ hP hS _ (lv_cons (lv_at hl 2 rfl) (lv_cons (lv_at hl 3 rfl) (lv_cons (lv_at hl 4 rfl) (lv_cons (lv_at hl 5 rfl) (lv_cons (lv_at hl 1 rfl) (lv_cons (lv_at hl 0 rfl) (lv_nil hl)))))))
          · refine lv_aload_n hx hb dX9_sumOf_39 rfl (lv_at hl 2 rfl) ?_
            refine lv_iload hx hb dX9_sumOf_40 (lv_at hl 1 rfl) ?_
            refine lv_iload hx hb dX9_sumOf_42 (lv_at hl 0 rfl) ?_
            refine lv_iconst (v := iV 1) hx hb dX9_sumOf_44 (by decide) ?_
            refine z_callV X hP hS hl.1 (c_X9_isCrest l G _ mA mLen mSpot mUn mRr mPit mFar mTm nw ((Nat.cast nq : Int) % 9) ((Nat.cast nq : Int) / 9) 1 (by first | assumption | omega) (by first | assumption | omega) (by first | assumption | omega)) wd_921 kX9_isCrest ⟨rfl, rfl, Nat.le_of_ble_eq_true rfl, Nat.le_of_ble_eq_true rfl⟩ [0, 1] rfl 0 rfl rfl rfl rfl (Nat.le_of_ble_eq_true rfl) dX9_sumOf_45 ⟨Nat.zero_le _, Nat.zero_le _⟩ (fun H locs hP hS => ?_)
            refine z_ifb_eq (tgt := 55) hx hb dX9_sumOf_48 (by decide) (fun c_11 => ?_) (fun c_11 => ?_)
            · refine lv_iconst (v := iV 0) hx hb dX9_sumOf_55 (by decide) ?_
              refine lv_goto (tgt := 120) hx hb dX9_sumOf_56 (by decide) ?_
              refine z_eq (z := (mSo nw whI nq)) (by unfold mSo; rw [if_pos hin]; first | (rw [if_pos (by assumption)]; first | exact (bP_t (by assumption)).symm | exact (bP_f (by assumption)).symm) | (rw [if_neg (by assumption), if_pos (by assumption)]; first | exact (bP_t (by assumption)).symm | exact (bP_f (by assumption)).symm) | (rw [if_neg (by assumption), if_neg (by assumption), if_pos (by assumption)]; first | exact (bP_t (by omega)).symm | exact (bP_f (by omega)).symm) | (rw [if_neg (by assumption), if_neg (by assumption), if_neg (by assumption)])) ?_
              exact jn_120  _ _ hP hS _ (lv_cons (lv_at hl 2 rfl) (lv_cons (lv_at hl 3 rfl) (lv_cons (lv_at hl 4 rfl) (lv_cons (lv_at hl 5 rfl) (lv_cons (lv_at hl 1 rfl) (lv_cons (lv_at hl 0 rfl) (lv_nil hl)))))))
            · refine lv_iconst (v := iV 1) hx hb dX9_sumOf_51 (by decide) ?_
              refine lv_goto (tgt := 120) hx hb dX9_sumOf_52 (by decide) ?_
              refine z_eq (z := (mSo nw whI nq)) (by unfold mSo; rw [if_pos hin]; first | (rw [if_pos (by assumption)]; first | exact (bP_t (by assumption)).symm | exact (bP_f (by assumption)).symm) | (rw [if_neg (by assumption), if_pos (by assumption)]; first | exact (bP_t (by assumption)).symm | exact (bP_f (by assumption)).symm) | (rw [if_neg (by assumption), if_neg (by assumption), if_pos (by assumption)]; first | exact (bP_t (by omega)).symm | exact (bP_f (by omega)).symm) | (rw [if_neg (by assumption), if_neg (by assumption), if_neg (by assumption)])) ?_
              exact jn_120  _ _ hP hS _ (lv_cons (lv_at hl 2 rfl) (lv_cons (lv_at hl 3 rfl) (lv_cons (lv_at hl 4 rfl) (lv_cons (lv_at hl 5 rfl) (lv_cons (lv_at hl 1 rfl) (lv_cons (lv_at hl 0 rfl) (lv_nil hl)))))))
  exact lp_4 _ 0 (by first | assumption | omega) (Nat.lt_succ_self _) _ _ hP hS _ (lv_cons (lv_at hl 2 rfl) (lv_cons (lv_at hl 3 rfl) (lv_cons (lv_i hl 1 rfl (by first | rfl | omega | (simp only [sumN]; unfold mSo; rw [if_neg (fun q => by have := q.2; exact absurd this (by assumption))]; omega))) (lv_cons (lv_i hl 0 rfl (by first | rfl | omega | (simp only [sumN]; unfold mSo; rw [if_neg (fun q => by have := q.2; exact absurd this (by assumption))]; omega))) (lv_nil hl)))))

set_option maxHeartbeats 4000000 in
set_option maxRecDepth 100000 in
theorem c_X9_count (l : Launch) (G : zG) (sz : Nat) (mA : Nat → Nat) (mLen : Int) (mSpot : Int) (mUn : Int) (mRr : Int) (mPit : Int) (mFar : Int) (mTm : Int) (nw : Nat → Int) (whI : Int) (hM : mOK nw) (hrwhI : iR whI) : Met l yX9_count (Cond.code yX9_count cX9_count 4 (some .int) :: zT) (zRm 5 121) (zPr G [.ref (mA 0), .int (iV whI)] [(mA 0, .inr (9, [.int (iV mLen), .ref (mA 1), .int (iV mSpot), .ref (mA 2), .ref (mA 3), .ref (mA 4), .int (iV mUn), .int (iV mRr), .int (iV mPit), .int (iV mFar), .ref (mA 5), .ref (mA 6), .ref (mA 7), .ref (mA 8), .int (iV mTm), .ref (mA 9), .ref (mA 10), .ref (mA 11)])), (mA 2, .inl (G.2.1, 249, .inl (fun k => iV (nw k))))] sz) (zQr (mCt nw mUn mLen whI) sz) 0 0 (zF sz) := by
  refine Met.ofW (cc := cX9_count) (maxL := 4) (ret := (some .int)) (by decide) rfl ?_
  intro p e s m args below meth c s₁ B hml hv
  obtain ⟨rfl, hsz, hP, hK, hSt⟩ := hv
  have hx := B.exec
  have hb := B.bytes
  have hr := B.returns
  have hts : ∀ w ∈ zT, w.before _ s = true := fun w h => atoms_spec (ws := (Cond.code yX9_count cX9_count 4 (some .int) :: zT)) B.pre w (List.mem_cons_of_mem _ h)
  have hown : s.vm.findClass RX9 = some m.cls := findClass_of_methodNamed B.named
  have hlocks := B.notSynchronized
  subst hsz
  have hA : ∀ q : Nat, s.heap.size ≤ q → zF s.heap.size q := fun _ h => h
  have hS : va_S (zF s.heap.size) s.heap s.heap [] := va_S.rf
  have hP : va_P G.1 vwCl [(mA 0, .inr (9, [.int (iV mLen), .ref (mA 1), .int (iV mSpot), .ref (mA 2), .ref (mA 3), .ref (mA 4), .int (iV mUn), .int (iV mRr), .int (iV mPit), .int (iV mFar), .ref (mA 5), .ref (mA 6), .ref (mA 7), .ref (mA 8), .int (iV mTm), .ref (mA 9), .ref (mA 10), .ref (mA 11)])), (mA 2, .inl (G.2.1, 249, .inl (fun k => iV (nw k))))] s.heap := hP
  have X := And.intro hx (And.intro hb (And.intro hml (And.intro hown (And.intro hts (And.intro hK (And.intro hSt hA))))))
  have hl := lv_entry ([.ref (mA 0), .int (iV whI)]) (n := 4) (Nat.le_of_ble_eq_true rfl)
  rw [lg_entry_eq]
  generalize (lg_sl ([.ref (mA 0), .int (iV whI)]) ++ List.replicate (4 - (lg_sl ([.ref (mA 0), .int (iV whI)])).length) Slot.unset).toArray = ls at hl ⊢
  have hl : lv_has ls 4 [(0, .ref (mA 0)), (1, .int (iV whI))] := hl
  obtain ⟨hG, hWH3, hn88, hnL, hnQ, hn6, hn80⟩ := id hM
  obtain ⟨hW0, hW9, hH0, hH9, hg⟩ := id hG
  refine lv_iconst (v := iV 0) hx hb dX9_count_0 (by decide) ?_
  refine lv_istore_n (lv' := [(2, .int (iV 0)), (0, .ref (mA 0)), (1, .int (iV whI))]) hx hb dX9_count_1 rfl hl (by decide) rfl (fun ls hl => ?_)
  refine lv_iconst (v := iV 0) hx hb dX9_count_2 (by decide) ?_
  refine lv_istore_n (lv' := [(3, .int (iV 0)), (2, .int (iV 0)), (0, .ref (mA 0)), (1, .int (iV whI))]) hx hb dX9_count_3 rfl hl (by decide) rfl (fun ls hl => ?_)
  have lp_4 : ∀ (k : Nat) (tq : Nat) , ((Nat.cast tq : Int) ≤ nw 88) → (20 - tq) < k → ∀ (H : Heap) (locs : List Loc), va_P G.1 vwCl [(mA 0, .inr (9, [.int (iV mLen), .ref (mA 1), .int (iV mSpot), .ref (mA 2), .ref (mA 3), .ref (mA 4), .int (iV mUn), .int (iV mRr), .int (iV mPit), .int (iV mFar), .ref (mA 5), .ref (mA 6), .ref (mA 7), .ref (mA 8), .int (iV mTm), .ref (mA 9), .ref (mA 10), .ref (mA 11)])), (mA 2, .inl (G.2.1, 249, .inl (fun k => iV (nw k))))] H → va_S (zF s.heap.size) s.heap H locs → ∀ ls : Array Slot, lv_has ls 4 [(0, .ref (mA 0)), (1, .int (iV whI)), (2, .int (iV (sumN (nL nw) tq))), (3, .int (iV (Nat.cast tq : Int)))] → W p l e (headSpec (Cond.code yX9_count cX9_count 4 (some .int) :: zT) (zRm 5 121)).room s m ([Value.ref (mA 0), Value.int (iV whI)] : List Value).toArray below meth c H locs 0 0 (MQ below (zQr (mCt nw mUn mLen whI) s.heap.size) ([Value.ref (mA 0), Value.int (iV whI)] : List Value).toArray s 0 0 (zF s.heap.size)) (F0 m 4 ls []) := by
    intro k
    induction k with
    | zero => intro tq ht hk_; exact absurd hk_ (Nat.not_lt_zero _)
    | succ k ih_4 =>
      intro tq ht hk_4 H locs hP hS ls hl
      refine lv_iload_n hx hb dX9_count_4 rfl (lv_at hl 3 rfl) ?_
      refine lv_aload_n hx hb dX9_count_5 rfl (lv_at hl 0 rfl) ?_
      refine va_get (D := G.1) (ci := 9) (v := .ref (mA 2)) (C := RX9) (T := TX9) (N := 18) hx hb hts inX9 hown hK hP 0 rfl rfl 3 (by decide) (hts _ wd_761) (fun _ h9 => h9) rfl dX9_count_6 ?_
      refine lv_bipush (v := iV 88) hx hb dX9_count_9 (by decide) ?_
      refine z_iald (G := G) (f := nw) hx hb hK hP 1 rfl (by omega) (by omega) (by decide) dX9_count_11 ?_
      refine z_eq (z := (nw 88)) (by rfl) ?_
      refine z_icmp_ge (tgt := 39) hx hb (by omega) (by omega) dX9_count_12 (by decide) (fun c_1 => ?_) (fun c_1 => ?_)
      · have htn : tq = (nw 88).toNat := by omega
        refine lv_iload_n hx hb dX9_count_39 rfl (lv_at hl 1 rfl) ?_
        by_cases h_2 : whI = 0
        · refine z_tsw (tgt := 100) (k := 0) (off := 60) hx hb dX9_count_40 h_2 (by decide) (by decide) ?_
          refine lv_aload_n hx hb dX9_count_100 rfl (lv_at hl 0 rfl) ?_
          refine va_get (D := G.1) (ci := 9) (v := .ref (mA 2)) (C := RX9) (T := TX9) (N := 18) hx hb hts inX9 hown hK hP 0 rfl rfl 3 (by decide) (hts _ wd_761) (fun _ h9 => h9) rfl dX9_count_101 ?_
          refine lv_iload_n hx hb dX9_count_104 rfl (lv_at hl 1 rfl) ?_
          refine z_iald (G := G) (f := nw) hx hb hK hP 1 rfl (by omega) (by omega) (by decide) dX9_count_105 ?_
          refine z_eq (z := (nw whI.toNat)) (by rfl) ?_
          refine z_eq (z := (mCt nw mUn mLen whI)) (by unfold mCt; first | (rw [if_pos (by omega)] <;> first | rfl | (subst_vars; rfl)) | (rw [if_neg (by omega), if_pos (by omega)] <;> first | rfl | (subst_vars; rfl)) | (rw [if_neg (by omega), if_neg (by omega), if_pos (by omega)] <;> first | rfl | (subst_vars; rfl)) | (rw [if_neg (by omega), if_neg (by omega), if_neg (by omega), if_pos (by omega)] <;> first | rfl | (subst_vars; rfl)) | (rw [if_neg (by omega), if_neg (by omega), if_neg (by omega), if_neg (by omega), if_pos (by omega)] <;> first | rfl | (subst_vars; rfl)) | (rw [if_neg (by omega), if_neg (by omega), if_neg (by omega), if_neg (by omega), if_neg (by omega), if_pos (by omega)] <;> first | rfl | (subst_vars; rfl)) | (rw [if_neg (by omega), if_neg (by omega), if_neg (by omega), if_neg (by omega), if_neg (by omega), if_neg (by omega), if_pos (by omega)] <;> first | rfl | (subst_vars; rfl)) | (rw [if_neg (by omega), if_neg (by omega), if_neg (by omega), if_neg (by omega), if_neg (by omega), if_neg (by omega), if_neg (by omega), if_pos (by omega)] <;> first | rfl | (subst_vars; rfl)) | (rw [if_neg (by omega), if_neg (by omega), if_neg (by omega), if_neg (by omega), if_neg (by omega), if_neg (by omega), if_neg (by omega), if_neg (by omega), if_pos (by omega)] <;> first | rfl | (subst_vars; rfl)) | (rw [if_neg (by omega), if_neg (by omega), if_neg (by omega), if_neg (by omega), if_neg (by omega), if_neg (by omega), if_neg (by omega), if_neg (by omega), if_neg (by omega), if_pos (by omega)] <;> first | rfl | (subst_vars; rfl)) | (rw [if_neg (by omega), if_neg (by omega), if_neg (by omega), if_neg (by omega), if_neg (by omega), if_neg (by omega), if_neg (by omega), if_neg (by omega), if_neg (by omega), if_neg (by omega), if_pos (by omega)] <;> first | rfl | (subst_vars; rfl)) | (rw [if_neg (by omega), if_neg (by omega), if_neg (by omega), if_neg (by omega), if_neg (by omega), if_neg (by omega), if_neg (by omega), if_neg (by omega), if_neg (by omega), if_neg (by omega), if_neg (by omega)]; done)) ?_
          exact z_ret hx hb hr hlocks hS dX9_count_106
        by_cases h_3 : whI = 1
        · refine z_tsw (tgt := 100) (k := 1) (off := 60) hx hb dX9_count_40 h_3 (by decide) (by decide) ?_
          refine lv_aload_n hx hb dX9_count_100 rfl (lv_at hl 0 rfl) ?_
          refine va_get (D := G.1) (ci := 9) (v := .ref (mA 2)) (C := RX9) (T := TX9) (N := 18) hx hb hts inX9 hown hK hP 0 rfl rfl 3 (by decide) (hts _ wd_761) (fun _ h9 => h9) rfl dX9_count_101 ?_
          refine lv_iload_n hx hb dX9_count_104 rfl (lv_at hl 1 rfl) ?_
          refine z_iald (G := G) (f := nw) hx hb hK hP 1 rfl (by omega) (by omega) (by decide) dX9_count_105 ?_
          refine z_eq (z := (nw whI.toNat)) (by rfl) ?_
          refine z_eq (z := (mCt nw mUn mLen whI)) (by unfold mCt; first | (rw [if_pos (by omega)] <;> first | rfl | (subst_vars; rfl)) | (rw [if_neg (by omega), if_pos (by omega)] <;> first | rfl | (subst_vars; rfl)) | (rw [if_neg (by omega), if_neg (by omega), if_pos (by omega)] <;> first | rfl | (subst_vars; rfl)) | (rw [if_neg (by omega), if_neg (by omega), if_neg (by omega), if_pos (by omega)] <;> first | rfl | (subst_vars; rfl)) | (rw [if_neg (by omega), if_neg (by omega), if_neg (by omega), if_neg (by omega), if_pos (by omega)] <;> first | rfl | (subst_vars; rfl)) | (rw [if_neg (by omega), if_neg (by omega), if_neg (by omega), if_neg (by omega), if_neg (by omega), if_pos (by omega)] <;> first | rfl | (subst_vars; rfl)) | (rw [if_neg (by omega), if_neg (by omega), if_neg (by omega), if_neg (by omega), if_neg (by omega), if_neg (by omega), if_pos (by omega)] <;> first | rfl | (subst_vars; rfl)) | (rw [if_neg (by omega), if_neg (by omega), if_neg (by omega), if_neg (by omega), if_neg (by omega), if_neg (by omega), if_neg (by omega), if_pos (by omega)] <;> first | rfl | (subst_vars; rfl)) | (rw [if_neg (by omega), if_neg (by omega), if_neg (by omega), if_neg (by omega), if_neg (by omega), if_neg (by omega), if_neg (by omega), if_neg (by omega), if_pos (by omega)] <;> first | rfl | (subst_vars; rfl)) | (rw [if_neg (by omega), if_neg (by omega), if_neg (by omega), if_neg (by omega), if_neg (by omega), if_neg (by omega), if_neg (by omega), if_neg (by omega), if_neg (by omega), if_pos (by omega)] <;> first | rfl | (subst_vars; rfl)) | (rw [if_neg (by omega), if_neg (by omega), if_neg (by omega), if_neg (by omega), if_neg (by omega), if_neg (by omega), if_neg (by omega), if_neg (by omega), if_neg (by omega), if_neg (by omega), if_pos (by omega)] <;> first | rfl | (subst_vars; rfl)) | (rw [if_neg (by omega), if_neg (by omega), if_neg (by omega), if_neg (by omega), if_neg (by omega), if_neg (by omega), if_neg (by omega), if_neg (by omega), if_neg (by omega), if_neg (by omega), if_neg (by omega)]; done)) ?_
          exact z_ret hx hb hr hlocks hS dX9_count_106
        by_cases h_4 : whI = 2
        · refine z_tsw (tgt := 107) (k := 2) (off := 67) hx hb dX9_count_40 h_4 (by decide) (by decide) ?_
          refine lv_aload_n hx hb dX9_count_107 rfl (lv_at hl 0 rfl) ?_
          refine va_get (D := G.1) (ci := 9) (v := .ref (mA 2)) (C := RX9) (T := TX9) (N := 18) hx hb hts inX9 hown hK hP 0 rfl rfl 3 (by decide) (hts _ wd_761) (fun _ h9 => h9) rfl dX9_count_108 ?_
          refine lv_bipush (v := iV 6) hx hb dX9_count_111 (by decide) ?_
          refine z_iald (G := G) (f := nw) hx hb hK hP 1 rfl (by omega) (by omega) (by decide) dX9_count_113 ?_
          refine z_eq (z := (nw 6)) (by rfl) ?_
          refine z_eq (z := (mCt nw mUn mLen whI)) (by unfold mCt; first | (rw [if_pos (by omega)] <;> first | rfl | (subst_vars; rfl)) | (rw [if_neg (by omega), if_pos (by omega)] <;> first | rfl | (subst_vars; rfl)) | (rw [if_neg (by omega), if_neg (by omega), if_pos (by omega)] <;> first | rfl | (subst_vars; rfl)) | (rw [if_neg (by omega), if_neg (by omega), if_neg (by omega), if_pos (by omega)] <;> first | rfl | (subst_vars; rfl)) | (rw [if_neg (by omega), if_neg (by omega), if_neg (by omega), if_neg (by omega), if_pos (by omega)] <;> first | rfl | (subst_vars; rfl)) | (rw [if_neg (by omega), if_neg (by omega), if_neg (by omega), if_neg (by omega), if_neg (by omega), if_pos (by omega)] <;> first | rfl | (subst_vars; rfl)) | (rw [if_neg (by omega), if_neg (by omega), if_neg (by omega), if_neg (by omega), if_neg (by omega), if_neg (by omega), if_pos (by omega)] <;> first | rfl | (subst_vars; rfl)) | (rw [if_neg (by omega), if_neg (by omega), if_neg (by omega), if_neg (by omega), if_neg (by omega), if_neg (by omega), if_neg (by omega), if_pos (by omega)] <;> first | rfl | (subst_vars; rfl)) | (rw [if_neg (by omega), if_neg (by omega), if_neg (by omega), if_neg (by omega), if_neg (by omega), if_neg (by omega), if_neg (by omega), if_neg (by omega), if_pos (by omega)] <;> first | rfl | (subst_vars; rfl)) | (rw [if_neg (by omega), if_neg (by omega), if_neg (by omega), if_neg (by omega), if_neg (by omega), if_neg (by omega), if_neg (by omega), if_neg (by omega), if_neg (by omega), if_pos (by omega)] <;> first | rfl | (subst_vars; rfl)) | (rw [if_neg (by omega), if_neg (by omega), if_neg (by omega), if_neg (by omega), if_neg (by omega), if_neg (by omega), if_neg (by omega), if_neg (by omega), if_neg (by omega), if_neg (by omega), if_pos (by omega)] <;> first | rfl | (subst_vars; rfl)) | (rw [if_neg (by omega), if_neg (by omega), if_neg (by omega), if_neg (by omega), if_neg (by omega), if_neg (by omega), if_neg (by omega), if_neg (by omega), if_neg (by omega), if_neg (by omega), if_neg (by omega)]; done)) ?_
          exact z_ret hx hb hr hlocks hS dX9_count_114
        by_cases h_5 : whI = 3
        · refine z_tsw (tgt := 115) (k := 3) (off := 75) hx hb dX9_count_40 h_5 (by decide) (by decide) ?_
          refine lv_aload_n hx hb dX9_count_115 rfl (lv_at hl 0 rfl) ?_
          refine va_get (D := G.1) (ci := 9) (v := .ref (mA 2)) (C := RX9) (T := TX9) (N := 18) hx hb hts inX9 hown hK hP 0 rfl rfl 3 (by decide) (hts _ wd_761) (fun _ h9 => h9) rfl dX9_count_116 ?_
          refine lv_bipush (v := iV 88) hx hb dX9_count_119 (by decide) ?_
          refine z_iald (G := G) (f := nw) hx hb hK hP 1 rfl (by omega) (by omega) (by decide) dX9_count_121 ?_
          refine z_eq (z := (nw 88)) (by rfl) ?_
          refine z_eq (z := (mCt nw mUn mLen whI)) (by unfold mCt; first | (rw [if_pos (by omega)] <;> first | rfl | (subst_vars; rfl)) | (rw [if_neg (by omega), if_pos (by omega)] <;> first | rfl | (subst_vars; rfl)) | (rw [if_neg (by omega), if_neg (by omega), if_pos (by omega)] <;> first | rfl | (subst_vars; rfl)) | (rw [if_neg (by omega), if_neg (by omega), if_neg (by omega), if_pos (by omega)] <;> first | rfl | (subst_vars; rfl)) | (rw [if_neg (by omega), if_neg (by omega), if_neg (by omega), if_neg (by omega), if_pos (by omega)] <;> first | rfl | (subst_vars; rfl)) | (rw [if_neg (by omega), if_neg (by omega), if_neg (by omega), if_neg (by omega), if_neg (by omega), if_pos (by omega)] <;> first | rfl | (subst_vars; rfl)) | (rw [if_neg (by omega), if_neg (by omega), if_neg (by omega), if_neg (by omega), if_neg (by omega), if_neg (by omega), if_pos (by omega)] <;> first | rfl | (subst_vars; rfl)) | (rw [if_neg (by omega), if_neg (by omega), if_neg (by omega), if_neg (by omega), if_neg (by omega), if_neg (by omega), if_neg (by omega), if_pos (by omega)] <;> first | rfl | (subst_vars; rfl)) | (rw [if_neg (by omega), if_neg (by omega), if_neg (by omega), if_neg (by omega), if_neg (by omega), if_neg (by omega), if_neg (by omega), if_neg (by omega), if_pos (by omega)] <;> first | rfl | (subst_vars; rfl)) | (rw [if_neg (by omega), if_neg (by omega), if_neg (by omega), if_neg (by omega), if_neg (by omega), if_neg (by omega), if_neg (by omega), if_neg (by omega), if_neg (by omega), if_pos (by omega)] <;> first | rfl | (subst_vars; rfl)) | (rw [if_neg (by omega), if_neg (by omega), if_neg (by omega), if_neg (by omega), if_neg (by omega), if_neg (by omega), if_neg (by omega), if_neg (by omega), if_neg (by omega), if_neg (by omega), if_pos (by omega)] <;> first | rfl | (subst_vars; rfl)) | (rw [if_neg (by omega), if_neg (by omega), if_neg (by omega), if_neg (by omega), if_neg (by omega), if_neg (by omega), if_neg (by omega), if_neg (by omega), if_neg (by omega), if_neg (by omega), if_neg (by omega)]; done)) ?_
          exact z_ret hx hb hr hlocks hS dX9_count_122
        by_cases h_6 : whI = 4
        · refine z_tsw (tgt := 123) (k := 4) (off := 83) hx hb dX9_count_40 h_6 (by decide) (by decide) ?_
          refine lv_iload_n hx hb dX9_count_123 rfl (lv_at hl 2 rfl) ?_
          refine z_eq (z := (mCt nw mUn mLen whI)) (by unfold mCt; first | (rw [if_pos (by omega)] <;> first | rfl | (subst_vars; rfl)) | (rw [if_neg (by omega), if_pos (by omega)] <;> first | rfl | (subst_vars; rfl)) | (rw [if_neg (by omega), if_neg (by omega), if_pos (by omega)] <;> first | rfl | (subst_vars; rfl)) | (rw [if_neg (by omega), if_neg (by omega), if_neg (by omega), if_pos (by omega)] <;> first | rfl | (subst_vars; rfl)) | (rw [if_neg (by omega), if_neg (by omega), if_neg (by omega), if_neg (by omega), if_pos (by omega)] <;> first | rfl | (subst_vars; rfl)) | (rw [if_neg (by omega), if_neg (by omega), if_neg (by omega), if_neg (by omega), if_neg (by omega), if_pos (by omega)] <;> first | rfl | (subst_vars; rfl)) | (rw [if_neg (by omega), if_neg (by omega), if_neg (by omega), if_neg (by omega), if_neg (by omega), if_neg (by omega), if_pos (by omega)] <;> first | rfl | (subst_vars; rfl)) | (rw [if_neg (by omega), if_neg (by omega), if_neg (by omega), if_neg (by omega), if_neg (by omega), if_neg (by omega), if_neg (by omega), if_pos (by omega)] <;> first | rfl | (subst_vars; rfl)) | (rw [if_neg (by omega), if_neg (by omega), if_neg (by omega), if_neg (by omega), if_neg (by omega), if_neg (by omega), if_neg (by omega), if_neg (by omega), if_pos (by omega)] <;> first | rfl | (subst_vars; rfl)) | (rw [if_neg (by omega), if_neg (by omega), if_neg (by omega), if_neg (by omega), if_neg (by omega), if_neg (by omega), if_neg (by omega), if_neg (by omega), if_neg (by omega), if_pos (by omega)] <;> first | rfl | (subst_vars; rfl)) | (rw [if_neg (by omega), if_neg (by omega), if_neg (by omega), if_neg (by omega), if_neg (by omega), if_neg (by omega), if_neg (by omega), if_neg (by omega), if_neg (by omega), if_neg (by omega), if_pos (by omega)] <;> first | rfl | (subst_vars; rfl)) | (rw [if_neg (by omega), if_neg (by omega), if_neg (by omega), if_neg (by omega), if_neg (by omega), if_neg (by omega), if_neg (by omega), if_neg (by omega), if_neg (by omega), if_neg (by omega), if_neg (by omega)]; done)) ?_
          exact z_ret hx hb hr hlocks hS dX9_count_124
        by_cases h_7 : whI = 5
        · refine z_tsw (tgt := 125) (k := 5) (off := 85) hx hb dX9_count_40 h_7 (by decide) (by decide) ?_
          refine lv_aload_n hx hb dX9_count_125 rfl (lv_at hl 0 rfl) ?_
          refine lv_iload_n hx hb dX9_count_126 rfl (lv_at hl 1 rfl) ?_
          refine z_callV X hP hS hl.1 (c_X9_sumOf l G _ mA mLen mSpot mUn mRr mPit mFar mTm nw whI (by first | assumption | omega) (by first | assumption | omega)) wd_1061 kX9_sumOf ⟨rfl, rfl, Nat.le_of_ble_eq_true rfl, Nat.le_of_ble_eq_true rfl⟩ [0, 1] rfl 0 rfl rfl rfl rfl (Nat.le_of_ble_eq_true rfl) dX9_count_127 ⟨Nat.zero_le _, Nat.zero_le _⟩ (fun H locs hP hS => ?_)
          refine z_eq (z := (mCt nw mUn mLen whI)) (by unfold mCt; first | (rw [if_pos (by omega)] <;> first | rfl | (subst_vars; rfl)) | (rw [if_neg (by omega), if_pos (by omega)] <;> first | rfl | (subst_vars; rfl)) | (rw [if_neg (by omega), if_neg (by omega), if_pos (by omega)] <;> first | rfl | (subst_vars; rfl)) | (rw [if_neg (by omega), if_neg (by omega), if_neg (by omega), if_pos (by omega)] <;> first | rfl | (subst_vars; rfl)) | (rw [if_neg (by omega), if_neg (by omega), if_neg (by omega), if_neg (by omega), if_pos (by omega)] <;> first | rfl | (subst_vars; rfl)) | (rw [if_neg (by omega), if_neg (by omega), if_neg (by omega), if_neg (by omega), if_neg (by omega), if_pos (by omega)] <;> first | rfl | (subst_vars; rfl)) | (rw [if_neg (by omega), if_neg (by omega), if_neg (by omega), if_neg (by omega), if_neg (by omega), if_neg (by omega), if_pos (by omega)] <;> first | rfl | (subst_vars; rfl)) | (rw [if_neg (by omega), if_neg (by omega), if_neg (by omega), if_neg (by omega), if_neg (by omega), if_neg (by omega), if_neg (by omega), if_pos (by omega)] <;> first | rfl | (subst_vars; rfl)) | (rw [if_neg (by omega), if_neg (by omega), if_neg (by omega), if_neg (by omega), if_neg (by omega), if_neg (by omega), if_neg (by omega), if_neg (by omega), if_pos (by omega)] <;> first | rfl | (subst_vars; rfl)) | (rw [if_neg (by omega), if_neg (by omega), if_neg (by omega), if_neg (by omega), if_neg (by omega), if_neg (by omega), if_neg (by omega), if_neg (by omega), if_neg (by omega), if_pos (by omega)] <;> first | rfl | (subst_vars; rfl)) | (rw [if_neg (by omega), if_neg (by omega), if_neg (by omega), if_neg (by omega), if_neg (by omega), if_neg (by omega), if_neg (by omega), if_neg (by omega), if_neg (by omega), if_neg (by omega), if_pos (by omega)] <;> first | rfl | (subst_vars; rfl)) | (rw [if_neg (by omega), if_neg (by omega), if_neg (by omega), if_neg (by omega), if_neg (by omega), if_neg (by omega), if_neg (by omega), if_neg (by omega), if_neg (by omega), if_neg (by omega), if_neg (by omega)]; done)) ?_
          exact z_ret hx hb hr hlocks hS dX9_count_130
        by_cases h_8 : whI = 6
        · refine z_tsw (tgt := 125) (k := 6) (off := 85) hx hb dX9_count_40 h_8 (by decide) (by decide) ?_
          refine lv_aload_n hx hb dX9_count_125 rfl (lv_at hl 0 rfl) ?_
          refine lv_iload_n hx hb dX9_count_126 rfl (lv_at hl 1 rfl) ?_
          refine z_callV X hP hS hl.1 (c_X9_sumOf l G _ mA mLen mSpot mUn mRr mPit mFar mTm nw whI (by first | assumption | omega) (by first | assumption | omega)) wd_1061 kX9_sumOf ⟨rfl, rfl, Nat.le_of_ble_eq_true rfl, Nat.le_of_ble_eq_true rfl⟩ [0, 1] rfl 0 rfl rfl rfl rfl (Nat.le_of_ble_eq_true rfl) dX9_count_127 ⟨Nat.zero_le _, Nat.zero_le _⟩ (fun H locs hP hS => ?_)
          refine z_eq (z := (mCt nw mUn mLen whI)) (by unfold mCt; first | (rw [if_pos (by omega)] <;> first | rfl | (subst_vars; rfl)) | (rw [if_neg (by omega), if_pos (by omega)] <;> first | rfl | (subst_vars; rfl)) | (rw [if_neg (by omega), if_neg (by omega), if_pos (by omega)] <;> first | rfl | (subst_vars; rfl)) | (rw [if_neg (by omega), if_neg (by omega), if_neg (by omega), if_pos (by omega)] <;> first | rfl | (subst_vars; rfl)) | (rw [if_neg (by omega), if_neg (by omega), if_neg (by omega), if_neg (by omega), if_pos (by omega)] <;> first | rfl | (subst_vars; rfl)) | (rw [if_neg (by omega), if_neg (by omega), if_neg (by omega), if_neg (by omega), if_neg (by omega), if_pos (by omega)] <;> first | rfl | (subst_vars; rfl)) | (rw [if_neg (by omega), if_neg (by omega), if_neg (by omega), if_neg (by omega), if_neg (by omega), if_neg (by omega), if_pos (by omega)] <;> first | rfl | (subst_vars; rfl)) | (rw [if_neg (by omega), if_neg (by omega), if_neg (by omega), if_neg (by omega), if_neg (by omega), if_neg (by omega), if_neg (by omega), if_pos (by omega)] <;> first | rfl | (subst_vars; rfl)) | (rw [if_neg (by omega), if_neg (by omega), if_neg (by omega), if_neg (by omega), if_neg (by omega), if_neg (by omega), if_neg (by omega), if_neg (by omega), if_pos (by omega)] <;> first | rfl | (subst_vars; rfl)) | (rw [if_neg (by omega), if_neg (by omega), if_neg (by omega), if_neg (by omega), if_neg (by omega), if_neg (by omega), if_neg (by omega), if_neg (by omega), if_neg (by omega), if_pos (by omega)] <;> first | rfl | (subst_vars; rfl)) | (rw [if_neg (by omega), if_neg (by omega), if_neg (by omega), if_neg (by omega), if_neg (by omega), if_neg (by omega), if_neg (by omega), if_neg (by omega), if_neg (by omega), if_neg (by omega), if_pos (by omega)] <;> first | rfl | (subst_vars; rfl)) | (rw [if_neg (by omega), if_neg (by omega), if_neg (by omega), if_neg (by omega), if_neg (by omega), if_neg (by omega), if_neg (by omega), if_neg (by omega), if_neg (by omega), if_neg (by omega), if_neg (by omega)]; done)) ?_
          exact z_ret hx hb hr hlocks hS dX9_count_130
        by_cases h_9 : whI = 7
        · refine z_tsw (tgt := 125) (k := 7) (off := 85) hx hb dX9_count_40 h_9 (by decide) (by decide) ?_
          refine lv_aload_n hx hb dX9_count_125 rfl (lv_at hl 0 rfl) ?_
          refine lv_iload_n hx hb dX9_count_126 rfl (lv_at hl 1 rfl) ?_
          refine z_callV X hP hS hl.1 (c_X9_sumOf l G _ mA mLen mSpot mUn mRr mPit mFar mTm nw whI (by first | assumption | omega) (by first | assumption | omega)) wd_1061 kX9_sumOf ⟨rfl, rfl, Nat.le_of_ble_eq_true rfl, Nat.le_of_ble_eq_true rfl⟩ [0, 1] rfl 0 rfl rfl rfl rfl (Nat.le_of_ble_eq_true rfl) dX9_count_127 ⟨Nat.zero_le _, Nat.zero_le _⟩ (fun H locs hP hS => ?_)
          refine z_eq (z := (mCt nw mUn mLen whI)) (by unfold mCt; first | (rw [if_pos (by omega)] <;> first | rfl | (subst_vars; rfl)) | (rw [if_neg (by omega), if_pos (by omega)] <;> first | rfl | (subst_vars; rfl)) | (rw [if_neg (by omega), if_neg (by omega), if_pos (by omega)] <;> first | rfl | (subst_vars; rfl)) | (rw [if_neg (by omega), if_neg (by omega), if_neg (by omega), if_pos (by omega)] <;> first | rfl | (subst_vars; rfl)) | (rw [if_neg (by omega), if_neg (by omega), if_neg (by omega), if_neg (by omega), if_pos (by omega)] <;> first | rfl | (subst_vars; rfl)) | (rw [if_neg (by omega), if_neg (by omega), if_neg (by omega), if_neg (by omega), if_neg (by omega), if_pos (by omega)] <;> first | rfl | (subst_vars; rfl)) | (rw [if_neg (by omega), if_neg (by omega), if_neg (by omega), if_neg (by omega), if_neg (by omega), if_neg (by omega), if_pos (by omega)] <;> first | rfl | (subst_vars; rfl)) | (rw [if_neg (by omega), if_neg (by omega), if_neg (by omega), if_neg (by omega), if_neg (by omega), if_neg (by omega), if_neg (by omega), if_pos (by omega)] <;> first | rfl | (subst_vars; rfl)) | (rw [if_neg (by omega), if_neg (by omega), if_neg (by omega), if_neg (by omega), if_neg (by omega), if_neg (by omega), if_neg (by omega), if_neg (by omega), if_pos (by omega)] <;> first | rfl | (subst_vars; rfl)) | (rw [if_neg (by omega), if_neg (by omega), if_neg (by omega), if_neg (by omega), if_neg (by omega), if_neg (by omega), if_neg (by omega), if_neg (by omega), if_neg (by omega), if_pos (by omega)] <;> first | rfl | (subst_vars; rfl)) | (rw [if_neg (by omega), if_neg (by omega), if_neg (by omega), if_neg (by omega), if_neg (by omega), if_neg (by omega), if_neg (by omega), if_neg (by omega), if_neg (by omega), if_neg (by omega), if_pos (by omega)] <;> first | rfl | (subst_vars; rfl)) | (rw [if_neg (by omega), if_neg (by omega), if_neg (by omega), if_neg (by omega), if_neg (by omega), if_neg (by omega), if_neg (by omega), if_neg (by omega), if_neg (by omega), if_neg (by omega), if_neg (by omega)]; done)) ?_
          exact z_ret hx hb hr hlocks hS dX9_count_130
        by_cases h_10 : whI = 8
        · refine z_tsw (tgt := 131) (k := 8) (off := 91) hx hb dX9_count_40 h_10 (by decide) (by decide) ?_
          refine lv_aload_n hx hb dX9_count_131 rfl (lv_at hl 0 rfl) ?_
          refine va_get (D := G.1) (ci := 9) (v := .int (iV mUn)) (C := RX9) (T := TX9) (N := 18) hx hb hts inX9 hown hK hP 0 rfl rfl 6 (by decide) (hts _ wd_764) (fun _ h9 => h9) rfl dX9_count_132 ?_
          refine z_eq (z := (mCt nw mUn mLen whI)) (by unfold mCt; first | (rw [if_pos (by omega)] <;> first | rfl | (subst_vars; rfl)) | (rw [if_neg (by omega), if_pos (by omega)] <;> first | rfl | (subst_vars; rfl)) | (rw [if_neg (by omega), if_neg (by omega), if_pos (by omega)] <;> first | rfl | (subst_vars; rfl)) | (rw [if_neg (by omega), if_neg (by omega), if_neg (by omega), if_pos (by omega)] <;> first | rfl | (subst_vars; rfl)) | (rw [if_neg (by omega), if_neg (by omega), if_neg (by omega), if_neg (by omega), if_pos (by omega)] <;> first | rfl | (subst_vars; rfl)) | (rw [if_neg (by omega), if_neg (by omega), if_neg (by omega), if_neg (by omega), if_neg (by omega), if_pos (by omega)] <;> first | rfl | (subst_vars; rfl)) | (rw [if_neg (by omega), if_neg (by omega), if_neg (by omega), if_neg (by omega), if_neg (by omega), if_neg (by omega), if_pos (by omega)] <;> first | rfl | (subst_vars; rfl)) | (rw [if_neg (by omega), if_neg (by omega), if_neg (by omega), if_neg (by omega), if_neg (by omega), if_neg (by omega), if_neg (by omega), if_pos (by omega)] <;> first | rfl | (subst_vars; rfl)) | (rw [if_neg (by omega), if_neg (by omega), if_neg (by omega), if_neg (by omega), if_neg (by omega), if_neg (by omega), if_neg (by omega), if_neg (by omega), if_pos (by omega)] <;> first | rfl | (subst_vars; rfl)) | (rw [if_neg (by omega), if_neg (by omega), if_neg (by omega), if_neg (by omega), if_neg (by omega), if_neg (by omega), if_neg (by omega), if_neg (by omega), if_neg (by omega), if_pos (by omega)] <;> first | rfl | (subst_vars; rfl)) | (rw [if_neg (by omega), if_neg (by omega), if_neg (by omega), if_neg (by omega), if_neg (by omega), if_neg (by omega), if_neg (by omega), if_neg (by omega), if_neg (by omega), if_neg (by omega), if_pos (by omega)] <;> first | rfl | (subst_vars; rfl)) | (rw [if_neg (by omega), if_neg (by omega), if_neg (by omega), if_neg (by omega), if_neg (by omega), if_neg (by omega), if_neg (by omega), if_neg (by omega), if_neg (by omega), if_neg (by omega), if_neg (by omega)]; done)) ?_
          exact z_ret hx hb hr hlocks hS dX9_count_135
        by_cases h_11 : whI = 9
        · refine z_tsw (tgt := 136) (k := 9) (off := 96) hx hb dX9_count_40 h_11 (by decide) (by decide) ?_
          refine lv_aload_n hx hb dX9_count_136 rfl (lv_at hl 0 rfl) ?_
          refine va_get (D := G.1) (ci := 9) (v := .int (iV mLen)) (C := RX9) (T := TX9) (N := 18) hx hb hts inX9 hown hK hP 0 rfl rfl 0 (by decide) (hts _ wd_758) (fun _ h9 => h9) rfl dX9_count_137 ?_
          refine z_eq (z := (mCt nw mUn mLen whI)) (by unfold mCt; first | (rw [if_pos (by omega)] <;> first | rfl | (subst_vars; rfl)) | (rw [if_neg (by omega), if_pos (by omega)] <;> first | rfl | (subst_vars; rfl)) | (rw [if_neg (by omega), if_neg (by omega), if_pos (by omega)] <;> first | rfl | (subst_vars; rfl)) | (rw [if_neg (by omega), if_neg (by omega), if_neg (by omega), if_pos (by omega)] <;> first | rfl | (subst_vars; rfl)) | (rw [if_neg (by omega), if_neg (by omega), if_neg (by omega), if_neg (by omega), if_pos (by omega)] <;> first | rfl | (subst_vars; rfl)) | (rw [if_neg (by omega), if_neg (by omega), if_neg (by omega), if_neg (by omega), if_neg (by omega), if_pos (by omega)] <;> first | rfl | (subst_vars; rfl)) | (rw [if_neg (by omega), if_neg (by omega), if_neg (by omega), if_neg (by omega), if_neg (by omega), if_neg (by omega), if_pos (by omega)] <;> first | rfl | (subst_vars; rfl)) | (rw [if_neg (by omega), if_neg (by omega), if_neg (by omega), if_neg (by omega), if_neg (by omega), if_neg (by omega), if_neg (by omega), if_pos (by omega)] <;> first | rfl | (subst_vars; rfl)) | (rw [if_neg (by omega), if_neg (by omega), if_neg (by omega), if_neg (by omega), if_neg (by omega), if_neg (by omega), if_neg (by omega), if_neg (by omega), if_pos (by omega)] <;> first | rfl | (subst_vars; rfl)) | (rw [if_neg (by omega), if_neg (by omega), if_neg (by omega), if_neg (by omega), if_neg (by omega), if_neg (by omega), if_neg (by omega), if_neg (by omega), if_neg (by omega), if_pos (by omega)] <;> first | rfl | (subst_vars; rfl)) | (rw [if_neg (by omega), if_neg (by omega), if_neg (by omega), if_neg (by omega), if_neg (by omega), if_neg (by omega), if_neg (by omega), if_neg (by omega), if_neg (by omega), if_neg (by omega), if_pos (by omega)] <;> first | rfl | (subst_vars; rfl)) | (rw [if_neg (by omega), if_neg (by omega), if_neg (by omega), if_neg (by omega), if_neg (by omega), if_neg (by omega), if_neg (by omega), if_neg (by omega), if_neg (by omega), if_neg (by omega), if_neg (by omega)]; done)) ?_
          exact z_ret hx hb hr hlocks hS dX9_count_140
        by_cases h_12 : whI = 10
        · refine z_tsw (tgt := 125) (k := 10) (off := 85) hx hb dX9_count_40 h_12 (by decide) (by decide) ?_
          refine lv_aload_n hx hb dX9_count_125 rfl (lv_at hl 0 rfl) ?_
          refine lv_iload_n hx hb dX9_count_126 rfl (lv_at hl 1 rfl) ?_
          refine z_callV X hP hS hl.1 (c_X9_sumOf l G _ mA mLen mSpot mUn mRr mPit mFar mTm nw whI (by first | assumption | omega) (by first | assumption | omega)) wd_1061 kX9_sumOf ⟨rfl, rfl, Nat.le_of_ble_eq_true rfl, Nat.le_of_ble_eq_true rfl⟩ [0, 1] rfl 0 rfl rfl rfl rfl (Nat.le_of_ble_eq_true rfl) dX9_count_127 ⟨Nat.zero_le _, Nat.zero_le _⟩ (fun H locs hP hS => ?_)
          refine z_eq (z := (mCt nw mUn mLen whI)) (by unfold mCt; first | (rw [if_pos (by omega)] <;> first | rfl | (subst_vars; rfl)) | (rw [if_neg (by omega), if_pos (by omega)] <;> first | rfl | (subst_vars; rfl)) | (rw [if_neg (by omega), if_neg (by omega), if_pos (by omega)] <;> first | rfl | (subst_vars; rfl)) | (rw [if_neg (by omega), if_neg (by omega), if_neg (by omega), if_pos (by omega)] <;> first | rfl | (subst_vars; rfl)) | (rw [if_neg (by omega), if_neg (by omega), if_neg (by omega), if_neg (by omega), if_pos (by omega)] <;> first | rfl | (subst_vars; rfl)) | (rw [if_neg (by omega), if_neg (by omega), if_neg (by omega), if_neg (by omega), if_neg (by omega), if_pos (by omega)] <;> first | rfl | (subst_vars; rfl)) | (rw [if_neg (by omega), if_neg (by omega), if_neg (by omega), if_neg (by omega), if_neg (by omega), if_neg (by omega), if_pos (by omega)] <;> first | rfl | (subst_vars; rfl)) | (rw [if_neg (by omega), if_neg (by omega), if_neg (by omega), if_neg (by omega), if_neg (by omega), if_neg (by omega), if_neg (by omega), if_pos (by omega)] <;> first | rfl | (subst_vars; rfl)) | (rw [if_neg (by omega), if_neg (by omega), if_neg (by omega), if_neg (by omega), if_neg (by omega), if_neg (by omega), if_neg (by omega), if_neg (by omega), if_pos (by omega)] <;> first | rfl | (subst_vars; rfl)) | (rw [if_neg (by omega), if_neg (by omega), if_neg (by omega), if_neg (by omega), if_neg (by omega), if_neg (by omega), if_neg (by omega), if_neg (by omega), if_neg (by omega), if_pos (by omega)] <;> first | rfl | (subst_vars; rfl)) | (rw [if_neg (by omega), if_neg (by omega), if_neg (by omega), if_neg (by omega), if_neg (by omega), if_neg (by omega), if_neg (by omega), if_neg (by omega), if_neg (by omega), if_neg (by omega), if_pos (by omega)] <;> first | rfl | (subst_vars; rfl)) | (rw [if_neg (by omega), if_neg (by omega), if_neg (by omega), if_neg (by omega), if_neg (by omega), if_neg (by omega), if_neg (by omega), if_neg (by omega), if_neg (by omega), if_neg (by omega), if_neg (by omega)]; done)) ?_
          exact z_ret hx hb hr hlocks hS dX9_count_130
        refine z_tswd (tgt := 141) hx hb (by omega) dX9_count_40 (by omega) (by decide) ?_
        refine lv_iconst (v := iV (-1)) hx hb dX9_count_141 (by decide) ?_
        refine z_eq (z := (mCt nw mUn mLen whI)) (by unfold mCt; first | (rw [if_pos (by omega)] <;> first | rfl | (subst_vars; rfl)) | (rw [if_neg (by omega), if_pos (by omega)] <;> first | rfl | (subst_vars; rfl)) | (rw [if_neg (by omega), if_neg (by omega), if_pos (by omega)] <;> first | rfl | (subst_vars; rfl)) | (rw [if_neg (by omega), if_neg (by omega), if_neg (by omega), if_pos (by omega)] <;> first | rfl | (subst_vars; rfl)) | (rw [if_neg (by omega), if_neg (by omega), if_neg (by omega), if_neg (by omega), if_pos (by omega)] <;> first | rfl | (subst_vars; rfl)) | (rw [if_neg (by omega), if_neg (by omega), if_neg (by omega), if_neg (by omega), if_neg (by omega), if_pos (by omega)] <;> first | rfl | (subst_vars; rfl)) | (rw [if_neg (by omega), if_neg (by omega), if_neg (by omega), if_neg (by omega), if_neg (by omega), if_neg (by omega), if_pos (by omega)] <;> first | rfl | (subst_vars; rfl)) | (rw [if_neg (by omega), if_neg (by omega), if_neg (by omega), if_neg (by omega), if_neg (by omega), if_neg (by omega), if_neg (by omega), if_pos (by omega)] <;> first | rfl | (subst_vars; rfl)) | (rw [if_neg (by omega), if_neg (by omega), if_neg (by omega), if_neg (by omega), if_neg (by omega), if_neg (by omega), if_neg (by omega), if_neg (by omega), if_pos (by omega)] <;> first | rfl | (subst_vars; rfl)) | (rw [if_neg (by omega), if_neg (by omega), if_neg (by omega), if_neg (by omega), if_neg (by omega), if_neg (by omega), if_neg (by omega), if_neg (by omega), if_neg (by omega), if_pos (by omega)] <;> first | rfl | (subst_vars; rfl)) | (rw [if_neg (by omega), if_neg (by omega), if_neg (by omega), if_neg (by omega), if_neg (by omega), if_neg (by omega), if_neg (by omega), if_neg (by omega), if_neg (by omega), if_neg (by omega), if_pos (by omega)] <;> first | rfl | (subst_vars; rfl)) | (rw [if_neg (by omega), if_neg (by omega), if_neg (by omega), if_neg (by omega), if_neg (by omega), if_neg (by omega), if_neg (by omega), if_neg (by omega), if_neg (by omega), if_neg (by omega), if_neg (by omega)]; done)) ?_
        exact z_ret hx hb hr hlocks hS dX9_count_142
      · refine lv_iload_n hx hb dX9_count_15 rfl (lv_at hl 2 rfl) ?_
        refine lv_aload_n hx hb dX9_count_16 rfl (lv_at hl 0 rfl) ?_
        refine va_get (D := G.1) (ci := 9) (v := .ref (mA 2)) (C := RX9) (T := TX9) (N := 18) hx hb hts inX9 hown hK hP 0 rfl rfl 3 (by decide) (hts _ wd_761) (fun _ h9 => h9) rfl dX9_count_17 ?_
        refine lv_bipush (v := iV 89) hx hb dX9_count_20 (by decide) ?_
        refine lv_bipush (v := iV 8) hx hb dX9_count_22 (by decide) ?_
        refine lv_iload_n hx hb dX9_count_24 rfl (lv_at hl 3 rfl) ?_
        refine z_imul hx hb dX9_count_25 ?_
        refine z_iadd hx hb dX9_count_26 ?_
        refine lv_bipush (v := iV 6) hx hb dX9_count_27 (by decide) ?_
        refine z_iadd hx hb dX9_count_29 ?_
        refine z_iald (G := G) (f := nw) hx hb hK hP 1 rfl (by omega) (by omega) (by decide) dX9_count_30 ?_
        refine z_eq (z := (nL nw tq)) (by exact nL_at (by omega)) ?_
        refine z_iadd hx hb dX9_count_31 ?_
        refine lv_istore_n (lv' := [(2, .int (iV ((sumN (nL nw) tq) + (nL nw tq)))), (0, .ref (mA 0)), (1, .int (iV whI)), (3, .int (iV (Nat.cast tq : Int)))]) hx hb dX9_count_32 rfl hl (by decide) rfl (fun ls hl => ?_)
        refine z_iinc (lv' := [(3, .int (iV ((Nat.cast tq : Int) + 1))), (2, .int (iV ((sumN (nL nw) tq) + (nL nw tq)))), (0, .ref (mA 0)), (1, .int (iV whI))]) hx hb dX9_count_33 hl (k := 3) rfl (by decide) rfl (fun ls hl => ?_)
        refine lv_goto (tgt := 4) hx hb dX9_count_36 (by decide) ?_
        exact ih_4 (tq + 1) (by first | assumption | omega) (by omega) _ _ hP hS _ (lv_cons (lv_at hl 2 rfl) (lv_cons (lv_at hl 3 rfl) (lv_cons (lv_i hl 1 rfl (by first | rfl | omega)) (lv_cons (lv_i hl 0 rfl (by first | rfl | omega)) (lv_nil hl)))))
  exact lp_4 _ 0 (by first | assumption | omega) (Nat.lt_succ_self _) _ _ hP hS _ (lv_cons (lv_at hl 2 rfl) (lv_cons (lv_at hl 3 rfl) (lv_cons (lv_i hl 1 rfl (by first | rfl | omega)) (lv_cons (lv_i hl 0 rfl (by first | rfl | omega)) (lv_nil hl)))))

set_option maxHeartbeats 4000000 in
set_option maxRecDepth 100000 in
theorem c_X9_cell (l : Launch) (G : zG) (sz : Nat) (mA : Nat → Nat) (mLen : Int) (mSpot : Int) (mUn : Int) (mRr : Int) (mPit : Int) (mFar : Int) (mTm : Int) (nw : Nat → Int) (xI : Int) (yI : Int) (zI : Int) (hM : mOK nw) (hrxI : iR xI) (hryI : iR yI) (hrzI : iR zI) (hno : ¬ (hXY (nw 0) (nw 1) xI yI ∧ zI = 9)) : Met l yX9_cell (Cond.code yX9_cell cX9_cell 4 (some .int) :: zT) (zRm 6 142) (zPr G [.ref (mA 0), .int (iV xI), .int (iV yI), .int (iV zI)] [(mA 0, .inr (9, [.int (iV mLen), .ref (mA 1), .int (iV mSpot), .ref (mA 2), .ref (mA 3), .ref (mA 4), .int (iV mUn), .int (iV mRr), .int (iV mPit), .int (iV mFar), .ref (mA 5), .ref (mA 6), .ref (mA 7), .ref (mA 8), .int (iV mTm), .ref (mA 9), .ref (mA 10), .ref (mA 11)])), (mA 2, .inl (G.2.1, 249, .inl (fun k => iV (nw k))))] sz) (zQr (mCel nw xI yI zI) sz) 0 0 (zF sz) := by
  refine Met.ofW (cc := cX9_cell) (maxL := 4) (ret := (some .int)) (by decide) rfl ?_
  intro p e s m args below meth c s₁ B hml hv
  obtain ⟨rfl, hsz, hP, hK, hSt⟩ := hv
  have hx := B.exec
  have hb := B.bytes
  have hr := B.returns
  have hts : ∀ w ∈ zT, w.before _ s = true := fun w h => atoms_spec (ws := (Cond.code yX9_cell cX9_cell 4 (some .int) :: zT)) B.pre w (List.mem_cons_of_mem _ h)
  have hown : s.vm.findClass RX9 = some m.cls := findClass_of_methodNamed B.named
  have hlocks := B.notSynchronized
  subst hsz
  have hA : ∀ q : Nat, s.heap.size ≤ q → zF s.heap.size q := fun _ h => h
  have hS : va_S (zF s.heap.size) s.heap s.heap [] := va_S.rf
  have hP : va_P G.1 vwCl [(mA 0, .inr (9, [.int (iV mLen), .ref (mA 1), .int (iV mSpot), .ref (mA 2), .ref (mA 3), .ref (mA 4), .int (iV mUn), .int (iV mRr), .int (iV mPit), .int (iV mFar), .ref (mA 5), .ref (mA 6), .ref (mA 7), .ref (mA 8), .int (iV mTm), .ref (mA 9), .ref (mA 10), .ref (mA 11)])), (mA 2, .inl (G.2.1, 249, .inl (fun k => iV (nw k))))] s.heap := hP
  have X := And.intro hx (And.intro hb (And.intro hml (And.intro hown (And.intro hts (And.intro hK (And.intro hSt hA))))))
  have hl := lv_entry ([.ref (mA 0), .int (iV xI), .int (iV yI), .int (iV zI)]) (n := 4) (Nat.le_of_ble_eq_true rfl)
  rw [lg_entry_eq]
  generalize (lg_sl ([.ref (mA 0), .int (iV xI), .int (iV yI), .int (iV zI)]) ++ List.replicate (4 - (lg_sl ([.ref (mA 0), .int (iV xI), .int (iV yI), .int (iV zI)])).length) Slot.unset).toArray = ls at hl ⊢
  have hl : lv_has ls 4 [(0, .ref (mA 0)), (1, .int (iV xI)), (2, .int (iV yI)), (3, .int (iV zI))] := hl
  obtain ⟨hG, hWH3, hn88, hnL, hnQ, hn6, hn80⟩ := id hM
  obtain ⟨hW0, hW9, hH0, hH9, hg⟩ := id hG
  refine lv_aload_n hx hb dX9_cell_0 rfl (lv_at hl 0 rfl) ?_
  refine lv_iload_n hx hb dX9_cell_1 rfl (lv_at hl 1 rfl) ?_
  refine lv_iload_n hx hb dX9_cell_2 rfl (lv_at hl 2 rfl) ?_
  refine z_callV X hP hS hl.1 (c_X9_isCell l G _ mA mLen mSpot mUn mRr mPit mFar mTm nw xI yI (by first | assumption | omega) (by first | assumption | omega) (by first | assumption | omega)) wd_875 kX9_isCell ⟨rfl, rfl, Nat.le_of_ble_eq_true rfl, Nat.le_of_ble_eq_true rfl⟩ [0, 1] rfl 0 rfl rfl rfl rfl (Nat.le_of_ble_eq_true rfl) dX9_cell_3 ⟨Nat.zero_le _, Nat.zero_le _⟩ (fun H locs hP hS => ?_)
  refine z_ifb_eq (tgt := 21) hx hb dX9_cell_6 (by decide) (fun c_1 => ?_) (fun c_1 => ?_)
  · refine lv_iconst (v := iV (-1)) hx hb dX9_cell_21 (by decide) ?_
    refine z_eq (z := (mCel nw xI yI zI)) (by unfold mCel; first | (rw [if_neg (by omega)]; done) | (rw [if_pos (by assumption)]; first | (rw [if_pos (by omega)] <;> first | rfl | exact (bP_t (by assumption)).symm | exact (bP_f (by assumption)).symm) | (rw [if_neg (by omega), if_pos (by omega)] <;> first | rfl | exact (bP_t (by assumption)).symm | exact (bP_f (by assumption)).symm) | (rw [if_neg (by omega), if_neg (by omega), if_pos (by omega)] <;> first | rfl | exact (bP_t (by assumption)).symm | exact (bP_f (by assumption)).symm) | (rw [if_neg (by omega), if_neg (by omega), if_neg (by omega), if_pos (by omega)] <;> first | rfl | exact (bP_t (by assumption)).symm | exact (bP_f (by assumption)).symm) | (rw [if_neg (by omega), if_neg (by omega), if_neg (by omega), if_neg (by omega), if_pos (by omega)] <;> first | rfl | exact (bP_t (by assumption)).symm | exact (bP_f (by assumption)).symm) | (rw [if_neg (by omega), if_neg (by omega), if_neg (by omega), if_neg (by omega), if_neg (by omega), if_pos (by omega)] <;> first | rfl | exact (bP_t (by assumption)).symm | exact (bP_f (by assumption)).symm) | (rw [if_neg (by omega), if_neg (by omega), if_neg (by omega), if_neg (by omega), if_neg (by omega), if_neg (by omega), if_pos (by omega)] <;> first | rfl | exact (bP_t (by assumption)).symm | exact (bP_f (by assumption)).symm) | (rw [if_neg (by omega), if_neg (by omega), if_neg (by omega), if_neg (by omega), if_neg (by omega), if_neg (by omega), if_neg (by omega), if_pos (by omega)] <;> first | rfl | exact (bP_t (by assumption)).symm | exact (bP_f (by assumption)).symm) | (rw [if_neg (by omega), if_neg (by omega), if_neg (by omega), if_neg (by omega), if_neg (by omega), if_neg (by omega), if_neg (by omega), if_neg (by omega), if_pos (by omega)] <;> first | rfl | exact (bP_t (by assumption)).symm | exact (bP_f (by assumption)).symm) | (rw [if_neg (by omega), if_neg (by omega), if_neg (by omega), if_neg (by omega), if_neg (by omega), if_neg (by omega), if_neg (by omega), if_neg (by omega), if_neg (by omega)]; done))) ?_
    exact z_ret hx hb hr hlocks hS dX9_cell_22
  · refine lv_iload_n hx hb dX9_cell_9 rfl (lv_at hl 3 rfl) ?_
    refine z_i2l hx hb (by omega) dX9_cell_10 ?_
    refine lv_lconst (v := lV 0) hx hb dX9_cell_11 (by decide) ?_
    refine lv_ldc2 (v := lV 9) hx hb hown (hts _ wd_879) dX9_cell_12 ?_
    refine z_callS X hP hS hl.1 (c_X9_in l G _ zI 0 9 (by first | assumption | omega) (by first | assumption | omega) (by first | assumption | omega)) wd_819 kX9_in ⟨rfl, rfl, Nat.le_of_ble_eq_true rfl, Nat.le_of_ble_eq_true rfl⟩ [] rfl rfl rfl (Nat.le_of_ble_eq_true rfl) dX9_cell_15 ⟨Nat.zero_le _, Nat.zero_le _⟩ (fun H locs hP hS => ?_)
    refine z_ifb_ne (tgt := 23) hx hb dX9_cell_18 (by decide) (fun c_2 => ?_) (fun c_2 => ?_)
    · refine lv_iload_n hx hb dX9_cell_23 rfl (lv_at hl 3 rfl) ?_
      by_cases h_3 : zI = 0
      · refine z_tsw (tgt := 76) (k := 0) (off := 52) hx hb dX9_cell_24 h_3 (by decide) (by decide) ?_
        refine lv_aload_n hx hb dX9_cell_76 rfl (lv_at hl 0 rfl) ?_
        refine lv_iload_n hx hb dX9_cell_77 rfl (lv_at hl 1 rfl) ?_
        refine lv_iload_n hx hb dX9_cell_78 rfl (lv_at hl 2 rfl) ?_
        refine z_callV X hP hS hl.1 (c_X9_height l G _ mA mLen mSpot mUn mRr mPit mFar mTm nw xI yI (by first | assumption | omega) (by first | assumption | omega)) wd_891 kX9_height ⟨rfl, rfl, Nat.le_of_ble_eq_true rfl, Nat.le_of_ble_eq_true rfl⟩ [0, 1] rfl 0 rfl rfl rfl rfl (Nat.le_of_ble_eq_true rfl) dX9_cell_79 ⟨Nat.zero_le _, Nat.zero_le _⟩ (fun H locs hP hS => ?_)
        have f_4 := gAt_r (id hM).1 xI yI
        refine z_eq (z := (mCel nw xI yI zI)) (by unfold mCel; first | (rw [if_neg (by omega)]; done) | (rw [if_pos (by assumption)]; first | (rw [if_pos (by omega)] <;> first | rfl | exact (bP_t (by assumption)).symm | exact (bP_f (by assumption)).symm) | (rw [if_neg (by omega), if_pos (by omega)] <;> first | rfl | exact (bP_t (by assumption)).symm | exact (bP_f (by assumption)).symm) | (rw [if_neg (by omega), if_neg (by omega), if_pos (by omega)] <;> first | rfl | exact (bP_t (by assumption)).symm | exact (bP_f (by assumption)).symm) | (rw [if_neg (by omega), if_neg (by omega), if_neg (by omega), if_pos (by omega)] <;> first | rfl | exact (bP_t (by assumption)).symm | exact (bP_f (by assumption)).symm) | (rw [if_neg (by omega), if_neg (by omega), if_neg (by omega), if_neg (by omega), if_pos (by omega)] <;> first | rfl | exact (bP_t (by assumption)).symm | exact (bP_f (by assumption)).symm) | (rw [if_neg (by omega), if_neg (by omega), if_neg (by omega), if_neg (by omega), if_neg (by omega), if_pos (by omega)] <;> first | rfl | exact (bP_t (by assumption)).symm | exact (bP_f (by assumption)).symm) | (rw [if_neg (by omega), if_neg (by omega), if_neg (by omega), if_neg (by omega), if_neg (by omega), if_neg (by omega), if_pos (by omega)] <;> first | rfl | exact (bP_t (by assumption)).symm | exact (bP_f (by assumption)).symm) | (rw [if_neg (by omega), if_neg (by omega), if_neg (by omega), if_neg (by omega), if_neg (by omega), if_neg (by omega), if_neg (by omega), if_pos (by omega)] <;> first | rfl | exact (bP_t (by assumption)).symm | exact (bP_f (by assumption)).symm) | (rw [if_neg (by omega), if_neg (by omega), if_neg (by omega), if_neg (by omega), if_neg (by omega), if_neg (by omega), if_neg (by omega), if_neg (by omega), if_pos (by omega)] <;> first | rfl | exact (bP_t (by assumption)).symm | exact (bP_f (by assumption)).symm) | (rw [if_neg (by omega), if_neg (by omega), if_neg (by omega), if_neg (by omega), if_neg (by omega), if_neg (by omega), if_neg (by omega), if_neg (by omega), if_neg (by omega)]; done))) ?_
        exact z_ret hx hb hr hlocks hS dX9_cell_82
      by_cases h_5 : zI = 1
      · refine z_tsw (tgt := 83) (k := 1) (off := 59) hx hb dX9_cell_24 h_5 (by decide) (by decide) ?_
        refine lv_aload_n hx hb dX9_cell_83 rfl (lv_at hl 0 rfl) ?_
        refine lv_iload_n hx hb dX9_cell_84 rfl (lv_at hl 1 rfl) ?_
        refine lv_iload_n hx hb dX9_cell_85 rfl (lv_at hl 2 rfl) ?_
        refine z_callV X hP hS hl.1 (c_X9_east l G _ mA mLen mSpot mUn mRr mPit mFar mTm nw xI yI (by first | assumption | omega) (by first | assumption | omega)) wd_895 kX9_east ⟨rfl, rfl, Nat.le_of_ble_eq_true rfl, Nat.le_of_ble_eq_true rfl⟩ [0, 1] rfl 0 rfl rfl rfl rfl (Nat.le_of_ble_eq_true rfl) dX9_cell_86 ⟨Nat.zero_le _, Nat.zero_le _⟩ (fun H locs hP hS => ?_)
        have f_6 := gEast_r (id hM).1 xI yI
        refine lv_bipush (v := iV 100) hx hb dX9_cell_89 (by decide) ?_
        refine z_iadd hx hb dX9_cell_91 ?_
        refine z_eq (z := (mCel nw xI yI zI)) (by unfold mCel; first | (rw [if_neg (by omega)]; done) | (rw [if_pos (by assumption)]; first | (rw [if_pos (by omega)] <;> first | rfl | exact (bP_t (by assumption)).symm | exact (bP_f (by assumption)).symm) | (rw [if_neg (by omega), if_pos (by omega)] <;> first | rfl | exact (bP_t (by assumption)).symm | exact (bP_f (by assumption)).symm) | (rw [if_neg (by omega), if_neg (by omega), if_pos (by omega)] <;> first | rfl | exact (bP_t (by assumption)).symm | exact (bP_f (by assumption)).symm) | (rw [if_neg (by omega), if_neg (by omega), if_neg (by omega), if_pos (by omega)] <;> first | rfl | exact (bP_t (by assumption)).symm | exact (bP_f (by assumption)).symm) | (rw [if_neg (by omega), if_neg (by omega), if_neg (by omega), if_neg (by omega), if_pos (by omega)] <;> first | rfl | exact (bP_t (by assumption)).symm | exact (bP_f (by assumption)).symm) | (rw [if_neg (by omega), if_neg (by omega), if_neg (by omega), if_neg (by omega), if_neg (by omega), if_pos (by omega)] <;> first | rfl | exact (bP_t (by assumption)).symm | exact (bP_f (by assumption)).symm) | (rw [if_neg (by omega), if_neg (by omega), if_neg (by omega), if_neg (by omega), if_neg (by omega), if_neg (by omega), if_pos (by omega)] <;> first | rfl | exact (bP_t (by assumption)).symm | exact (bP_f (by assumption)).symm) | (rw [if_neg (by omega), if_neg (by omega), if_neg (by omega), if_neg (by omega), if_neg (by omega), if_neg (by omega), if_neg (by omega), if_pos (by omega)] <;> first | rfl | exact (bP_t (by assumption)).symm | exact (bP_f (by assumption)).symm) | (rw [if_neg (by omega), if_neg (by omega), if_neg (by omega), if_neg (by omega), if_neg (by omega), if_neg (by omega), if_neg (by omega), if_neg (by omega), if_pos (by omega)] <;> first | rfl | exact (bP_t (by assumption)).symm | exact (bP_f (by assumption)).symm) | (rw [if_neg (by omega), if_neg (by omega), if_neg (by omega), if_neg (by omega), if_neg (by omega), if_neg (by omega), if_neg (by omega), if_neg (by omega), if_neg (by omega)]; done))) ?_
        exact z_ret hx hb hr hlocks hS dX9_cell_92
      by_cases h_7 : zI = 2
      · refine z_tsw (tgt := 93) (k := 2) (off := 69) hx hb dX9_cell_24 h_7 (by decide) (by decide) ?_
        refine lv_aload_n hx hb dX9_cell_93 rfl (lv_at hl 0 rfl) ?_
        refine lv_iload_n hx hb dX9_cell_94 rfl (lv_at hl 1 rfl) ?_
        refine lv_iload_n hx hb dX9_cell_95 rfl (lv_at hl 2 rfl) ?_
        refine z_callV X hP hS hl.1 (c_X9_south l G _ mA mLen mSpot mUn mRr mPit mFar mTm nw xI yI (by first | assumption | omega) (by first | assumption | omega)) wd_909 kX9_south ⟨rfl, rfl, Nat.le_of_ble_eq_true rfl, Nat.le_of_ble_eq_true rfl⟩ [0, 1] rfl 0 rfl rfl rfl rfl (Nat.le_of_ble_eq_true rfl) dX9_cell_96 ⟨Nat.zero_le _, Nat.zero_le _⟩ (fun H locs hP hS => ?_)
        have f_8 := gSouth_r (id hM).1 xI yI
        refine lv_bipush (v := iV 100) hx hb dX9_cell_99 (by decide) ?_
        refine z_iadd hx hb dX9_cell_101 ?_
        refine z_eq (z := (mCel nw xI yI zI)) (by unfold mCel; first | (rw [if_neg (by omega)]; done) | (rw [if_pos (by assumption)]; first | (rw [if_pos (by omega)] <;> first | rfl | exact (bP_t (by assumption)).symm | exact (bP_f (by assumption)).symm) | (rw [if_neg (by omega), if_pos (by omega)] <;> first | rfl | exact (bP_t (by assumption)).symm | exact (bP_f (by assumption)).symm) | (rw [if_neg (by omega), if_neg (by omega), if_pos (by omega)] <;> first | rfl | exact (bP_t (by assumption)).symm | exact (bP_f (by assumption)).symm) | (rw [if_neg (by omega), if_neg (by omega), if_neg (by omega), if_pos (by omega)] <;> first | rfl | exact (bP_t (by assumption)).symm | exact (bP_f (by assumption)).symm) | (rw [if_neg (by omega), if_neg (by omega), if_neg (by omega), if_neg (by omega), if_pos (by omega)] <;> first | rfl | exact (bP_t (by assumption)).symm | exact (bP_f (by assumption)).symm) | (rw [if_neg (by omega), if_neg (by omega), if_neg (by omega), if_neg (by omega), if_neg (by omega), if_pos (by omega)] <;> first | rfl | exact (bP_t (by assumption)).symm | exact (bP_f (by assumption)).symm) | (rw [if_neg (by omega), if_neg (by omega), if_neg (by omega), if_neg (by omega), if_neg (by omega), if_neg (by omega), if_pos (by omega)] <;> first | rfl | exact (bP_t (by assumption)).symm | exact (bP_f (by assumption)).symm) | (rw [if_neg (by omega), if_neg (by omega), if_neg (by omega), if_neg (by omega), if_neg (by omega), if_neg (by omega), if_neg (by omega), if_pos (by omega)] <;> first | rfl | exact (bP_t (by assumption)).symm | exact (bP_f (by assumption)).symm) | (rw [if_neg (by omega), if_neg (by omega), if_neg (by omega), if_neg (by omega), if_neg (by omega), if_neg (by omega), if_neg (by omega), if_neg (by omega), if_pos (by omega)] <;> first | rfl | exact (bP_t (by assumption)).symm | exact (bP_f (by assumption)).symm) | (rw [if_neg (by omega), if_neg (by omega), if_neg (by omega), if_neg (by omega), if_neg (by omega), if_neg (by omega), if_neg (by omega), if_neg (by omega), if_neg (by omega)]; done))) ?_
        exact z_ret hx hb hr hlocks hS dX9_cell_102
      by_cases h_9 : zI = 3
      · refine z_tsw (tgt := 103) (k := 3) (off := 79) hx hb dX9_cell_24 h_9 (by decide) (by decide) ?_
        refine lv_aload_n hx hb dX9_cell_103 rfl (lv_at hl 0 rfl) ?_
        refine lv_iload_n hx hb dX9_cell_104 rfl (lv_at hl 1 rfl) ?_
        refine lv_iload_n hx hb dX9_cell_105 rfl (lv_at hl 2 rfl) ?_
        refine z_callV X hP hS hl.1 (c_X9_steep l G _ mA mLen mSpot mUn mRr mPit mFar mTm nw xI yI (by first | assumption | omega) (by first | assumption | omega)) wd_913 kX9_steep ⟨rfl, rfl, Nat.le_of_ble_eq_true rfl, Nat.le_of_ble_eq_true rfl⟩ [0, 1] rfl 0 rfl rfl rfl rfl (Nat.le_of_ble_eq_true rfl) dX9_cell_106 ⟨Nat.zero_le _, Nat.zero_le _⟩ (fun H locs hP hS => ?_)
        have f_10 := gSteep_r (id hM).1 xI yI
        refine z_eq (z := (mCel nw xI yI zI)) (by unfold mCel; first | (rw [if_neg (by omega)]; done) | (rw [if_pos (by assumption)]; first | (rw [if_pos (by omega)] <;> first | rfl | exact (bP_t (by assumption)).symm | exact (bP_f (by assumption)).symm) | (rw [if_neg (by omega), if_pos (by omega)] <;> first | rfl | exact (bP_t (by assumption)).symm | exact (bP_f (by assumption)).symm) | (rw [if_neg (by omega), if_neg (by omega), if_pos (by omega)] <;> first | rfl | exact (bP_t (by assumption)).symm | exact (bP_f (by assumption)).symm) | (rw [if_neg (by omega), if_neg (by omega), if_neg (by omega), if_pos (by omega)] <;> first | rfl | exact (bP_t (by assumption)).symm | exact (bP_f (by assumption)).symm) | (rw [if_neg (by omega), if_neg (by omega), if_neg (by omega), if_neg (by omega), if_pos (by omega)] <;> first | rfl | exact (bP_t (by assumption)).symm | exact (bP_f (by assumption)).symm) | (rw [if_neg (by omega), if_neg (by omega), if_neg (by omega), if_neg (by omega), if_neg (by omega), if_pos (by omega)] <;> first | rfl | exact (bP_t (by assumption)).symm | exact (bP_f (by assumption)).symm) | (rw [if_neg (by omega), if_neg (by omega), if_neg (by omega), if_neg (by omega), if_neg (by omega), if_neg (by omega), if_pos (by omega)] <;> first | rfl | exact (bP_t (by assumption)).symm | exact (bP_f (by assumption)).symm) | (rw [if_neg (by omega), if_neg (by omega), if_neg (by omega), if_neg (by omega), if_neg (by omega), if_neg (by omega), if_neg (by omega), if_pos (by omega)] <;> first | rfl | exact (bP_t (by assumption)).symm | exact (bP_f (by assumption)).symm) | (rw [if_neg (by omega), if_neg (by omega), if_neg (by omega), if_neg (by omega), if_neg (by omega), if_neg (by omega), if_neg (by omega), if_neg (by omega), if_pos (by omega)] <;> first | rfl | exact (bP_t (by assumption)).symm | exact (bP_f (by assumption)).symm) | (rw [if_neg (by omega), if_neg (by omega), if_neg (by omega), if_neg (by omega), if_neg (by omega), if_neg (by omega), if_neg (by omega), if_neg (by omega), if_neg (by omega)]; done))) ?_
        exact z_ret hx hb hr hlocks hS dX9_cell_109
      by_cases h_11 : zI = 4
      · refine z_tsw (tgt := 110) (k := 4) (off := 86) hx hb dX9_cell_24 h_11 (by decide) (by decide) ?_
        refine lv_aload_n hx hb dX9_cell_110 rfl (lv_at hl 0 rfl) ?_
        refine lv_iload_n hx hb dX9_cell_111 rfl (lv_at hl 1 rfl) ?_
        refine lv_iload_n hx hb dX9_cell_112 rfl (lv_at hl 2 rfl) ?_
        refine z_callV X hP hS hl.1 (c_X9_down l G _ mA mLen mSpot mUn mRr mPit mFar mTm nw xI yI (by first | assumption | omega) (by first | assumption | omega)) wd_917 kX9_down ⟨rfl, rfl, Nat.le_of_ble_eq_true rfl, Nat.le_of_ble_eq_true rfl⟩ [0, 1] rfl 0 rfl rfl rfl rfl (Nat.le_of_ble_eq_true rfl) dX9_cell_113 ⟨Nat.zero_le _, Nat.zero_le _⟩ (fun H locs hP hS => ?_)
        have f_12 := gDown_r (id hM).1 xI yI
        have f_13 := cNone_r (gDown_r (id hM).1 xI yI)
        refine z_eq (z := (mCel nw xI yI zI)) (by unfold mCel; first | (rw [if_neg (by omega)]; done) | (rw [if_pos (by assumption)]; first | (rw [if_pos (by omega)] <;> first | rfl | exact (bP_t (by assumption)).symm | exact (bP_f (by assumption)).symm) | (rw [if_neg (by omega), if_pos (by omega)] <;> first | rfl | exact (bP_t (by assumption)).symm | exact (bP_f (by assumption)).symm) | (rw [if_neg (by omega), if_neg (by omega), if_pos (by omega)] <;> first | rfl | exact (bP_t (by assumption)).symm | exact (bP_f (by assumption)).symm) | (rw [if_neg (by omega), if_neg (by omega), if_neg (by omega), if_pos (by omega)] <;> first | rfl | exact (bP_t (by assumption)).symm | exact (bP_f (by assumption)).symm) | (rw [if_neg (by omega), if_neg (by omega), if_neg (by omega), if_neg (by omega), if_pos (by omega)] <;> first | rfl | exact (bP_t (by assumption)).symm | exact (bP_f (by assumption)).symm) | (rw [if_neg (by omega), if_neg (by omega), if_neg (by omega), if_neg (by omega), if_neg (by omega), if_pos (by omega)] <;> first | rfl | exact (bP_t (by assumption)).symm | exact (bP_f (by assumption)).symm) | (rw [if_neg (by omega), if_neg (by omega), if_neg (by omega), if_neg (by omega), if_neg (by omega), if_neg (by omega), if_pos (by omega)] <;> first | rfl | exact (bP_t (by assumption)).symm | exact (bP_f (by assumption)).symm) | (rw [if_neg (by omega), if_neg (by omega), if_neg (by omega), if_neg (by omega), if_neg (by omega), if_neg (by omega), if_neg (by omega), if_pos (by omega)] <;> first | rfl | exact (bP_t (by assumption)).symm | exact (bP_f (by assumption)).symm) | (rw [if_neg (by omega), if_neg (by omega), if_neg (by omega), if_neg (by omega), if_neg (by omega), if_neg (by omega), if_neg (by omega), if_neg (by omega), if_pos (by omega)] <;> first | rfl | exact (bP_t (by assumption)).symm | exact (bP_f (by assumption)).symm) | (rw [if_neg (by omega), if_neg (by omega), if_neg (by omega), if_neg (by omega), if_neg (by omega), if_neg (by omega), if_neg (by omega), if_neg (by omega), if_neg (by omega)]; done))) ?_
        exact z_ret hx hb hr hlocks hS dX9_cell_116
      by_cases h_14 : zI = 5
      · refine z_tsw (tgt := 117) (k := 5) (off := 93) hx hb dX9_cell_24 h_14 (by decide) (by decide) ?_
        refine lv_aload_n hx hb dX9_cell_117 rfl (lv_at hl 0 rfl) ?_
        refine lv_iload_n hx hb dX9_cell_118 rfl (lv_at hl 1 rfl) ?_
        refine lv_iload_n hx hb dX9_cell_119 rfl (lv_at hl 2 rfl) ?_
        refine lv_iconst (v := iV 1) hx hb dX9_cell_120 (by decide) ?_
        refine z_callV X hP hS hl.1 (c_X9_isCrest l G _ mA mLen mSpot mUn mRr mPit mFar mTm nw xI yI 1 (by first | assumption | omega) (by first | assumption | omega) (by first | assumption | omega)) wd_921 kX9_isCrest ⟨rfl, rfl, Nat.le_of_ble_eq_true rfl, Nat.le_of_ble_eq_true rfl⟩ [0, 1] rfl 0 rfl rfl rfl rfl (Nat.le_of_ble_eq_true rfl) dX9_cell_121 ⟨Nat.zero_le _, Nat.zero_le _⟩ (fun H locs hP hS => ?_)
        refine z_ifb_eq (tgt := 131) hx hb dX9_cell_124 (by decide) (fun c_15 => ?_) (fun c_15 => ?_)
        · refine lv_iconst (v := iV 0) hx hb dX9_cell_131 (by decide) ?_
          refine z_eq (z := (mCel nw xI yI zI)) (by unfold mCel; first | (rw [if_neg (by omega)]; done) | (rw [if_pos (by assumption)]; first | (rw [if_pos (by omega)] <;> first | rfl | exact (bP_t (by assumption)).symm | exact (bP_f (by assumption)).symm) | (rw [if_neg (by omega), if_pos (by omega)] <;> first | rfl | exact (bP_t (by assumption)).symm | exact (bP_f (by assumption)).symm) | (rw [if_neg (by omega), if_neg (by omega), if_pos (by omega)] <;> first | rfl | exact (bP_t (by assumption)).symm | exact (bP_f (by assumption)).symm) | (rw [if_neg (by omega), if_neg (by omega), if_neg (by omega), if_pos (by omega)] <;> first | rfl | exact (bP_t (by assumption)).symm | exact (bP_f (by assumption)).symm) | (rw [if_neg (by omega), if_neg (by omega), if_neg (by omega), if_neg (by omega), if_pos (by omega)] <;> first | rfl | exact (bP_t (by assumption)).symm | exact (bP_f (by assumption)).symm) | (rw [if_neg (by omega), if_neg (by omega), if_neg (by omega), if_neg (by omega), if_neg (by omega), if_pos (by omega)] <;> first | rfl | exact (bP_t (by assumption)).symm | exact (bP_f (by assumption)).symm) | (rw [if_neg (by omega), if_neg (by omega), if_neg (by omega), if_neg (by omega), if_neg (by omega), if_neg (by omega), if_pos (by omega)] <;> first | rfl | exact (bP_t (by assumption)).symm | exact (bP_f (by assumption)).symm) | (rw [if_neg (by omega), if_neg (by omega), if_neg (by omega), if_neg (by omega), if_neg (by omega), if_neg (by omega), if_neg (by omega), if_pos (by omega)] <;> first | rfl | exact (bP_t (by assumption)).symm | exact (bP_f (by assumption)).symm) | (rw [if_neg (by omega), if_neg (by omega), if_neg (by omega), if_neg (by omega), if_neg (by omega), if_neg (by omega), if_neg (by omega), if_neg (by omega), if_pos (by omega)] <;> first | rfl | exact (bP_t (by assumption)).symm | exact (bP_f (by assumption)).symm) | (rw [if_neg (by omega), if_neg (by omega), if_neg (by omega), if_neg (by omega), if_neg (by omega), if_neg (by omega), if_neg (by omega), if_neg (by omega), if_neg (by omega)]; done))) ?_
          exact z_ret hx hb hr hlocks hS dX9_cell_132
        · refine lv_iconst (v := iV 1) hx hb dX9_cell_127 (by decide) ?_
          refine lv_goto (tgt := 132) hx hb dX9_cell_128 (by decide) ?_
          refine z_eq (z := (mCel nw xI yI zI)) (by unfold mCel; first | (rw [if_neg (by omega)]; done) | (rw [if_pos (by assumption)]; first | (rw [if_pos (by omega)] <;> first | rfl | exact (bP_t (by assumption)).symm | exact (bP_f (by assumption)).symm) | (rw [if_neg (by omega), if_pos (by omega)] <;> first | rfl | exact (bP_t (by assumption)).symm | exact (bP_f (by assumption)).symm) | (rw [if_neg (by omega), if_neg (by omega), if_pos (by omega)] <;> first | rfl | exact (bP_t (by assumption)).symm | exact (bP_f (by assumption)).symm) | (rw [if_neg (by omega), if_neg (by omega), if_neg (by omega), if_pos (by omega)] <;> first | rfl | exact (bP_t (by assumption)).symm | exact (bP_f (by assumption)).symm) | (rw [if_neg (by omega), if_neg (by omega), if_neg (by omega), if_neg (by omega), if_pos (by omega)] <;> first | rfl | exact (bP_t (by assumption)).symm | exact (bP_f (by assumption)).symm) | (rw [if_neg (by omega), if_neg (by omega), if_neg (by omega), if_neg (by omega), if_neg (by omega), if_pos (by omega)] <;> first | rfl | exact (bP_t (by assumption)).symm | exact (bP_f (by assumption)).symm) | (rw [if_neg (by omega), if_neg (by omega), if_neg (by omega), if_neg (by omega), if_neg (by omega), if_neg (by omega), if_pos (by omega)] <;> first | rfl | exact (bP_t (by assumption)).symm | exact (bP_f (by assumption)).symm) | (rw [if_neg (by omega), if_neg (by omega), if_neg (by omega), if_neg (by omega), if_neg (by omega), if_neg (by omega), if_neg (by omega), if_pos (by omega)] <;> first | rfl | exact (bP_t (by assumption)).symm | exact (bP_f (by assumption)).symm) | (rw [if_neg (by omega), if_neg (by omega), if_neg (by omega), if_neg (by omega), if_neg (by omega), if_neg (by omega), if_neg (by omega), if_neg (by omega), if_pos (by omega)] <;> first | rfl | exact (bP_t (by assumption)).symm | exact (bP_f (by assumption)).symm) | (rw [if_neg (by omega), if_neg (by omega), if_neg (by omega), if_neg (by omega), if_neg (by omega), if_neg (by omega), if_neg (by omega), if_neg (by omega), if_neg (by omega)]; done))) ?_
          exact z_ret hx hb hr hlocks hS dX9_cell_132
      by_cases h_16 : zI = 6
      · refine z_tsw (tgt := 133) (k := 6) (off := 109) hx hb dX9_cell_24 h_16 (by decide) (by decide) ?_
        refine lv_aload_n hx hb dX9_cell_133 rfl (lv_at hl 0 rfl) ?_
        refine lv_iload_n hx hb dX9_cell_134 rfl (lv_at hl 1 rfl) ?_
        refine lv_iload_n hx hb dX9_cell_135 rfl (lv_at hl 2 rfl) ?_
        refine lv_iconst (v := iV (-1)) hx hb dX9_cell_136 (by decide) ?_
        refine z_callV X hP hS hl.1 (c_X9_isCrest l G _ mA mLen mSpot mUn mRr mPit mFar mTm nw xI yI (-1) (by first | assumption | omega) (by first | assumption | omega) (by first | assumption | omega)) wd_921 kX9_isCrest ⟨rfl, rfl, Nat.le_of_ble_eq_true rfl, Nat.le_of_ble_eq_true rfl⟩ [0, 1] rfl 0 rfl rfl rfl rfl (Nat.le_of_ble_eq_true rfl) dX9_cell_137 ⟨Nat.zero_le _, Nat.zero_le _⟩ (fun H locs hP hS => ?_)
        refine z_ifb_eq (tgt := 147) hx hb dX9_cell_140 (by decide) (fun c_17 => ?_) (fun c_17 => ?_)
        · refine lv_iconst (v := iV 0) hx hb dX9_cell_147 (by decide) ?_
          refine z_eq (z := (mCel nw xI yI zI)) (by unfold mCel; first | (rw [if_neg (by omega)]; done) | (rw [if_pos (by assumption)]; first | (rw [if_pos (by omega)] <;> first | rfl | exact (bP_t (by assumption)).symm | exact (bP_f (by assumption)).symm) | (rw [if_neg (by omega), if_pos (by omega)] <;> first | rfl | exact (bP_t (by assumption)).symm | exact (bP_f (by assumption)).symm) | (rw [if_neg (by omega), if_neg (by omega), if_pos (by omega)] <;> first | rfl | exact (bP_t (by assumption)).symm | exact (bP_f (by assumption)).symm) | (rw [if_neg (by omega), if_neg (by omega), if_neg (by omega), if_pos (by omega)] <;> first | rfl | exact (bP_t (by assumption)).symm | exact (bP_f (by assumption)).symm) | (rw [if_neg (by omega), if_neg (by omega), if_neg (by omega), if_neg (by omega), if_pos (by omega)] <;> first | rfl | exact (bP_t (by assumption)).symm | exact (bP_f (by assumption)).symm) | (rw [if_neg (by omega), if_neg (by omega), if_neg (by omega), if_neg (by omega), if_neg (by omega), if_pos (by omega)] <;> first | rfl | exact (bP_t (by assumption)).symm | exact (bP_f (by assumption)).symm) | (rw [if_neg (by omega), if_neg (by omega), if_neg (by omega), if_neg (by omega), if_neg (by omega), if_neg (by omega), if_pos (by omega)] <;> first | rfl | exact (bP_t (by assumption)).symm | exact (bP_f (by assumption)).symm) | (rw [if_neg (by omega), if_neg (by omega), if_neg (by omega), if_neg (by omega), if_neg (by omega), if_neg (by omega), if_neg (by omega), if_pos (by omega)] <;> first | rfl | exact (bP_t (by assumption)).symm | exact (bP_f (by assumption)).symm) | (rw [if_neg (by omega), if_neg (by omega), if_neg (by omega), if_neg (by omega), if_neg (by omega), if_neg (by omega), if_neg (by omega), if_neg (by omega), if_pos (by omega)] <;> first | rfl | exact (bP_t (by assumption)).symm | exact (bP_f (by assumption)).symm) | (rw [if_neg (by omega), if_neg (by omega), if_neg (by omega), if_neg (by omega), if_neg (by omega), if_neg (by omega), if_neg (by omega), if_neg (by omega), if_neg (by omega)]; done))) ?_
          exact z_ret hx hb hr hlocks hS dX9_cell_148
        · refine lv_iconst (v := iV 1) hx hb dX9_cell_143 (by decide) ?_
          refine lv_goto (tgt := 148) hx hb dX9_cell_144 (by decide) ?_
          refine z_eq (z := (mCel nw xI yI zI)) (by unfold mCel; first | (rw [if_neg (by omega)]; done) | (rw [if_pos (by assumption)]; first | (rw [if_pos (by omega)] <;> first | rfl | exact (bP_t (by assumption)).symm | exact (bP_f (by assumption)).symm) | (rw [if_neg (by omega), if_pos (by omega)] <;> first | rfl | exact (bP_t (by assumption)).symm | exact (bP_f (by assumption)).symm) | (rw [if_neg (by omega), if_neg (by omega), if_pos (by omega)] <;> first | rfl | exact (bP_t (by assumption)).symm | exact (bP_f (by assumption)).symm) | (rw [if_neg (by omega), if_neg (by omega), if_neg (by omega), if_pos (by omega)] <;> first | rfl | exact (bP_t (by assumption)).symm | exact (bP_f (by assumption)).symm) | (rw [if_neg (by omega), if_neg (by omega), if_neg (by omega), if_neg (by omega), if_pos (by omega)] <;> first | rfl | exact (bP_t (by assumption)).symm | exact (bP_f (by assumption)).symm) | (rw [if_neg (by omega), if_neg (by omega), if_neg (by omega), if_neg (by omega), if_neg (by omega), if_pos (by omega)] <;> first | rfl | exact (bP_t (by assumption)).symm | exact (bP_f (by assumption)).symm) | (rw [if_neg (by omega), if_neg (by omega), if_neg (by omega), if_neg (by omega), if_neg (by omega), if_neg (by omega), if_pos (by omega)] <;> first | rfl | exact (bP_t (by assumption)).symm | exact (bP_f (by assumption)).symm) | (rw [if_neg (by omega), if_neg (by omega), if_neg (by omega), if_neg (by omega), if_neg (by omega), if_neg (by omega), if_neg (by omega), if_pos (by omega)] <;> first | rfl | exact (bP_t (by assumption)).symm | exact (bP_f (by assumption)).symm) | (rw [if_neg (by omega), if_neg (by omega), if_neg (by omega), if_neg (by omega), if_neg (by omega), if_neg (by omega), if_neg (by omega), if_neg (by omega), if_pos (by omega)] <;> first | rfl | exact (bP_t (by assumption)).symm | exact (bP_f (by assumption)).symm) | (rw [if_neg (by omega), if_neg (by omega), if_neg (by omega), if_neg (by omega), if_neg (by omega), if_neg (by omega), if_neg (by omega), if_neg (by omega), if_neg (by omega)]; done))) ?_
          exact z_ret hx hb hr hlocks hS dX9_cell_148
      by_cases h_18 : zI = 7
      · refine z_tsw (tgt := 149) (k := 7) (off := 125) hx hb dX9_cell_24 h_18 (by decide) (by decide) ?_
        refine lv_aload_n hx hb dX9_cell_149 rfl (lv_at hl 0 rfl) ?_
        refine lv_iload_n hx hb dX9_cell_150 rfl (lv_at hl 1 rfl) ?_
        refine lv_iload_n hx hb dX9_cell_151 rfl (lv_at hl 2 rfl) ?_
        refine z_callV X hP hS hl.1 (c_X9_quarter l G _ mA mLen mSpot mUn mRr mPit mFar mTm nw xI yI (by first | assumption | omega) (by first | assumption | omega)) wd_925 kX9_quarter ⟨rfl, rfl, Nat.le_of_ble_eq_true rfl, Nat.le_of_ble_eq_true rfl⟩ [0, 1] rfl 0 rfl rfl rfl rfl (Nat.le_of_ble_eq_true rfl) dX9_cell_152 ⟨Nat.zero_le _, Nat.zero_le _⟩ (fun H locs hP hS => ?_)
        have f_19 := gQ_r (nw 0) (nw 1) xI yI
        refine z_eq (z := (mCel nw xI yI zI)) (by unfold mCel; first | (rw [if_neg (by omega)]; done) | (rw [if_pos (by assumption)]; first | (rw [if_pos (by omega)] <;> first | rfl | exact (bP_t (by assumption)).symm | exact (bP_f (by assumption)).symm) | (rw [if_neg (by omega), if_pos (by omega)] <;> first | rfl | exact (bP_t (by assumption)).symm | exact (bP_f (by assumption)).symm) | (rw [if_neg (by omega), if_neg (by omega), if_pos (by omega)] <;> first | rfl | exact (bP_t (by assumption)).symm | exact (bP_f (by assumption)).symm) | (rw [if_neg (by omega), if_neg (by omega), if_neg (by omega), if_pos (by omega)] <;> first | rfl | exact (bP_t (by assumption)).symm | exact (bP_f (by assumption)).symm) | (rw [if_neg (by omega), if_neg (by omega), if_neg (by omega), if_neg (by omega), if_pos (by omega)] <;> first | rfl | exact (bP_t (by assumption)).symm | exact (bP_f (by assumption)).symm) | (rw [if_neg (by omega), if_neg (by omega), if_neg (by omega), if_neg (by omega), if_neg (by omega), if_pos (by omega)] <;> first | rfl | exact (bP_t (by assumption)).symm | exact (bP_f (by assumption)).symm) | (rw [if_neg (by omega), if_neg (by omega), if_neg (by omega), if_neg (by omega), if_neg (by omega), if_neg (by omega), if_pos (by omega)] <;> first | rfl | exact (bP_t (by assumption)).symm | exact (bP_f (by assumption)).symm) | (rw [if_neg (by omega), if_neg (by omega), if_neg (by omega), if_neg (by omega), if_neg (by omega), if_neg (by omega), if_neg (by omega), if_pos (by omega)] <;> first | rfl | exact (bP_t (by assumption)).symm | exact (bP_f (by assumption)).symm) | (rw [if_neg (by omega), if_neg (by omega), if_neg (by omega), if_neg (by omega), if_neg (by omega), if_neg (by omega), if_neg (by omega), if_neg (by omega), if_pos (by omega)] <;> first | rfl | exact (bP_t (by assumption)).symm | exact (bP_f (by assumption)).symm) | (rw [if_neg (by omega), if_neg (by omega), if_neg (by omega), if_neg (by omega), if_neg (by omega), if_neg (by omega), if_neg (by omega), if_neg (by omega), if_neg (by omega)]; done))) ?_
        exact z_ret hx hb hr hlocks hS dX9_cell_155
      by_cases h_20 : zI = 8
      · refine z_tsw (tgt := 156) (k := 8) (off := 132) hx hb dX9_cell_24 h_20 (by decide) (by decide) ?_
        refine lv_aload_n hx hb dX9_cell_156 rfl (lv_at hl 0 rfl) ?_
        refine lv_iload_n hx hb dX9_cell_157 rfl (lv_at hl 1 rfl) ?_
        refine lv_iload_n hx hb dX9_cell_158 rfl (lv_at hl 2 rfl) ?_
        refine z_callV X hP hS hl.1 (c_X9_tone l G _ mA mLen mSpot mUn mRr mPit mFar mTm nw xI yI (by first | assumption | omega) (by first | assumption | omega)) wd_929 kX9_tone ⟨rfl, rfl, Nat.le_of_ble_eq_true rfl, Nat.le_of_ble_eq_true rfl⟩ [0, 1] rfl 0 rfl rfl rfl rfl (Nat.le_of_ble_eq_true rfl) dX9_cell_159 ⟨Nat.zero_le _, Nat.zero_le _⟩ (fun H locs hP hS => ?_)
        have f_21 := gTone_r (id hM).1 xI yI (nQ nw (gQ (nw 0) (nw 1) xI yI).toNat)
        refine lv_bipush (v := iV 100) hx hb dX9_cell_162 (by decide) ?_
        refine z_iadd hx hb dX9_cell_164 ?_
        refine z_eq (z := (mCel nw xI yI zI)) (by unfold mCel; first | (rw [if_neg (by omega)]; done) | (rw [if_pos (by assumption)]; first | (rw [if_pos (by omega)] <;> first | rfl | exact (bP_t (by assumption)).symm | exact (bP_f (by assumption)).symm) | (rw [if_neg (by omega), if_pos (by omega)] <;> first | rfl | exact (bP_t (by assumption)).symm | exact (bP_f (by assumption)).symm) | (rw [if_neg (by omega), if_neg (by omega), if_pos (by omega)] <;> first | rfl | exact (bP_t (by assumption)).symm | exact (bP_f (by assumption)).symm) | (rw [if_neg (by omega), if_neg (by omega), if_neg (by omega), if_pos (by omega)] <;> first | rfl | exact (bP_t (by assumption)).symm | exact (bP_f (by assumption)).symm) | (rw [if_neg (by omega), if_neg (by omega), if_neg (by omega), if_neg (by omega), if_pos (by omega)] <;> first | rfl | exact (bP_t (by assumption)).symm | exact (bP_f (by assumption)).symm) | (rw [if_neg (by omega), if_neg (by omega), if_neg (by omega), if_neg (by omega), if_neg (by omega), if_pos (by omega)] <;> first | rfl | exact (bP_t (by assumption)).symm | exact (bP_f (by assumption)).symm) | (rw [if_neg (by omega), if_neg (by omega), if_neg (by omega), if_neg (by omega), if_neg (by omega), if_neg (by omega), if_pos (by omega)] <;> first | rfl | exact (bP_t (by assumption)).symm | exact (bP_f (by assumption)).symm) | (rw [if_neg (by omega), if_neg (by omega), if_neg (by omega), if_neg (by omega), if_neg (by omega), if_neg (by omega), if_neg (by omega), if_pos (by omega)] <;> first | rfl | exact (bP_t (by assumption)).symm | exact (bP_f (by assumption)).symm) | (rw [if_neg (by omega), if_neg (by omega), if_neg (by omega), if_neg (by omega), if_neg (by omega), if_neg (by omega), if_neg (by omega), if_neg (by omega), if_pos (by omega)] <;> first | rfl | exact (bP_t (by assumption)).symm | exact (bP_f (by assumption)).symm) | (rw [if_neg (by omega), if_neg (by omega), if_neg (by omega), if_neg (by omega), if_neg (by omega), if_neg (by omega), if_neg (by omega), if_neg (by omega), if_neg (by omega)]; done))) ?_
        exact z_ret hx hb hr hlocks hS dX9_cell_165
      exact absurd (And.intro (by assumption) (by omega)) hno
    · refine lv_iconst (v := iV (-1)) hx hb dX9_cell_21 (by decide) ?_
      refine z_eq (z := (mCel nw xI yI zI)) (by unfold mCel; first | (rw [if_neg (by omega)]; done) | (rw [if_pos (by assumption)]; first | (rw [if_pos (by omega)] <;> first | rfl | exact (bP_t (by assumption)).symm | exact (bP_f (by assumption)).symm) | (rw [if_neg (by omega), if_pos (by omega)] <;> first | rfl | exact (bP_t (by assumption)).symm | exact (bP_f (by assumption)).symm) | (rw [if_neg (by omega), if_neg (by omega), if_pos (by omega)] <;> first | rfl | exact (bP_t (by assumption)).symm | exact (bP_f (by assumption)).symm) | (rw [if_neg (by omega), if_neg (by omega), if_neg (by omega), if_pos (by omega)] <;> first | rfl | exact (bP_t (by assumption)).symm | exact (bP_f (by assumption)).symm) | (rw [if_neg (by omega), if_neg (by omega), if_neg (by omega), if_neg (by omega), if_pos (by omega)] <;> first | rfl | exact (bP_t (by assumption)).symm | exact (bP_f (by assumption)).symm) | (rw [if_neg (by omega), if_neg (by omega), if_neg (by omega), if_neg (by omega), if_neg (by omega), if_pos (by omega)] <;> first | rfl | exact (bP_t (by assumption)).symm | exact (bP_f (by assumption)).symm) | (rw [if_neg (by omega), if_neg (by omega), if_neg (by omega), if_neg (by omega), if_neg (by omega), if_neg (by omega), if_pos (by omega)] <;> first | rfl | exact (bP_t (by assumption)).symm | exact (bP_f (by assumption)).symm) | (rw [if_neg (by omega), if_neg (by omega), if_neg (by omega), if_neg (by omega), if_neg (by omega), if_neg (by omega), if_neg (by omega), if_pos (by omega)] <;> first | rfl | exact (bP_t (by assumption)).symm | exact (bP_f (by assumption)).symm) | (rw [if_neg (by omega), if_neg (by omega), if_neg (by omega), if_neg (by omega), if_neg (by omega), if_neg (by omega), if_neg (by omega), if_neg (by omega), if_pos (by omega)] <;> first | rfl | exact (bP_t (by assumption)).symm | exact (bP_f (by assumption)).symm) | (rw [if_neg (by omega), if_neg (by omega), if_neg (by omega), if_neg (by omega), if_neg (by omega), if_neg (by omega), if_neg (by omega), if_neg (by omega), if_neg (by omega)]; done))) ?_
      exact z_ret hx hb hr hlocks hS dX9_cell_22
