section ZN
variable {p : Program} {l : Launch} {e : Env} {R : Room} {s : State} {m : MethodId} {args : Array Value} {below : List Frame} {meth : Method} {c : Code} {H : Heap} {locs : List Loc} {cells slots : Nat} {Q : State → Prop}
variable {cc : ByteArray} {pc : Nat} {ls : Array Slot} {rest : List Value} {G : zG} {A : Nat → Prop} {w : va_W} {a : Nat} {H0 : Heap}
theorem z_aast {n b ci qk : Nat} {f : Nat → Option Nat} {i : Int} {vs : List Value} {T : u_T} {N : Nat} (hexec : p.tables.exec = Jvm.exec) (hb : c.code = cc) (hK : zK G s) (hP : va_P G.1 vwCl w H) (hD : va_D A w) (hS : va_S A H0 H locs) (q0 : Nat) (ha : w[q0]? = some (a, .inl (G.2.2.2.2, n, .inr (.inr (.inr (.inr f)))))) (hv : w[qk]? = some (b, .inr (ci, vs))) (hc : vwCl[ci]? = some ("HillStrokes$Picture", T, N)) (h0 : 0 ≤ i ∧ i < n) (hn : n < 2147483648) (hdg : decode cc pc = .ok (.aastore, 1))
    (kk : ∀ (H1 : Heap) (locs1 : List Loc), va_P G.1 vwCl (w.set q0 (a, .inl (G.2.2.2.2, n, .inr (.inr (.inr (.inr (va_up f i.toNat (some b)))))))) H1 → va_D A (w.set q0 (a, .inl (G.2.2.2.2, n, .inr (.inr (.inr (.inr (va_up f i.toNat (some b)))))))) → va_S A H0 H1 locs1 → W p l e R s m args below meth c H1 locs1 cells slots Q (F0 m (pc + 1) ls rest)) : W p l e R s m args below meth c H locs cells slots Q (F0 m pc ls (.ref b :: .int (iV i) :: .ref a :: rest)) := by
  refine va_astq hexec hb hK hP hD hS q0 3 qk ci ha rfl hv hc (iV_in h0.1 h0.2 hn) hdg ?_
  rw [iV_nat ⟨by omega, by omega⟩]
  exact kk
theorem va_P_one {D : va_G} {cl : List vw_C} {w1 w2 : va_W} {cA : ClassId} {x y : vp_A} (he : vp_cell cA x = vp_cell cA y) (h : va_P D cl (w1 ++ ((a, .inl (cA, x)) :: w2)) H) : va_P D cl (w1 ++ ((a, .inl (cA, y)) :: w2)) H := by
  refine va_P_mem.mpr (fun q hq => ?_)
  rcases List.mem_append.mp hq with h1 | h1
  · exact va_P_mem.mp h q (List.mem_append_left _ h1)
  · rcases List.mem_cons.mp h1 with rfl | h2
    · have := va_P_mem.mp h (a, .inl (cA, x)) (List.mem_append_right _ List.mem_cons_self)
      show H[a]? = some (vp_cell cA y)
      rw [← he]
      exact this
    · exact va_P_mem.mp h q (List.mem_append_right _ (List.mem_cons_of_mem _ h2))
theorem va_D_one {w1 w2 : va_W} {x y : va_E} (h : va_D A (w1 ++ ((a, x) :: w2))) : va_D A (w1 ++ ((a, y) :: w2)) := by
  rw [va_D_nd] at h ⊢
  refine ⟨by rw [List.map_append, List.map_cons] at *; exact h.1, fun q hq => ?_⟩
  rcases List.mem_append.mp hq with h1 | h1
  · exact h.2 q (List.mem_append_left _ h1)
  · rcases List.mem_cons.mp h1 with rfl | h2
    · exact h.2 (a, x) (List.mem_append_right _ List.mem_cons_self)
    · exact h.2 q (List.mem_append_right _ (List.mem_cons_of_mem _ h2))
end ZN
set_option maxHeartbeats 4000000 in
set_option maxRecDepth 100000 in
theorem c_X3_init (l : Launch) (G : zG) (sz q0 : Nat) : Met l yX3_init (Cond.code yX3_init cX3_init 2 none :: zT) (zRc 3 52 49 1542) (zP0 G [.ref q0] [(q0, .inr (3, [.int (iV 0), .int (iV 0), .null]))] sz) (zQi G (fun u : (Nat → Nat) × (Nat → Nat → Nat) => u.1 0 = q0) (fun u : (Nat → Nat) × (Nat → Nat → Nat) => zPas G u.1 u.2 0 0 (fun _ => pP0)) [(q0, .inr (3, [.int (iV 0), .int (iV 0), .null]))] sz) 49 1542 (va_A [(q0, .inr (3, [.int (iV 0), .int (iV 0), .null]))] sz) := by
  refine Met.ofW (cc := cX3_init) (maxL := 2) (ret := none) (by decide) rfl ?_
  intro p e s m args below meth c s₁ B hml hv
  obtain ⟨rfl, hsz, hP, hK, hD0, hNw⟩ := hv
  have hx := B.exec
  have hb := B.bytes
  have hr := B.returns
  have hts : ∀ w ∈ zT, w.before _ s = true := fun w h => atoms_spec (ws := (Cond.code yX3_init cX3_init 2 none :: zT)) B.pre w (List.mem_cons_of_mem _ h)
  have hown : s.vm.findClass RX3 = some m.cls := findClass_of_methodNamed B.named
  have hlocks := B.notSynchronized
  have hin : meth.name = "<init>" := (name_of_methodNamed B.named B.method).1
  subst hsz
  have hD : va_D (va_A [(q0, .inr (3, [.int (iV 0), .int (iV 0), .null]))] s.heap.size) [(q0, .inr (3, [.int (iV 0), .int (iV 0), .null]))] := hD0.self
  have hA : ∀ q : Nat, s.heap.size ≤ q → va_A [(q0, .inr (3, [.int (iV 0), .int (iV 0), .null]))] s.heap.size q := fun q h => Or.inr h
  have hS : va_S (va_A [(q0, .inr (3, [.int (iV 0), .int (iV 0), .null]))] s.heap.size) s.heap s.heap [] := va_S.rf
  have hP : va_P G.1 vwCl [(q0, .inr (3, [.int (iV 0), .int (iV 0), .null]))] s.heap := hP
  have X := And.intro hx (And.intro hb (And.intro hml (And.intro hown hts)))
  have hl := lv_entry ([.ref q0]) (n := 2) (Nat.le_of_ble_eq_true rfl)
  rw [lg_entry_eq]
  generalize (lg_sl ([.ref q0]) ++ List.replicate (2 - (lg_sl ([.ref q0])).length) Slot.unset).toArray = ls at hl ⊢
  have hl : lv_has ls 2 [(0, .ref q0)] := hl
  refine lv_aload_n hx hb dX3_init_0 rfl (lv_at hl 0 rfl) ?_
  refine W.objInit hx hb hown (hts _ wd_101) (hts _ wd_23) (hts _ wd_24) rfl (by rw [hml]; exact hl.1) rfl dX3_init_1 (Nat.le_of_ble_eq_true rfl) (Nat.le_of_ble_eq_true rfl) ?_
  refine W.eq (g2 := F0 m 4 ls []) rfl ?_
  refine lv_aload_n hx hb dX3_init_4 rfl (lv_at hl 0 rfl) ?_
  refine lv_bipush (v := iV 6) hx hb dX3_init_5 (by decide) ?_
  refine z_newP (N := 6) hx hb hown (hts _ wd_102) hNw.2 hK hP hD hS hA ⟨rfl, by decide⟩ (Nat.le_of_ble_eq_true rfl) (Nat.le_of_ble_eq_true rfl) dX3_init_7 (fun q7 H hP hD hS => ?_)
  refine W.widen (k := 1) (n := 6) (Nat.le_of_ble_eq_true rfl) (Nat.le_of_ble_eq_true rfl) ?_
  have hP : va_P G.1 vwCl ([(q0, .inr (3, [.int (iV 0), .int (iV 0), .null]))] ++ [(q7, .inl (G.2.2.2.2, 6, .inr (.inr (.inr (.inr (fun _ => none))))))]) _ := hP
  have hD : va_D _ ([(q0, .inr (3, [.int (iV 0), .int (iV 0), .null]))] ++ [(q7, .inl (G.2.2.2.2, 6, .inr (.inr (.inr (.inr (fun _ => none))))))]) := hD
  refine va_putF (D := G.1) (ci := 3) (v := .ref q7) (ty := tyX3 2) (C := RX3) (T := TX3) (N := 3) hx hb hts inX3 tyX3 tyX3_ok nmX3 hown hK hP hD hS 0 rfl rfl 2 (by decide) (hts _ wd_108) (fun _ h9 => h9) rfl hin rfl (tyX3_ok 2 (by decide)) rfl rfl (Nat.le_of_ble_eq_true rfl) dX3_init_10 (fun H locs hP hD hS => ?_)
  have hP : va_P G.1 vwCl ([(q0, .inr (3, [.int (iV 0), .int (iV 0), .ref q7]))] ++ [(q7, .inl (G.2.2.2.2, 6, .inr (.inr (.inr (.inr (fun _ => none))))))]) _ := hP
  have hD : va_D _ ([(q0, .inr (3, [.int (iV 0), .int (iV 0), .ref q7]))] ++ [(q7, .inl (G.2.2.2.2, 6, .inr (.inr (.inr (.inr (fun _ => none))))))]) := hD
  refine lv_iconst (v := iV 0) hx hb dX3_init_13 (by decide) ?_
  refine lv_istore_n (lv' := [(1, .int (iV 0)), (0, .ref q0)]) hx hb dX3_init_14 rfl hl (by decide) rfl (fun ls hl => ?_)
  refine lv_iload_n hx hb dX3_init_15 rfl (lv_at hl 0 rfl) ?_
  refine lv_bipush (v := iV 6) hx hb dX3_init_16 (by decide) ?_
  refine z_icmp_ge (tgt := 40) hx hb ⟨by decide, by decide⟩ ⟨by decide, by decide⟩ dX3_init_18 (by decide) (fun h => absurd h (by decide)) (fun _ => ?_)
  refine lv_aload_n hx hb dX3_init_21 rfl (lv_at hl 1 rfl) ?_
  refine va_get (D := G.1) (ci := 3) (v := .ref q7) (C := RX3) (T := TX3) (N := 3) hx hb hts inX3 hown hK hP 0 rfl rfl 2 (by decide) (hts _ wd_108) (fun _ h9 => h9) rfl dX3_init_22 ?_
  refine lv_iload_n hx hb dX3_init_25 rfl (lv_at hl 0 rfl) ?_
  refine va_new (D := G.1) (ci := 4) (fs := [.null, .null, .null, .int (iV 0)]) (C := RX4) (T := TX4) (N := 4) hx hb hts inX4 tyX4 tyX4_ok hown (hts _ wd_102) (hts _ wd_26) (hts _ wd_2) hK hP hD hS hA rfl (fun j hj => by rcases (show j = 0 ∨ j = 1 ∨ j = 2 ∨ j = 3 by omega) with rfl | rfl | rfl | rfl <;> rfl) (Nat.le_of_ble_eq_true rfl) (Nat.le_of_ble_eq_true rfl) dX3_init_26 (fun q26 H hP hD hS => ?_)
  refine W.widen (k := 2) (n := 10) (Nat.le_of_ble_eq_true rfl) (Nat.le_of_ble_eq_true rfl) ?_
  have hP : va_P G.1 vwCl (([(q0, .inr (3, [.int (iV 0), .int (iV 0), .ref q7]))] ++ [(q7, .inl (G.2.2.2.2, 6, .inr (.inr (.inr (.inr (fun _ => none))))))]) ++ [(q26, .inr (4, [.null, .null, .null, .int (iV 0)]))]) _ := hP
  have hD : va_D _ (([(q0, .inr (3, [.int (iV 0), .int (iV 0), .ref q7]))] ++ [(q7, .inl (G.2.2.2.2, 6, .inr (.inr (.inr (.inr (fun _ => none))))))]) ++ [(q26, .inr (4, [.null, .null, .null, .int (iV 0)]))]) := hD
  refine lv_dup hx hb dX3_init_29 rfl ?_
  have hPc : va_P G.1 vwCl [(q26, .inr (4, [.null, .null, .null, .int (iV 0)]))] H := va_P_mem.mpr (fun x hx => va_P_mem.mp hP x (List.mem_append_right _ hx))
  have hDc : va_D _ [(q26, .inr (4, [.null, .null, .null, .int (iV 0)]))] := (va_D_perm List.perm_append_comm hD : va_D _ ([(q26, .inr (4, [.null, .null, .null, .int (iV 0)]))] ++ ([(q0, .inr (3, [.int (iV 0), .int (iV 0), .ref q7]))] ++ [(q7, .inl (G.2.2.2.2, 6, .inr (.inr (.inr (.inr (fun _ => none))))))]))) |> va_D_left
  refine z_initN (wr := ([(q0, .inr (3, [.int (iV 0), .int (iV 0), .ref q7]))] ++ [(q7, .inl (G.2.2.2.2, 6, .inr (.inr (.inr (.inr (fun _ => none))))))])) (wc := [(q26, .inr (4, [.null, .null, .null, .int (iV 0)]))]) X hA hP hD hS hl.1 (c_X4_init l G H.size q26) (hNw.at 3 rfl) ⟨wd_29, wd_2, wd_28⟩ ⟨rfl, by decide, by decide, by decide +kernel⟩ ⟨rfl, rfl, Nat.le_of_ble_eq_true rfl, Nat.le_of_ble_eq_true rfl⟩ ⟨zP0_blind, fun U hU hW => ⟨rfl, by rw [hU], by rw [hU]; exact hPc, va_K.moved hW.alike hK, hDc.weaken (fun _ _ _ _ => trivial), hNw.warm hW⟩⟩ rfl (Nat.le_of_ble_eq_true rfl) dX3_init_30 ⟨Nat.le_of_ble_eq_true rfl, Nat.le_of_ble_eq_true rfl⟩ (fun b0 H locs ha hP hD hS => ?_)
  refine W.widen (k := 9) (n := 262) (Nat.le_of_ble_eq_true rfl) (Nat.le_of_ble_eq_true rfl) ?_
  have hP9 := hP
  have hD9 := hD
  have hS9 := hS
  subst ha
  have hP := hP9
  have hD := hD9
  have hS := hS9
  have hP : va_P G.1 vwCl (([(q0, .inr (3, [.int (iV 0), .int (iV 0), .ref q7]))] ++ [(q7, .inl (G.2.2.2.2, 6, .inr (.inr (.inr (.inr (fun _ => none))))))]) ++ (zPic G b0 pP0)) _ := hP
  have hD : va_D _ (([(q0, .inr (3, [.int (iV 0), .int (iV 0), .ref q7]))] ++ [(q7, .inl (G.2.2.2.2, 6, .inr (.inr (.inr (.inr (fun _ => none))))))]) ++ (zPic G b0 pP0)) := hD
  refine z_aast (i := 0) (ci := 4) (qk := 2) hx hb hK hP hD hS 1 rfl rfl rfl (by decide) (by decide) dX3_init_33 (fun H locs hP hD hS => ?_)
  have hP : va_P G.1 vwCl (([(q0, .inr (3, [.int (iV 0), .int (iV 0), .ref q7]))] ++ [(q7, .inl (G.2.2.2.2, 6, .inr (.inr (.inr (.inr (va_up (fun _ => none) 0 (some (b0 0))))))))]) ++ (zPic G b0 pP0)) _ := hP
  have hD : va_D _ (([(q0, .inr (3, [.int (iV 0), .int (iV 0), .ref q7]))] ++ [(q7, .inl (G.2.2.2.2, 6, .inr (.inr (.inr (.inr (va_up (fun _ => none) 0 (some (b0 0))))))))]) ++ (zPic G b0 pP0)) := hD
  refine z_iinc (lv' := [(1, .int (iV 1)), (0, .ref q0)]) hx hb dX3_init_34 hl (k := 0) rfl (by decide) rfl (fun ls hl => ?_)
  refine lv_goto (tgt := 15) hx hb dX3_init_37 (by decide) ?_
  refine lv_iload_n hx hb dX3_init_15 rfl (lv_at hl 0 rfl) ?_
  refine lv_bipush (v := iV 6) hx hb dX3_init_16 (by decide) ?_
  refine z_icmp_ge (tgt := 40) hx hb ⟨by decide, by decide⟩ ⟨by decide, by decide⟩ dX3_init_18 (by decide) (fun h => absurd h (by decide)) (fun _ => ?_)
  refine lv_aload_n hx hb dX3_init_21 rfl (lv_at hl 1 rfl) ?_
  refine va_get (D := G.1) (ci := 3) (v := .ref q7) (C := RX3) (T := TX3) (N := 3) hx hb hts inX3 hown hK hP 0 rfl rfl 2 (by decide) (hts _ wd_108) (fun _ h9 => h9) rfl dX3_init_22 ?_
  refine lv_iload_n hx hb dX3_init_25 rfl (lv_at hl 0 rfl) ?_
  refine va_new (D := G.1) (ci := 4) (fs := [.null, .null, .null, .int (iV 0)]) (C := RX4) (T := TX4) (N := 4) hx hb hts inX4 tyX4 tyX4_ok hown (hts _ wd_102) (hts _ wd_26) (hts _ wd_2) hK hP hD hS hA rfl (fun j hj => by rcases (show j = 0 ∨ j = 1 ∨ j = 2 ∨ j = 3 by omega) with rfl | rfl | rfl | rfl <;> rfl) (Nat.le_of_ble_eq_true rfl) (Nat.le_of_ble_eq_true rfl) dX3_init_26 (fun q26 H hP hD hS => ?_)
  refine W.widen (k := 10) (n := 266) (Nat.le_of_ble_eq_true rfl) (Nat.le_of_ble_eq_true rfl) ?_
  have hP : va_P G.1 vwCl ((([(q0, .inr (3, [.int (iV 0), .int (iV 0), .ref q7]))] ++ [(q7, .inl (G.2.2.2.2, 6, .inr (.inr (.inr (.inr (va_up (fun _ => none) 0 (some (b0 0))))))))]) ++ (zPic G b0 pP0)) ++ [(q26, .inr (4, [.null, .null, .null, .int (iV 0)]))]) _ := hP
  have hD : va_D _ ((([(q0, .inr (3, [.int (iV 0), .int (iV 0), .ref q7]))] ++ [(q7, .inl (G.2.2.2.2, 6, .inr (.inr (.inr (.inr (va_up (fun _ => none) 0 (some (b0 0))))))))]) ++ (zPic G b0 pP0)) ++ [(q26, .inr (4, [.null, .null, .null, .int (iV 0)]))]) := hD
  refine lv_dup hx hb dX3_init_29 rfl ?_
  have hPc : va_P G.1 vwCl [(q26, .inr (4, [.null, .null, .null, .int (iV 0)]))] H := va_P_mem.mpr (fun x hx => va_P_mem.mp hP x (List.mem_append_right _ hx))
  have hDc : va_D _ [(q26, .inr (4, [.null, .null, .null, .int (iV 0)]))] := (va_D_perm List.perm_append_comm hD : va_D _ ([(q26, .inr (4, [.null, .null, .null, .int (iV 0)]))] ++ (([(q0, .inr (3, [.int (iV 0), .int (iV 0), .ref q7]))] ++ [(q7, .inl (G.2.2.2.2, 6, .inr (.inr (.inr (.inr (va_up (fun _ => none) 0 (some (b0 0))))))))]) ++ (zPic G b0 pP0)))) |> va_D_left
  refine z_initN (wr := (([(q0, .inr (3, [.int (iV 0), .int (iV 0), .ref q7]))] ++ [(q7, .inl (G.2.2.2.2, 6, .inr (.inr (.inr (.inr (va_up (fun _ => none) 0 (some (b0 0))))))))]) ++ (zPic G b0 pP0))) (wc := [(q26, .inr (4, [.null, .null, .null, .int (iV 0)]))]) X hA hP hD hS hl.1 (c_X4_init l G H.size q26) (hNw.at 3 rfl) ⟨wd_29, wd_2, wd_28⟩ ⟨rfl, by decide, by decide, by decide +kernel⟩ ⟨rfl, rfl, Nat.le_of_ble_eq_true rfl, Nat.le_of_ble_eq_true rfl⟩ ⟨zP0_blind, fun U hU hW => ⟨rfl, by rw [hU], by rw [hU]; exact hPc, va_K.moved hW.alike hK, hDc.weaken (fun _ _ _ _ => trivial), hNw.warm hW⟩⟩ rfl (Nat.le_of_ble_eq_true rfl) dX3_init_30 ⟨Nat.le_of_ble_eq_true rfl, Nat.le_of_ble_eq_true rfl⟩ (fun b1 H locs ha hP hD hS => ?_)
  refine W.widen (k := 17) (n := 518) (Nat.le_of_ble_eq_true rfl) (Nat.le_of_ble_eq_true rfl) ?_
  have hP9 := hP
  have hD9 := hD
  have hS9 := hS
  subst ha
  have hP := hP9
  have hD := hD9
  have hS := hS9
  have hP : va_P G.1 vwCl ((([(q0, .inr (3, [.int (iV 0), .int (iV 0), .ref q7]))] ++ [(q7, .inl (G.2.2.2.2, 6, .inr (.inr (.inr (.inr (va_up (fun _ => none) 0 (some (b0 0))))))))]) ++ (zPic G b0 pP0)) ++ (zPic G b1 pP0)) _ := hP
  have hD : va_D _ ((([(q0, .inr (3, [.int (iV 0), .int (iV 0), .ref q7]))] ++ [(q7, .inl (G.2.2.2.2, 6, .inr (.inr (.inr (.inr (va_up (fun _ => none) 0 (some (b0 0))))))))]) ++ (zPic G b0 pP0)) ++ (zPic G b1 pP0)) := hD
  refine z_aast (i := 1) (ci := 4) (qk := 10) hx hb hK hP hD hS 1 rfl rfl rfl (by decide) (by decide) dX3_init_33 (fun H locs hP hD hS => ?_)
  have hP : va_P G.1 vwCl ((([(q0, .inr (3, [.int (iV 0), .int (iV 0), .ref q7]))] ++ [(q7, .inl (G.2.2.2.2, 6, .inr (.inr (.inr (.inr (va_up (va_up (fun _ => none) 0 (some (b0 0))) 1 (some (b1 0))))))))]) ++ (zPic G b0 pP0)) ++ (zPic G b1 pP0)) _ := hP
  have hD : va_D _ ((([(q0, .inr (3, [.int (iV 0), .int (iV 0), .ref q7]))] ++ [(q7, .inl (G.2.2.2.2, 6, .inr (.inr (.inr (.inr (va_up (va_up (fun _ => none) 0 (some (b0 0))) 1 (some (b1 0))))))))]) ++ (zPic G b0 pP0)) ++ (zPic G b1 pP0)) := hD
  refine z_iinc (lv' := [(1, .int (iV 2)), (0, .ref q0)]) hx hb dX3_init_34 hl (k := 0) rfl (by decide) rfl (fun ls hl => ?_)
  refine lv_goto (tgt := 15) hx hb dX3_init_37 (by decide) ?_
  refine lv_iload_n hx hb dX3_init_15 rfl (lv_at hl 0 rfl) ?_
  refine lv_bipush (v := iV 6) hx hb dX3_init_16 (by decide) ?_
  refine z_icmp_ge (tgt := 40) hx hb ⟨by decide, by decide⟩ ⟨by decide, by decide⟩ dX3_init_18 (by decide) (fun h => absurd h (by decide)) (fun _ => ?_)
  refine lv_aload_n hx hb dX3_init_21 rfl (lv_at hl 1 rfl) ?_
  refine va_get (D := G.1) (ci := 3) (v := .ref q7) (C := RX3) (T := TX3) (N := 3) hx hb hts inX3 hown hK hP 0 rfl rfl 2 (by decide) (hts _ wd_108) (fun _ h9 => h9) rfl dX3_init_22 ?_
  refine lv_iload_n hx hb dX3_init_25 rfl (lv_at hl 0 rfl) ?_
  refine va_new (D := G.1) (ci := 4) (fs := [.null, .null, .null, .int (iV 0)]) (C := RX4) (T := TX4) (N := 4) hx hb hts inX4 tyX4 tyX4_ok hown (hts _ wd_102) (hts _ wd_26) (hts _ wd_2) hK hP hD hS hA rfl (fun j hj => by rcases (show j = 0 ∨ j = 1 ∨ j = 2 ∨ j = 3 by omega) with rfl | rfl | rfl | rfl <;> rfl) (Nat.le_of_ble_eq_true rfl) (Nat.le_of_ble_eq_true rfl) dX3_init_26 (fun q26 H hP hD hS => ?_)
  refine W.widen (k := 18) (n := 522) (Nat.le_of_ble_eq_true rfl) (Nat.le_of_ble_eq_true rfl) ?_
  have hP : va_P G.1 vwCl (((([(q0, .inr (3, [.int (iV 0), .int (iV 0), .ref q7]))] ++ [(q7, .inl (G.2.2.2.2, 6, .inr (.inr (.inr (.inr (va_up (va_up (fun _ => none) 0 (some (b0 0))) 1 (some (b1 0))))))))]) ++ (zPic G b0 pP0)) ++ (zPic G b1 pP0)) ++ [(q26, .inr (4, [.null, .null, .null, .int (iV 0)]))]) _ := hP
  have hD : va_D _ (((([(q0, .inr (3, [.int (iV 0), .int (iV 0), .ref q7]))] ++ [(q7, .inl (G.2.2.2.2, 6, .inr (.inr (.inr (.inr (va_up (va_up (fun _ => none) 0 (some (b0 0))) 1 (some (b1 0))))))))]) ++ (zPic G b0 pP0)) ++ (zPic G b1 pP0)) ++ [(q26, .inr (4, [.null, .null, .null, .int (iV 0)]))]) := hD
  refine lv_dup hx hb dX3_init_29 rfl ?_
  have hPc : va_P G.1 vwCl [(q26, .inr (4, [.null, .null, .null, .int (iV 0)]))] H := va_P_mem.mpr (fun x hx => va_P_mem.mp hP x (List.mem_append_right _ hx))
  have hDc : va_D _ [(q26, .inr (4, [.null, .null, .null, .int (iV 0)]))] := (va_D_perm List.perm_append_comm hD : va_D _ ([(q26, .inr (4, [.null, .null, .null, .int (iV 0)]))] ++ ((([(q0, .inr (3, [.int (iV 0), .int (iV 0), .ref q7]))] ++ [(q7, .inl (G.2.2.2.2, 6, .inr (.inr (.inr (.inr (va_up (va_up (fun _ => none) 0 (some (b0 0))) 1 (some (b1 0))))))))]) ++ (zPic G b0 pP0)) ++ (zPic G b1 pP0)))) |> va_D_left
  refine z_initN (wr := ((([(q0, .inr (3, [.int (iV 0), .int (iV 0), .ref q7]))] ++ [(q7, .inl (G.2.2.2.2, 6, .inr (.inr (.inr (.inr (va_up (va_up (fun _ => none) 0 (some (b0 0))) 1 (some (b1 0))))))))]) ++ (zPic G b0 pP0)) ++ (zPic G b1 pP0))) (wc := [(q26, .inr (4, [.null, .null, .null, .int (iV 0)]))]) X hA hP hD hS hl.1 (c_X4_init l G H.size q26) (hNw.at 3 rfl) ⟨wd_29, wd_2, wd_28⟩ ⟨rfl, by decide, by decide, by decide +kernel⟩ ⟨rfl, rfl, Nat.le_of_ble_eq_true rfl, Nat.le_of_ble_eq_true rfl⟩ ⟨zP0_blind, fun U hU hW => ⟨rfl, by rw [hU], by rw [hU]; exact hPc, va_K.moved hW.alike hK, hDc.weaken (fun _ _ _ _ => trivial), hNw.warm hW⟩⟩ rfl (Nat.le_of_ble_eq_true rfl) dX3_init_30 ⟨Nat.le_of_ble_eq_true rfl, Nat.le_of_ble_eq_true rfl⟩ (fun b2 H locs ha hP hD hS => ?_)
  refine W.widen (k := 25) (n := 774) (Nat.le_of_ble_eq_true rfl) (Nat.le_of_ble_eq_true rfl) ?_
  have hP9 := hP
  have hD9 := hD
  have hS9 := hS
  subst ha
  have hP := hP9
  have hD := hD9
  have hS := hS9
  have hP : va_P G.1 vwCl (((([(q0, .inr (3, [.int (iV 0), .int (iV 0), .ref q7]))] ++ [(q7, .inl (G.2.2.2.2, 6, .inr (.inr (.inr (.inr (va_up (va_up (fun _ => none) 0 (some (b0 0))) 1 (some (b1 0))))))))]) ++ (zPic G b0 pP0)) ++ (zPic G b1 pP0)) ++ (zPic G b2 pP0)) _ := hP
  have hD : va_D _ (((([(q0, .inr (3, [.int (iV 0), .int (iV 0), .ref q7]))] ++ [(q7, .inl (G.2.2.2.2, 6, .inr (.inr (.inr (.inr (va_up (va_up (fun _ => none) 0 (some (b0 0))) 1 (some (b1 0))))))))]) ++ (zPic G b0 pP0)) ++ (zPic G b1 pP0)) ++ (zPic G b2 pP0)) := hD
  refine z_aast (i := 2) (ci := 4) (qk := 18) hx hb hK hP hD hS 1 rfl rfl rfl (by decide) (by decide) dX3_init_33 (fun H locs hP hD hS => ?_)
  have hP : va_P G.1 vwCl (((([(q0, .inr (3, [.int (iV 0), .int (iV 0), .ref q7]))] ++ [(q7, .inl (G.2.2.2.2, 6, .inr (.inr (.inr (.inr (va_up (va_up (va_up (fun _ => none) 0 (some (b0 0))) 1 (some (b1 0))) 2 (some (b2 0))))))))]) ++ (zPic G b0 pP0)) ++ (zPic G b1 pP0)) ++ (zPic G b2 pP0)) _ := hP
  have hD : va_D _ (((([(q0, .inr (3, [.int (iV 0), .int (iV 0), .ref q7]))] ++ [(q7, .inl (G.2.2.2.2, 6, .inr (.inr (.inr (.inr (va_up (va_up (va_up (fun _ => none) 0 (some (b0 0))) 1 (some (b1 0))) 2 (some (b2 0))))))))]) ++ (zPic G b0 pP0)) ++ (zPic G b1 pP0)) ++ (zPic G b2 pP0)) := hD
  refine z_iinc (lv' := [(1, .int (iV 3)), (0, .ref q0)]) hx hb dX3_init_34 hl (k := 0) rfl (by decide) rfl (fun ls hl => ?_)
  refine lv_goto (tgt := 15) hx hb dX3_init_37 (by decide) ?_
  refine lv_iload_n hx hb dX3_init_15 rfl (lv_at hl 0 rfl) ?_
  refine lv_bipush (v := iV 6) hx hb dX3_init_16 (by decide) ?_
  refine z_icmp_ge (tgt := 40) hx hb ⟨by decide, by decide⟩ ⟨by decide, by decide⟩ dX3_init_18 (by decide) (fun h => absurd h (by decide)) (fun _ => ?_)
  refine lv_aload_n hx hb dX3_init_21 rfl (lv_at hl 1 rfl) ?_
  refine va_get (D := G.1) (ci := 3) (v := .ref q7) (C := RX3) (T := TX3) (N := 3) hx hb hts inX3 hown hK hP 0 rfl rfl 2 (by decide) (hts _ wd_108) (fun _ h9 => h9) rfl dX3_init_22 ?_
  refine lv_iload_n hx hb dX3_init_25 rfl (lv_at hl 0 rfl) ?_
  refine va_new (D := G.1) (ci := 4) (fs := [.null, .null, .null, .int (iV 0)]) (C := RX4) (T := TX4) (N := 4) hx hb hts inX4 tyX4 tyX4_ok hown (hts _ wd_102) (hts _ wd_26) (hts _ wd_2) hK hP hD hS hA rfl (fun j hj => by rcases (show j = 0 ∨ j = 1 ∨ j = 2 ∨ j = 3 by omega) with rfl | rfl | rfl | rfl <;> rfl) (Nat.le_of_ble_eq_true rfl) (Nat.le_of_ble_eq_true rfl) dX3_init_26 (fun q26 H hP hD hS => ?_)
  refine W.widen (k := 26) (n := 778) (Nat.le_of_ble_eq_true rfl) (Nat.le_of_ble_eq_true rfl) ?_
  have hP : va_P G.1 vwCl ((((([(q0, .inr (3, [.int (iV 0), .int (iV 0), .ref q7]))] ++ [(q7, .inl (G.2.2.2.2, 6, .inr (.inr (.inr (.inr (va_up (va_up (va_up (fun _ => none) 0 (some (b0 0))) 1 (some (b1 0))) 2 (some (b2 0))))))))]) ++ (zPic G b0 pP0)) ++ (zPic G b1 pP0)) ++ (zPic G b2 pP0)) ++ [(q26, .inr (4, [.null, .null, .null, .int (iV 0)]))]) _ := hP
  have hD : va_D _ ((((([(q0, .inr (3, [.int (iV 0), .int (iV 0), .ref q7]))] ++ [(q7, .inl (G.2.2.2.2, 6, .inr (.inr (.inr (.inr (va_up (va_up (va_up (fun _ => none) 0 (some (b0 0))) 1 (some (b1 0))) 2 (some (b2 0))))))))]) ++ (zPic G b0 pP0)) ++ (zPic G b1 pP0)) ++ (zPic G b2 pP0)) ++ [(q26, .inr (4, [.null, .null, .null, .int (iV 0)]))]) := hD
  refine lv_dup hx hb dX3_init_29 rfl ?_
  have hPc : va_P G.1 vwCl [(q26, .inr (4, [.null, .null, .null, .int (iV 0)]))] H := va_P_mem.mpr (fun x hx => va_P_mem.mp hP x (List.mem_append_right _ hx))
  have hDc : va_D _ [(q26, .inr (4, [.null, .null, .null, .int (iV 0)]))] := (va_D_perm List.perm_append_comm hD : va_D _ ([(q26, .inr (4, [.null, .null, .null, .int (iV 0)]))] ++ (((([(q0, .inr (3, [.int (iV 0), .int (iV 0), .ref q7]))] ++ [(q7, .inl (G.2.2.2.2, 6, .inr (.inr (.inr (.inr (va_up (va_up (va_up (fun _ => none) 0 (some (b0 0))) 1 (some (b1 0))) 2 (some (b2 0))))))))]) ++ (zPic G b0 pP0)) ++ (zPic G b1 pP0)) ++ (zPic G b2 pP0)))) |> va_D_left
  refine z_initN (wr := (((([(q0, .inr (3, [.int (iV 0), .int (iV 0), .ref q7]))] ++ [(q7, .inl (G.2.2.2.2, 6, .inr (.inr (.inr (.inr (va_up (va_up (va_up (fun _ => none) 0 (some (b0 0))) 1 (some (b1 0))) 2 (some (b2 0))))))))]) ++ (zPic G b0 pP0)) ++ (zPic G b1 pP0)) ++ (zPic G b2 pP0))) (wc := [(q26, .inr (4, [.null, .null, .null, .int (iV 0)]))]) X hA hP hD hS hl.1 (c_X4_init l G H.size q26) (hNw.at 3 rfl) ⟨wd_29, wd_2, wd_28⟩ ⟨rfl, by decide, by decide, by decide +kernel⟩ ⟨rfl, rfl, Nat.le_of_ble_eq_true rfl, Nat.le_of_ble_eq_true rfl⟩ ⟨zP0_blind, fun U hU hW => ⟨rfl, by rw [hU], by rw [hU]; exact hPc, va_K.moved hW.alike hK, hDc.weaken (fun _ _ _ _ => trivial), hNw.warm hW⟩⟩ rfl (Nat.le_of_ble_eq_true rfl) dX3_init_30 ⟨Nat.le_of_ble_eq_true rfl, Nat.le_of_ble_eq_true rfl⟩ (fun b3 H locs ha hP hD hS => ?_)
  refine W.widen (k := 33) (n := 1030) (Nat.le_of_ble_eq_true rfl) (Nat.le_of_ble_eq_true rfl) ?_
  have hP9 := hP
  have hD9 := hD
  have hS9 := hS
  subst ha
  have hP := hP9
  have hD := hD9
  have hS := hS9
  have hP : va_P G.1 vwCl ((((([(q0, .inr (3, [.int (iV 0), .int (iV 0), .ref q7]))] ++ [(q7, .inl (G.2.2.2.2, 6, .inr (.inr (.inr (.inr (va_up (va_up (va_up (fun _ => none) 0 (some (b0 0))) 1 (some (b1 0))) 2 (some (b2 0))))))))]) ++ (zPic G b0 pP0)) ++ (zPic G b1 pP0)) ++ (zPic G b2 pP0)) ++ (zPic G b3 pP0)) _ := hP
  have hD : va_D _ ((((([(q0, .inr (3, [.int (iV 0), .int (iV 0), .ref q7]))] ++ [(q7, .inl (G.2.2.2.2, 6, .inr (.inr (.inr (.inr (va_up (va_up (va_up (fun _ => none) 0 (some (b0 0))) 1 (some (b1 0))) 2 (some (b2 0))))))))]) ++ (zPic G b0 pP0)) ++ (zPic G b1 pP0)) ++ (zPic G b2 pP0)) ++ (zPic G b3 pP0)) := hD
  refine z_aast (i := 3) (ci := 4) (qk := 26) hx hb hK hP hD hS 1 rfl rfl rfl (by decide) (by decide) dX3_init_33 (fun H locs hP hD hS => ?_)
  have hP : va_P G.1 vwCl ((((([(q0, .inr (3, [.int (iV 0), .int (iV 0), .ref q7]))] ++ [(q7, .inl (G.2.2.2.2, 6, .inr (.inr (.inr (.inr (va_up (va_up (va_up (va_up (fun _ => none) 0 (some (b0 0))) 1 (some (b1 0))) 2 (some (b2 0))) 3 (some (b3 0))))))))]) ++ (zPic G b0 pP0)) ++ (zPic G b1 pP0)) ++ (zPic G b2 pP0)) ++ (zPic G b3 pP0)) _ := hP
  have hD : va_D _ ((((([(q0, .inr (3, [.int (iV 0), .int (iV 0), .ref q7]))] ++ [(q7, .inl (G.2.2.2.2, 6, .inr (.inr (.inr (.inr (va_up (va_up (va_up (va_up (fun _ => none) 0 (some (b0 0))) 1 (some (b1 0))) 2 (some (b2 0))) 3 (some (b3 0))))))))]) ++ (zPic G b0 pP0)) ++ (zPic G b1 pP0)) ++ (zPic G b2 pP0)) ++ (zPic G b3 pP0)) := hD
  refine z_iinc (lv' := [(1, .int (iV 4)), (0, .ref q0)]) hx hb dX3_init_34 hl (k := 0) rfl (by decide) rfl (fun ls hl => ?_)
  refine lv_goto (tgt := 15) hx hb dX3_init_37 (by decide) ?_
  refine lv_iload_n hx hb dX3_init_15 rfl (lv_at hl 0 rfl) ?_
  refine lv_bipush (v := iV 6) hx hb dX3_init_16 (by decide) ?_
  refine z_icmp_ge (tgt := 40) hx hb ⟨by decide, by decide⟩ ⟨by decide, by decide⟩ dX3_init_18 (by decide) (fun h => absurd h (by decide)) (fun _ => ?_)
  refine lv_aload_n hx hb dX3_init_21 rfl (lv_at hl 1 rfl) ?_
  refine va_get (D := G.1) (ci := 3) (v := .ref q7) (C := RX3) (T := TX3) (N := 3) hx hb hts inX3 hown hK hP 0 rfl rfl 2 (by decide) (hts _ wd_108) (fun _ h9 => h9) rfl dX3_init_22 ?_
  refine lv_iload_n hx hb dX3_init_25 rfl (lv_at hl 0 rfl) ?_
  refine va_new (D := G.1) (ci := 4) (fs := [.null, .null, .null, .int (iV 0)]) (C := RX4) (T := TX4) (N := 4) hx hb hts inX4 tyX4 tyX4_ok hown (hts _ wd_102) (hts _ wd_26) (hts _ wd_2) hK hP hD hS hA rfl (fun j hj => by rcases (show j = 0 ∨ j = 1 ∨ j = 2 ∨ j = 3 by omega) with rfl | rfl | rfl | rfl <;> rfl) (Nat.le_of_ble_eq_true rfl) (Nat.le_of_ble_eq_true rfl) dX3_init_26 (fun q26 H hP hD hS => ?_)
  refine W.widen (k := 34) (n := 1034) (Nat.le_of_ble_eq_true rfl) (Nat.le_of_ble_eq_true rfl) ?_
  have hP : va_P G.1 vwCl (((((([(q0, .inr (3, [.int (iV 0), .int (iV 0), .ref q7]))] ++ [(q7, .inl (G.2.2.2.2, 6, .inr (.inr (.inr (.inr (va_up (va_up (va_up (va_up (fun _ => none) 0 (some (b0 0))) 1 (some (b1 0))) 2 (some (b2 0))) 3 (some (b3 0))))))))]) ++ (zPic G b0 pP0)) ++ (zPic G b1 pP0)) ++ (zPic G b2 pP0)) ++ (zPic G b3 pP0)) ++ [(q26, .inr (4, [.null, .null, .null, .int (iV 0)]))]) _ := hP
  have hD : va_D _ (((((([(q0, .inr (3, [.int (iV 0), .int (iV 0), .ref q7]))] ++ [(q7, .inl (G.2.2.2.2, 6, .inr (.inr (.inr (.inr (va_up (va_up (va_up (va_up (fun _ => none) 0 (some (b0 0))) 1 (some (b1 0))) 2 (some (b2 0))) 3 (some (b3 0))))))))]) ++ (zPic G b0 pP0)) ++ (zPic G b1 pP0)) ++ (zPic G b2 pP0)) ++ (zPic G b3 pP0)) ++ [(q26, .inr (4, [.null, .null, .null, .int (iV 0)]))]) := hD
  refine lv_dup hx hb dX3_init_29 rfl ?_
  have hPc : va_P G.1 vwCl [(q26, .inr (4, [.null, .null, .null, .int (iV 0)]))] H := va_P_mem.mpr (fun x hx => va_P_mem.mp hP x (List.mem_append_right _ hx))
  have hDc : va_D _ [(q26, .inr (4, [.null, .null, .null, .int (iV 0)]))] := (va_D_perm List.perm_append_comm hD : va_D _ ([(q26, .inr (4, [.null, .null, .null, .int (iV 0)]))] ++ ((((([(q0, .inr (3, [.int (iV 0), .int (iV 0), .ref q7]))] ++ [(q7, .inl (G.2.2.2.2, 6, .inr (.inr (.inr (.inr (va_up (va_up (va_up (va_up (fun _ => none) 0 (some (b0 0))) 1 (some (b1 0))) 2 (some (b2 0))) 3 (some (b3 0))))))))]) ++ (zPic G b0 pP0)) ++ (zPic G b1 pP0)) ++ (zPic G b2 pP0)) ++ (zPic G b3 pP0)))) |> va_D_left
  refine z_initN (wr := ((((([(q0, .inr (3, [.int (iV 0), .int (iV 0), .ref q7]))] ++ [(q7, .inl (G.2.2.2.2, 6, .inr (.inr (.inr (.inr (va_up (va_up (va_up (va_up (fun _ => none) 0 (some (b0 0))) 1 (some (b1 0))) 2 (some (b2 0))) 3 (some (b3 0))))))))]) ++ (zPic G b0 pP0)) ++ (zPic G b1 pP0)) ++ (zPic G b2 pP0)) ++ (zPic G b3 pP0))) (wc := [(q26, .inr (4, [.null, .null, .null, .int (iV 0)]))]) X hA hP hD hS hl.1 (c_X4_init l G H.size q26) (hNw.at 3 rfl) ⟨wd_29, wd_2, wd_28⟩ ⟨rfl, by decide, by decide, by decide +kernel⟩ ⟨rfl, rfl, Nat.le_of_ble_eq_true rfl, Nat.le_of_ble_eq_true rfl⟩ ⟨zP0_blind, fun U hU hW => ⟨rfl, by rw [hU], by rw [hU]; exact hPc, va_K.moved hW.alike hK, hDc.weaken (fun _ _ _ _ => trivial), hNw.warm hW⟩⟩ rfl (Nat.le_of_ble_eq_true rfl) dX3_init_30 ⟨Nat.le_of_ble_eq_true rfl, Nat.le_of_ble_eq_true rfl⟩ (fun b4 H locs ha hP hD hS => ?_)
  refine W.widen (k := 41) (n := 1286) (Nat.le_of_ble_eq_true rfl) (Nat.le_of_ble_eq_true rfl) ?_
  have hP9 := hP
  have hD9 := hD
  have hS9 := hS
  subst ha
  have hP := hP9
  have hD := hD9
  have hS := hS9
  have hP : va_P G.1 vwCl (((((([(q0, .inr (3, [.int (iV 0), .int (iV 0), .ref q7]))] ++ [(q7, .inl (G.2.2.2.2, 6, .inr (.inr (.inr (.inr (va_up (va_up (va_up (va_up (fun _ => none) 0 (some (b0 0))) 1 (some (b1 0))) 2 (some (b2 0))) 3 (some (b3 0))))))))]) ++ (zPic G b0 pP0)) ++ (zPic G b1 pP0)) ++ (zPic G b2 pP0)) ++ (zPic G b3 pP0)) ++ (zPic G b4 pP0)) _ := hP
  have hD : va_D _ (((((([(q0, .inr (3, [.int (iV 0), .int (iV 0), .ref q7]))] ++ [(q7, .inl (G.2.2.2.2, 6, .inr (.inr (.inr (.inr (va_up (va_up (va_up (va_up (fun _ => none) 0 (some (b0 0))) 1 (some (b1 0))) 2 (some (b2 0))) 3 (some (b3 0))))))))]) ++ (zPic G b0 pP0)) ++ (zPic G b1 pP0)) ++ (zPic G b2 pP0)) ++ (zPic G b3 pP0)) ++ (zPic G b4 pP0)) := hD
  refine z_aast (i := 4) (ci := 4) (qk := 34) hx hb hK hP hD hS 1 rfl rfl rfl (by decide) (by decide) dX3_init_33 (fun H locs hP hD hS => ?_)
  have hP : va_P G.1 vwCl (((((([(q0, .inr (3, [.int (iV 0), .int (iV 0), .ref q7]))] ++ [(q7, .inl (G.2.2.2.2, 6, .inr (.inr (.inr (.inr (va_up (va_up (va_up (va_up (va_up (fun _ => none) 0 (some (b0 0))) 1 (some (b1 0))) 2 (some (b2 0))) 3 (some (b3 0))) 4 (some (b4 0))))))))]) ++ (zPic G b0 pP0)) ++ (zPic G b1 pP0)) ++ (zPic G b2 pP0)) ++ (zPic G b3 pP0)) ++ (zPic G b4 pP0)) _ := hP
  have hD : va_D _ (((((([(q0, .inr (3, [.int (iV 0), .int (iV 0), .ref q7]))] ++ [(q7, .inl (G.2.2.2.2, 6, .inr (.inr (.inr (.inr (va_up (va_up (va_up (va_up (va_up (fun _ => none) 0 (some (b0 0))) 1 (some (b1 0))) 2 (some (b2 0))) 3 (some (b3 0))) 4 (some (b4 0))))))))]) ++ (zPic G b0 pP0)) ++ (zPic G b1 pP0)) ++ (zPic G b2 pP0)) ++ (zPic G b3 pP0)) ++ (zPic G b4 pP0)) := hD
  refine z_iinc (lv' := [(1, .int (iV 5)), (0, .ref q0)]) hx hb dX3_init_34 hl (k := 0) rfl (by decide) rfl (fun ls hl => ?_)
  refine lv_goto (tgt := 15) hx hb dX3_init_37 (by decide) ?_
  refine lv_iload_n hx hb dX3_init_15 rfl (lv_at hl 0 rfl) ?_
  refine lv_bipush (v := iV 6) hx hb dX3_init_16 (by decide) ?_
  refine z_icmp_ge (tgt := 40) hx hb ⟨by decide, by decide⟩ ⟨by decide, by decide⟩ dX3_init_18 (by decide) (fun h => absurd h (by decide)) (fun _ => ?_)
  refine lv_aload_n hx hb dX3_init_21 rfl (lv_at hl 1 rfl) ?_
  refine va_get (D := G.1) (ci := 3) (v := .ref q7) (C := RX3) (T := TX3) (N := 3) hx hb hts inX3 hown hK hP 0 rfl rfl 2 (by decide) (hts _ wd_108) (fun _ h9 => h9) rfl dX3_init_22 ?_
  refine lv_iload_n hx hb dX3_init_25 rfl (lv_at hl 0 rfl) ?_
  refine va_new (D := G.1) (ci := 4) (fs := [.null, .null, .null, .int (iV 0)]) (C := RX4) (T := TX4) (N := 4) hx hb hts inX4 tyX4 tyX4_ok hown (hts _ wd_102) (hts _ wd_26) (hts _ wd_2) hK hP hD hS hA rfl (fun j hj => by rcases (show j = 0 ∨ j = 1 ∨ j = 2 ∨ j = 3 by omega) with rfl | rfl | rfl | rfl <;> rfl) (Nat.le_of_ble_eq_true rfl) (Nat.le_of_ble_eq_true rfl) dX3_init_26 (fun q26 H hP hD hS => ?_)
  refine W.widen (k := 42) (n := 1290) (Nat.le_of_ble_eq_true rfl) (Nat.le_of_ble_eq_true rfl) ?_
  have hP : va_P G.1 vwCl ((((((([(q0, .inr (3, [.int (iV 0), .int (iV 0), .ref q7]))] ++ [(q7, .inl (G.2.2.2.2, 6, .inr (.inr (.inr (.inr (va_up (va_up (va_up (va_up (va_up (fun _ => none) 0 (some (b0 0))) 1 (some (b1 0))) 2 (some (b2 0))) 3 (some (b3 0))) 4 (some (b4 0))))))))]) ++ (zPic G b0 pP0)) ++ (zPic G b1 pP0)) ++ (zPic G b2 pP0)) ++ (zPic G b3 pP0)) ++ (zPic G b4 pP0)) ++ [(q26, .inr (4, [.null, .null, .null, .int (iV 0)]))]) _ := hP
  have hD : va_D _ ((((((([(q0, .inr (3, [.int (iV 0), .int (iV 0), .ref q7]))] ++ [(q7, .inl (G.2.2.2.2, 6, .inr (.inr (.inr (.inr (va_up (va_up (va_up (va_up (va_up (fun _ => none) 0 (some (b0 0))) 1 (some (b1 0))) 2 (some (b2 0))) 3 (some (b3 0))) 4 (some (b4 0))))))))]) ++ (zPic G b0 pP0)) ++ (zPic G b1 pP0)) ++ (zPic G b2 pP0)) ++ (zPic G b3 pP0)) ++ (zPic G b4 pP0)) ++ [(q26, .inr (4, [.null, .null, .null, .int (iV 0)]))]) := hD
  refine lv_dup hx hb dX3_init_29 rfl ?_
  have hPc : va_P G.1 vwCl [(q26, .inr (4, [.null, .null, .null, .int (iV 0)]))] H := va_P_mem.mpr (fun x hx => va_P_mem.mp hP x (List.mem_append_right _ hx))
  have hDc : va_D _ [(q26, .inr (4, [.null, .null, .null, .int (iV 0)]))] := (va_D_perm List.perm_append_comm hD : va_D _ ([(q26, .inr (4, [.null, .null, .null, .int (iV 0)]))] ++ (((((([(q0, .inr (3, [.int (iV 0), .int (iV 0), .ref q7]))] ++ [(q7, .inl (G.2.2.2.2, 6, .inr (.inr (.inr (.inr (va_up (va_up (va_up (va_up (va_up (fun _ => none) 0 (some (b0 0))) 1 (some (b1 0))) 2 (some (b2 0))) 3 (some (b3 0))) 4 (some (b4 0))))))))]) ++ (zPic G b0 pP0)) ++ (zPic G b1 pP0)) ++ (zPic G b2 pP0)) ++ (zPic G b3 pP0)) ++ (zPic G b4 pP0)))) |> va_D_left
  refine z_initN (wr := (((((([(q0, .inr (3, [.int (iV 0), .int (iV 0), .ref q7]))] ++ [(q7, .inl (G.2.2.2.2, 6, .inr (.inr (.inr (.inr (va_up (va_up (va_up (va_up (va_up (fun _ => none) 0 (some (b0 0))) 1 (some (b1 0))) 2 (some (b2 0))) 3 (some (b3 0))) 4 (some (b4 0))))))))]) ++ (zPic G b0 pP0)) ++ (zPic G b1 pP0)) ++ (zPic G b2 pP0)) ++ (zPic G b3 pP0)) ++ (zPic G b4 pP0))) (wc := [(q26, .inr (4, [.null, .null, .null, .int (iV 0)]))]) X hA hP hD hS hl.1 (c_X4_init l G H.size q26) (hNw.at 3 rfl) ⟨wd_29, wd_2, wd_28⟩ ⟨rfl, by decide, by decide, by decide +kernel⟩ ⟨rfl, rfl, Nat.le_of_ble_eq_true rfl, Nat.le_of_ble_eq_true rfl⟩ ⟨zP0_blind, fun U hU hW => ⟨rfl, by rw [hU], by rw [hU]; exact hPc, va_K.moved hW.alike hK, hDc.weaken (fun _ _ _ _ => trivial), hNw.warm hW⟩⟩ rfl (Nat.le_of_ble_eq_true rfl) dX3_init_30 ⟨Nat.le_of_ble_eq_true rfl, Nat.le_of_ble_eq_true rfl⟩ (fun b5 H locs ha hP hD hS => ?_)
  refine W.widen (k := 49) (n := 1542) (Nat.le_of_ble_eq_true rfl) (Nat.le_of_ble_eq_true rfl) ?_
  have hP9 := hP
  have hD9 := hD
  have hS9 := hS
  subst ha
  have hP := hP9
  have hD := hD9
  have hS := hS9
  have hP : va_P G.1 vwCl ((((((([(q0, .inr (3, [.int (iV 0), .int (iV 0), .ref q7]))] ++ [(q7, .inl (G.2.2.2.2, 6, .inr (.inr (.inr (.inr (va_up (va_up (va_up (va_up (va_up (fun _ => none) 0 (some (b0 0))) 1 (some (b1 0))) 2 (some (b2 0))) 3 (some (b3 0))) 4 (some (b4 0))))))))]) ++ (zPic G b0 pP0)) ++ (zPic G b1 pP0)) ++ (zPic G b2 pP0)) ++ (zPic G b3 pP0)) ++ (zPic G b4 pP0)) ++ (zPic G b5 pP0)) _ := hP
  have hD : va_D _ ((((((([(q0, .inr (3, [.int (iV 0), .int (iV 0), .ref q7]))] ++ [(q7, .inl (G.2.2.2.2, 6, .inr (.inr (.inr (.inr (va_up (va_up (va_up (va_up (va_up (fun _ => none) 0 (some (b0 0))) 1 (some (b1 0))) 2 (some (b2 0))) 3 (some (b3 0))) 4 (some (b4 0))))))))]) ++ (zPic G b0 pP0)) ++ (zPic G b1 pP0)) ++ (zPic G b2 pP0)) ++ (zPic G b3 pP0)) ++ (zPic G b4 pP0)) ++ (zPic G b5 pP0)) := hD
  refine z_aast (i := 5) (ci := 4) (qk := 42) hx hb hK hP hD hS 1 rfl rfl rfl (by decide) (by decide) dX3_init_33 (fun H locs hP hD hS => ?_)
  have hP : va_P G.1 vwCl ((((((([(q0, .inr (3, [.int (iV 0), .int (iV 0), .ref q7]))] ++ [(q7, .inl (G.2.2.2.2, 6, .inr (.inr (.inr (.inr (va_up (va_up (va_up (va_up (va_up (va_up (fun _ => none) 0 (some (b0 0))) 1 (some (b1 0))) 2 (some (b2 0))) 3 (some (b3 0))) 4 (some (b4 0))) 5 (some (b5 0))))))))]) ++ (zPic G b0 pP0)) ++ (zPic G b1 pP0)) ++ (zPic G b2 pP0)) ++ (zPic G b3 pP0)) ++ (zPic G b4 pP0)) ++ (zPic G b5 pP0)) _ := hP
  have hD : va_D _ ((((((([(q0, .inr (3, [.int (iV 0), .int (iV 0), .ref q7]))] ++ [(q7, .inl (G.2.2.2.2, 6, .inr (.inr (.inr (.inr (va_up (va_up (va_up (va_up (va_up (va_up (fun _ => none) 0 (some (b0 0))) 1 (some (b1 0))) 2 (some (b2 0))) 3 (some (b3 0))) 4 (some (b4 0))) 5 (some (b5 0))))))))]) ++ (zPic G b0 pP0)) ++ (zPic G b1 pP0)) ++ (zPic G b2 pP0)) ++ (zPic G b3 pP0)) ++ (zPic G b4 pP0)) ++ (zPic G b5 pP0)) := hD
  refine z_iinc (lv' := [(1, .int (iV 6)), (0, .ref q0)]) hx hb dX3_init_34 hl (k := 0) rfl (by decide) rfl (fun ls hl => ?_)
  refine lv_goto (tgt := 15) hx hb dX3_init_37 (by decide) ?_
  refine lv_iload_n hx hb dX3_init_15 rfl (lv_at hl 0 rfl) ?_
  refine lv_bipush (v := iV 6) hx hb dX3_init_16 (by decide) ?_
  refine z_icmp_ge (tgt := 40) hx hb ⟨by decide, by decide⟩ ⟨by decide, by decide⟩ dX3_init_18 (by decide) (fun _ => ?_) (fun h => absurd (show (6 : Int) ≤ 6 by decide) h)
  have hw : ((((((([(q0, .inr (3, [.int (iV 0), .int (iV 0), .ref q7]))] ++ [(q7, .inl (G.2.2.2.2, 6, .inr (.inr (.inr (.inr (va_up (va_up (va_up (va_up (va_up (va_up (fun _ => none) 0 (some (b0 0))) 1 (some (b1 0))) 2 (some (b2 0))) 3 (some (b3 0))) 4 (some (b4 0))) 5 (some (b5 0))))))))]) ++ (zPic G b0 pP0)) ++ (zPic G b1 pP0)) ++ (zPic G b2 pP0)) ++ (zPic G b3 pP0)) ++ (zPic G b4 pP0)) ++ (zPic G b5 pP0)) = ([(q0, .inr (3, [.int (iV 0), .int (iV 0), .ref q7]))] : va_W) ++ ((q7, .inl (G.2.2.2.2, 6, .inr (.inr (.inr (.inr (va_up (va_up (va_up (va_up (va_up (va_up (fun _ => none) 0 (some (b0 0))) 1 (some (b1 0))) 2 (some (b2 0))) 3 (some (b3 0))) 4 (some (b4 0))) 5 (some (b5 0)))))))) :: ((zPic G b0 pP0 ++ (zPic G b1 pP0 ++ (zPic G b2 pP0 ++ (zPic G b3 pP0 ++ (zPic G b4 pP0 ++ zPic G b5 pP0))))))) := by simp only [List.append_assoc, List.cons_append, List.nil_append]
  have hP := z_castP hw hP
  have hD := z_castD hw hD
  have hP := va_P_one (y := (6, .inr (.inr (.inr (.inr (fun k => some ((fun i => match i with | 0 => b0 | 1 => b1 | 2 => b2 | 3 => b3 | 4 => b4 | _ => b5 : Nat → Nat → Nat) k 0))))))) (vp_cell_gq (fun k hk => by rcases (show k = 0 ∨ k = 1 ∨ k = 2 ∨ k = 3 ∨ k = 4 ∨ k = 5 by omega) with rfl | rfl | rfl | rfl | rfl | rfl <;> rfl)) hP
  have hD := va_D_one (y := .inl (G.2.2.2.2, (6, .inr (.inr (.inr (.inr (fun k => some ((fun i => match i with | 0 => b0 | 1 => b1 | 2 => b2 | 3 => b3 | 4 => b4 | _ => b5 : Nat → Nat → Nat) k 0)))))))) hD
  exact z_reti (((fun i => match i with | 0 => q0 | _ => q7), (fun i => match i with | 0 => b0 | 1 => b1 | 2 => b2 | 3 => b3 | 4 => b4 | _ => b5 : Nat → Nat → Nat))) hx hb hr hlocks rfl hP hD hS dX3_init_40
