/-! the class's world in blocks -/
abbrev cS : Type := (Int × (Nat → Int) × Int) × nT × pT × (Int × (Nat → Int) × (Nat → Int)) × xS9 × ((Nat → Int) × (Nat → Int))
def zCW (G : zG) (A : Nat → Nat → Nat) (S : cS) : va_W := [(A 0 0, .inr (8, [.ref (A 1 0), .ref (A 2 0), .ref (A 3 0), .ref (A 4 0), .ref (A 5 0), .ref (A 6 0), .ref (A 7 0)]))] ++ (zPic G (A 1) S.2.1.1 ++ (zPic G (A 2) S.2.2.1 ++ (zPas G (A 3) (fun k => A (k + 8)) S.2.1.2.1 S.2.1.2.2.1 S.2.1.2.2.2 ++ (zScr G (A 4) S.1.1 S.1.2.1 S.1.2.2 ++ (zLam G (A 5) S.2.2.2.1.1 S.2.2.2.1.2.1 S.2.2.2.1.2.2 ++ (zShd G (A 6) S.2.2.2.2.1 ++ zLev G (A 7) S.2.2.2.2.2.1 S.2.2.2.2.2.2))))))
theorem pOK_0 : pOK pP0 := ⟨⟨by decide, by decide, by decide, by decide, fun _ => (show (0 : Int) ≤ 0 ∧ (0 : Int) ≤ 9 by decide)⟩, ⟨by decide, by decide, fun _ => (show (0 : Int) ≤ 0 ∧ (0 : Int) ≤ 6 by decide), fun _ => (show (0 : Int) ≤ 0 ∧ (0 : Int) < 81 by decide)⟩, fun _ => (show (0 : Int) ≤ 0 ∧ (0 : Int) < 8 by decide)⟩
def zP8 (G : zG) (av : List Value) (w : va_W) (q v sz : Nat) : Array Value → State → Prop := va_Pc av (fun U => U.heap.size = sz ∧ va_P G.1 vwCl w U.heap ∧ zK G U ∧ va_D (fun _ => True) w ∧ zNw U ∧ zSt (va_A w sz) U U.heap ∧ zStr q v (va_A w sz) U U.heap ∧ vk_R RX8 54 "g77;r0012100;r0135310;r1258521;r1369631;r0257520;r0134310;r0011100;l7007;s4;" q U)
theorem zP8_blind {G : zG} {av : List Value} {w : va_W} {q v sz : Nat} : FrameBlind (zP8 G av w q v sz) := fun a U g mk z => by
  obtain ⟨q0, q1, qP, qK, qD, qN, qS, qT, qR⟩ := z
  exact ⟨q0, q1, qP, va_K.moved (u := U) (U := U.calling g mk a) (Vm.Alike.refl U.vm) qK, qD, zNw.same (u := U) (U := U.calling g mk a) rfl qN, zSt.same (u := U) (U := U.calling g mk a) rfl qS, zStr.same (u := U) (U := U.calling g mk a) rfl qT, vk_R.same (u := U) (U := U.calling g mk a) rfl qR⟩
section ZO
variable {p : Program} {l : Launch} {e : Env} {R : Room} {s : State} {m : MethodId} {args : Array Value} {below : List Frame} {meth : Method} {c : Code} {H : Heap} {locs : List Loc} {cells slots : Nat} {Q : State → Prop}
variable {cc : ByteArray} {pc : Nat} {ls : Array Slot} {rest : List Value} {G : zG} {A : Nat → Prop}
theorem z_rawVv {own C : String} {index : Nat} {y : MethodName} {bytes : ByteArray} {maxL nL n : Nat} {ret : Option FieldType} {rm : Room} {As st : List Value} {Pc : Array Value → State → Prop} {wc w wr w1 w2 : va_W} {b : Nat}
    (X : p.tables.exec = Jvm.exec ∧ c.code = cc ∧ c.maxLocals = nL ∧ s.vm.findClass own = some m.cls ∧ (∀ w ∈ zT, w.before args s = true)) (hA : ∀ q, s.heap.size ≤ q → A q) (hP : va_P G.1 vwCl w H) (hD : va_D A w) (hS : va_S A s.heap H locs) (hls : ls.size = nL)
    (hM : Met l y (Cond.code y bytes maxL ret :: zT) rm Pc (zQv G wc w1 H.size) 0 0 (va_A wc H.size))
    (hlink : Cond.methodLink own index y ∈ zT) (hm : zM C y bytes maxL ret n)
    (hR : rm.cells = 0 ∧ rm.slots = 0 ∧ rm.frames + 1 ≤ R.frames ∧ 8 + (maxL + 11) + rm.locals ≤ R.locals)
    (hp : PreV s H C b Pc As)
    (hp1 : w.Perm (wc ++ wr)) (hp2 : (w1 ++ wr).Perm w2) (c5 : w1.map Prod.fst = wc.map Prod.fst)
    (hn : As.length = n) (hst : st = As.reverse ++ .ref b :: rest) (hrest : (rest.map fun v => v.category).sum ≤ 8)
    (hdg : decode cc pc = .ok (.invokevirtual index, 3)) (hcs : cells ≤ R.cells ∧ slots ≤ R.slots)
    (kk : ∀ (H1 : Heap) (locs1 : List Loc), va_P G.1 vwCl w2 H1 → va_D A w2 → va_S A s.heap H1 locs1 → W p l e R s m args below meth c H1 locs1 cells slots Q (F0 m (pc + 3) ls rest)) : W p l e R s m args below meth c H locs cells slots Q (F0 m pc ls st) := by
  subst hst
  obtain ⟨hx, hb, hml, hown, hts⟩ := X
  have hPp := va_P_perm hp1 hP
  have hDp := va_D_perm hp1 hD
  have hF := va_free_l hDp hS hA
  refine va_callv (va_runV (As := As) (rest := rest) ⟨hx, hb, hml, hown, hts⟩ hM (zcwV hts hlink hm hR.1 hR.2.1 hR.2.2) hp rfl hn hls rfl (lv_room hrest) hdg hcs) hS (fun q _ h => hF q h) hF (fun u t H1 locs1 ht hvm hw hB hz hk hS1 => ?_)
  rw [ht] at hB
  obtain ⟨hP2, hD2⟩ := z_joinp hPp hDp c5 hk hB
  exact kk H1 locs1 (va_P_perm hp2 hP2) (va_D_perm hp2 hD2) hS1
end ZO
set_option maxHeartbeats 4000000 in
set_option maxRecDepth 100000 in
theorem c_X8_init (l : Launch) (G : zG) (sz q0 : Nat) (qs vs : Nat) (rD : Int × pT × Int) (hRD : kRd (sPut (fun _ => 0) 0 76 zTx) 76 200 (pClear pP0) 0 0 = rD) : Met l yX8_init (Cond.code yX8_init cX8_init 1 none :: zT) (zRc 5 114 82 3161) (zP8 G [.ref q0] [(q0, .inr (8, [.null, .null, .null, .null, .null, .null, .null]))] qs vs sz) (zQi G (fun a : Nat → Nat → Nat => a 0 0 = q0) (fun a : Nat → Nat → Nat => zCW G a ((0, sPut (fun _ => 0) 0 76 zTx, rD.2.2), (rD.2.1, 0, 0, fun _ => pP0), pP0, (0, (fun _ => 0), (fun _ => 0)), xX0, ((fun _ => 0), (fun _ => 0)))) [(q0, .inr (8, [.null, .null, .null, .null, .null, .null, .null]))] sz) 82 3161 (va_A [(q0, .inr (8, [.null, .null, .null, .null, .null, .null, .null]))] sz) := by
  refine Met.ofW (cc := cX8_init) (maxL := 1) (ret := none) (by decide) rfl ?_
  intro p e s m args below meth c s₁ B hml hv
  obtain ⟨rfl, hsz, hP, hK, hD0, hNw, hSt, hStr, hVk⟩ := hv
  have hx := B.exec
  have hb := B.bytes
  have hr := B.returns
  have hts : ∀ w ∈ zT, w.before _ s = true := fun w h => atoms_spec (ws := (Cond.code yX8_init cX8_init 1 none :: zT)) B.pre w (List.mem_cons_of_mem _ h)
  have hown : s.vm.findClass RX8 = some m.cls := findClass_of_methodNamed B.named
  have hlocks := B.notSynchronized
  have hin : meth.name = "<init>" := (name_of_methodNamed B.named B.method).1
  subst hsz
  have hD : va_D (va_A [(q0, .inr (8, [.null, .null, .null, .null, .null, .null, .null]))] s.heap.size) [(q0, .inr (8, [.null, .null, .null, .null, .null, .null, .null]))] := hD0.self
  have hA : ∀ q : Nat, s.heap.size ≤ q → va_A [(q0, .inr (8, [.null, .null, .null, .null, .null, .null, .null]))] s.heap.size q := fun q h => Or.inr h
  have hS : va_S (va_A [(q0, .inr (8, [.null, .null, .null, .null, .null, .null, .null]))] s.heap.size) s.heap s.heap [] := va_S.rf
  have hP : va_P G.1 vwCl [(q0, .inr (8, [.null, .null, .null, .null, .null, .null, .null]))] s.heap := hP
  have X := And.intro hx (And.intro hb (And.intro hml (And.intro hown hts)))
  have hl := lv_entry ([.ref q0]) (n := 1) (Nat.le_of_ble_eq_true rfl)
  rw [lg_entry_eq]
  generalize (lg_sl ([.ref q0]) ++ List.replicate (1 - (lg_sl ([.ref q0])).length) Slot.unset).toArray = ls at hl ⊢
  have hl : lv_has ls 1 [(0, .ref q0)] := hl
  refine lv_aload_n hx hb dX8_init_0 rfl (lv_at hl 0 rfl) ?_
  refine W.objInit hx hb hown (hts _ wd_22) (hts _ wd_23) (hts _ wd_24) rfl (by rw [hml]; exact hl.1) rfl dX8_init_1 (Nat.le_of_ble_eq_true rfl) (Nat.le_of_ble_eq_true rfl) ?_
  refine W.eq (g2 := F0 m 4 ls []) rfl ?_
  refine lv_aload_n hx hb dX8_init_4 rfl (lv_at hl 0 rfl) ?_
  refine va_new (D := G.1) (ci := 4) (fs := [.null, .null, .null, .int (iV 0)]) (C := RX4) (T := TX4) (N := 4) hx hb hts inX4 tyX4 tyX4_ok hown (hts _ wd_25) (hts _ wd_26) (hts _ wd_2) hK hP hD hS hA rfl (fun j hj => by rcases (show j = 0 ∨ j = 1 ∨ j = 2 ∨ j = 3 by omega) with rfl | rfl | rfl | rfl <;> rfl) (Nat.le_of_ble_eq_true rfl) (Nat.le_of_ble_eq_true rfl) dX8_init_5 (fun q5 H hP hD hS => ?_)
  refine W.widen (k := 1) (n := 4) (Nat.le_of_ble_eq_true rfl) (Nat.le_of_ble_eq_true rfl) ?_
  have hP : va_P G.1 vwCl ([(q0, .inr (8, [.null, .null, .null, .null, .null, .null, .null]))] ++ [(q5, .inr (4, [.null, .null, .null, .int (iV 0)]))]) _ := hP
  have hD : va_D _ ([(q0, .inr (8, [.null, .null, .null, .null, .null, .null, .null]))] ++ [(q5, .inr (4, [.null, .null, .null, .int (iV 0)]))]) := hD
  refine lv_dup hx hb dX8_init_8 rfl ?_
  have hPc : va_P G.1 vwCl [(q5, .inr (4, [.null, .null, .null, .int (iV 0)]))] H := va_P_mem.mpr (fun x hx => va_P_mem.mp hP x (List.mem_append_right _ hx))
  have hDc : va_D _ [(q5, .inr (4, [.null, .null, .null, .int (iV 0)]))] := (va_D_perm List.perm_append_comm hD : va_D _ ([(q5, .inr (4, [.null, .null, .null, .int (iV 0)]))] ++ [(q0, .inr (8, [.null, .null, .null, .null, .null, .null, .null]))])) |> va_D_left
  refine z_initN (wr := [(q0, .inr (8, [.null, .null, .null, .null, .null, .null, .null]))]) (wc := [(q5, .inr (4, [.null, .null, .null, .int (iV 0)]))]) X hA hP hD hS hl.1 (c_X4_init l G H.size q5) (hNw.at 0 rfl) ⟨wd_29, wd_2, wd_28⟩ ⟨rfl, by decide, by decide, by decide +kernel⟩ ⟨rfl, rfl, Nat.le_of_ble_eq_true rfl, Nat.le_of_ble_eq_true rfl⟩ ⟨zP0_blind, fun U hU hW => ⟨rfl, by rw [hU], by rw [hU]; exact hPc, va_K.moved hW.alike hK, hDc.weaken (fun _ _ _ _ => trivial), hNw.warm hW⟩⟩ rfl (Nat.le_of_ble_eq_true rfl) dX8_init_9 ⟨Nat.le_of_ble_eq_true rfl, Nat.le_of_ble_eq_true rfl⟩ (fun a9 H locs ha hP hD hS => ?_)
  refine W.widen (k := 8) (n := 256) (Nat.le_of_ble_eq_true rfl) (Nat.le_of_ble_eq_true rfl) ?_
  have hP9 := hP
  have hD9 := hD
  have hS9 := hS
  subst ha
  have hP := hP9
  have hD := hD9
  have hS := hS9
  have hP : va_P G.1 vwCl ([(q0, .inr (8, [.null, .null, .null, .null, .null, .null, .null]))] ++ (zPic G a9 pP0)) _ := hP
  have hD : va_D _ ([(q0, .inr (8, [.null, .null, .null, .null, .null, .null, .null]))] ++ (zPic G a9 pP0)) := hD
  refine va_putF (D := G.1) (ci := 8) (v := .ref (a9 0)) (ty := tyX8 0) (C := RX8) (T := TX8) (N := 7) hx hb hts inX8 tyX8 tyX8_ok nmX8 hown hK hP hD hS 0 rfl rfl 0 (by decide) (hts _ wd_306) (fun _ h9 => h9) rfl hin rfl (tyX8_ok 0 (by decide)) rfl rfl (Nat.le_of_ble_eq_true rfl) dX8_init_12 (fun H locs hP hD hS => ?_)
  have hP : va_P G.1 vwCl ([(q0, .inr (8, [.ref (a9 0), .null, .null, .null, .null, .null, .null]))] ++ (zPic G a9 pP0)) _ := hP
  have hD : va_D _ ([(q0, .inr (8, [.ref (a9 0), .null, .null, .null, .null, .null, .null]))] ++ (zPic G a9 pP0)) := hD
  refine lv_aload_n hx hb dX8_init_15 rfl (lv_at hl 0 rfl) ?_
  refine va_new (D := G.1) (ci := 4) (fs := [.null, .null, .null, .int (iV 0)]) (C := RX4) (T := TX4) (N := 4) hx hb hts inX4 tyX4 tyX4_ok hown (hts _ wd_25) (hts _ wd_26) (hts _ wd_2) hK hP hD hS hA rfl (fun j hj => by rcases (show j = 0 ∨ j = 1 ∨ j = 2 ∨ j = 3 by omega) with rfl | rfl | rfl | rfl <;> rfl) (Nat.le_of_ble_eq_true rfl) (Nat.le_of_ble_eq_true rfl) dX8_init_16 (fun q16 H hP hD hS => ?_)
  refine W.widen (k := 9) (n := 260) (Nat.le_of_ble_eq_true rfl) (Nat.le_of_ble_eq_true rfl) ?_
  have hP : va_P G.1 vwCl (([(q0, .inr (8, [.ref (a9 0), .null, .null, .null, .null, .null, .null]))] ++ (zPic G a9 pP0)) ++ [(q16, .inr (4, [.null, .null, .null, .int (iV 0)]))]) _ := hP
  have hD : va_D _ (([(q0, .inr (8, [.ref (a9 0), .null, .null, .null, .null, .null, .null]))] ++ (zPic G a9 pP0)) ++ [(q16, .inr (4, [.null, .null, .null, .int (iV 0)]))]) := hD
  refine lv_dup hx hb dX8_init_19 rfl ?_
  have hPc : va_P G.1 vwCl [(q16, .inr (4, [.null, .null, .null, .int (iV 0)]))] H := va_P_mem.mpr (fun x hx => va_P_mem.mp hP x (List.mem_append_right _ hx))
  have hDc : va_D _ [(q16, .inr (4, [.null, .null, .null, .int (iV 0)]))] := (va_D_perm List.perm_append_comm hD : va_D _ ([(q16, .inr (4, [.null, .null, .null, .int (iV 0)]))] ++ ([(q0, .inr (8, [.ref (a9 0), .null, .null, .null, .null, .null, .null]))] ++ (zPic G a9 pP0)))) |> va_D_left
  refine z_initN (wr := ([(q0, .inr (8, [.ref (a9 0), .null, .null, .null, .null, .null, .null]))] ++ (zPic G a9 pP0))) (wc := [(q16, .inr (4, [.null, .null, .null, .int (iV 0)]))]) X hA hP hD hS hl.1 (c_X4_init l G H.size q16) (hNw.at 0 rfl) ⟨wd_29, wd_2, wd_28⟩ ⟨rfl, by decide, by decide, by decide +kernel⟩ ⟨rfl, rfl, Nat.le_of_ble_eq_true rfl, Nat.le_of_ble_eq_true rfl⟩ ⟨zP0_blind, fun U hU hW => ⟨rfl, by rw [hU], by rw [hU]; exact hPc, va_K.moved hW.alike hK, hDc.weaken (fun _ _ _ _ => trivial), hNw.warm hW⟩⟩ rfl (Nat.le_of_ble_eq_true rfl) dX8_init_20 ⟨Nat.le_of_ble_eq_true rfl, Nat.le_of_ble_eq_true rfl⟩ (fun a20 H locs ha hP hD hS => ?_)
  refine W.widen (k := 16) (n := 512) (Nat.le_of_ble_eq_true rfl) (Nat.le_of_ble_eq_true rfl) ?_
  have hP9 := hP
  have hD9 := hD
  have hS9 := hS
  subst ha
  have hP := hP9
  have hD := hD9
  have hS := hS9
  have hP : va_P G.1 vwCl (([(q0, .inr (8, [.ref (a9 0), .null, .null, .null, .null, .null, .null]))] ++ (zPic G a9 pP0)) ++ (zPic G a20 pP0)) _ := hP
  have hD : va_D _ (([(q0, .inr (8, [.ref (a9 0), .null, .null, .null, .null, .null, .null]))] ++ (zPic G a9 pP0)) ++ (zPic G a20 pP0)) := hD
  refine va_putF (D := G.1) (ci := 8) (v := .ref (a20 0)) (ty := tyX8 1) (C := RX8) (T := TX8) (N := 7) hx hb hts inX8 tyX8 tyX8_ok nmX8 hown hK hP hD hS 0 rfl rfl 1 (by decide) (hts _ wd_307) (fun _ h9 => h9) rfl hin rfl (tyX8_ok 1 (by decide)) rfl rfl (Nat.le_of_ble_eq_true rfl) dX8_init_23 (fun H locs hP hD hS => ?_)
  have hP : va_P G.1 vwCl (([(q0, .inr (8, [.ref (a9 0), .ref (a20 0), .null, .null, .null, .null, .null]))] ++ (zPic G a9 pP0)) ++ (zPic G a20 pP0)) _ := hP
  have hD : va_D _ (([(q0, .inr (8, [.ref (a9 0), .ref (a20 0), .null, .null, .null, .null, .null]))] ++ (zPic G a9 pP0)) ++ (zPic G a20 pP0)) := hD
  refine lv_aload_n hx hb dX8_init_26 rfl (lv_at hl 0 rfl) ?_
  refine va_new (D := G.1) (ci := 3) (fs := [.int (iV 0), .int (iV 0), .null]) (C := RX3) (T := TX3) (N := 3) hx hb hts inX3 tyX3 tyX3_ok hown (hts _ wd_96) (hts _ wd_97) (hts _ wd_5) hK hP hD hS hA rfl (fun j hj => by rcases (show j = 0 ∨ j = 1 ∨ j = 2 by omega) with rfl | rfl | rfl <;> rfl) (Nat.le_of_ble_eq_true rfl) (Nat.le_of_ble_eq_true rfl) dX8_init_27 (fun q27 H hP hD hS => ?_)
  refine W.widen (k := 17) (n := 515) (Nat.le_of_ble_eq_true rfl) (Nat.le_of_ble_eq_true rfl) ?_
  have hP : va_P G.1 vwCl ((([(q0, .inr (8, [.ref (a9 0), .ref (a20 0), .null, .null, .null, .null, .null]))] ++ (zPic G a9 pP0)) ++ (zPic G a20 pP0)) ++ [(q27, .inr (3, [.int (iV 0), .int (iV 0), .null]))]) _ := hP
  have hD : va_D _ ((([(q0, .inr (8, [.ref (a9 0), .ref (a20 0), .null, .null, .null, .null, .null]))] ++ (zPic G a9 pP0)) ++ (zPic G a20 pP0)) ++ [(q27, .inr (3, [.int (iV 0), .int (iV 0), .null]))]) := hD
  refine lv_dup hx hb dX8_init_30 rfl ?_
  have hPc : va_P G.1 vwCl [(q27, .inr (3, [.int (iV 0), .int (iV 0), .null]))] H := va_P_mem.mpr (fun x hx => va_P_mem.mp hP x (List.mem_append_right _ hx))
  have hDc : va_D _ [(q27, .inr (3, [.int (iV 0), .int (iV 0), .null]))] := (va_D_perm List.perm_append_comm hD : va_D _ ([(q27, .inr (3, [.int (iV 0), .int (iV 0), .null]))] ++ (([(q0, .inr (8, [.ref (a9 0), .ref (a20 0), .null, .null, .null, .null, .null]))] ++ (zPic G a9 pP0)) ++ (zPic G a20 pP0)))) |> va_D_left
  refine z_initS (wr := (([(q0, .inr (8, [.ref (a9 0), .ref (a20 0), .null, .null, .null, .null, .null]))] ++ (zPic G a9 pP0)) ++ (zPic G a20 pP0))) (wc := [(q27, .inr (3, [.int (iV 0), .int (iV 0), .null]))]) X hA hP hD hS hl.1 (c_X3_init l G H.size q27) wd_98 ⟨wd_100, wd_5, wd_99⟩ ⟨rfl, by decide, by decide, by decide +kernel⟩ ⟨rfl, rfl, Nat.le_of_ble_eq_true rfl, Nat.le_of_ble_eq_true rfl⟩ ⟨zP0_blind, fun U hU hW => ⟨rfl, by rw [hU], by rw [hU]; exact hPc, va_K.moved hW.alike hK, hDc.weaken (fun _ _ _ _ => trivial), hNw.warm hW⟩⟩ rfl (Nat.le_of_ble_eq_true rfl) dX8_init_31 ⟨Nat.le_of_ble_eq_true rfl, Nat.le_of_ble_eq_true rfl⟩ (fun a31 H locs ha hP hD hS => ?_)
  refine W.widen (k := 66) (n := 2057) (Nat.le_of_ble_eq_true rfl) (Nat.le_of_ble_eq_true rfl) ?_
  have hP9 := hP
  have hD9 := hD
  have hS9 := hS
  subst ha
  have hP := hP9
  have hD := hD9
  have hS := hS9
  have hP : va_P G.1 vwCl ((([(q0, .inr (8, [.ref (a9 0), .ref (a20 0), .null, .null, .null, .null, .null]))] ++ (zPic G a9 pP0)) ++ (zPic G a20 pP0)) ++ (zPas G a31.1 a31.2 0 0 (fun _ => pP0))) _ := hP
  have hD : va_D _ ((([(q0, .inr (8, [.ref (a9 0), .ref (a20 0), .null, .null, .null, .null, .null]))] ++ (zPic G a9 pP0)) ++ (zPic G a20 pP0)) ++ (zPas G a31.1 a31.2 0 0 (fun _ => pP0))) := hD
  refine va_putF (D := G.1) (ci := 8) (v := .ref (a31.1 0)) (ty := tyX8 2) (C := RX8) (T := TX8) (N := 7) hx hb hts inX8 tyX8 tyX8_ok nmX8 hown hK hP hD hS 0 rfl rfl 2 (by decide) (hts _ wd_308) (fun _ h9 => h9) rfl hin rfl (tyX8_ok 2 (by decide)) rfl rfl (Nat.le_of_ble_eq_true rfl) dX8_init_34 (fun H locs hP hD hS => ?_)
  have hP : va_P G.1 vwCl ((([(q0, .inr (8, [.ref (a9 0), .ref (a20 0), .ref (a31.1 0), .null, .null, .null, .null]))] ++ (zPic G a9 pP0)) ++ (zPic G a20 pP0)) ++ (zPas G a31.1 a31.2 0 0 (fun _ => pP0))) _ := hP
  have hD : va_D _ ((([(q0, .inr (8, [.ref (a9 0), .ref (a20 0), .ref (a31.1 0), .null, .null, .null, .null]))] ++ (zPic G a9 pP0)) ++ (zPic G a20 pP0)) ++ (zPas G a31.1 a31.2 0 0 (fun _ => pP0))) := hD
  refine lv_aload_n hx hb dX8_init_37 rfl (lv_at hl 0 rfl) ?_
  refine va_new (D := G.1) (ci := 5) (fs := [.int (iV 0), .null, .int (iV 0)]) (C := RX5) (T := TX5) (N := 3) hx hb hts inX5 tyX5 tyX5_ok hown (hts _ wd_116) (hts _ wd_117) (hts _ wd_6) hK hP hD hS hA rfl (fun j hj => by rcases (show j = 0 ∨ j = 1 ∨ j = 2 by omega) with rfl | rfl | rfl <;> rfl) (Nat.le_of_ble_eq_true rfl) (Nat.le_of_ble_eq_true rfl) dX8_init_38 (fun q38 H hP hD hS => ?_)
  refine W.widen (k := 67) (n := 2060) (Nat.le_of_ble_eq_true rfl) (Nat.le_of_ble_eq_true rfl) ?_
  have hP : va_P G.1 vwCl (((([(q0, .inr (8, [.ref (a9 0), .ref (a20 0), .ref (a31.1 0), .null, .null, .null, .null]))] ++ (zPic G a9 pP0)) ++ (zPic G a20 pP0)) ++ (zPas G a31.1 a31.2 0 0 (fun _ => pP0))) ++ [(q38, .inr (5, [.int (iV 0), .null, .int (iV 0)]))]) _ := hP
  have hD : va_D _ (((([(q0, .inr (8, [.ref (a9 0), .ref (a20 0), .ref (a31.1 0), .null, .null, .null, .null]))] ++ (zPic G a9 pP0)) ++ (zPic G a20 pP0)) ++ (zPas G a31.1 a31.2 0 0 (fun _ => pP0))) ++ [(q38, .inr (5, [.int (iV 0), .null, .int (iV 0)]))]) := hD
  refine lv_dup hx hb dX8_init_41 rfl ?_
  have hPc : va_P G.1 vwCl [(q38, .inr (5, [.int (iV 0), .null, .int (iV 0)]))] H := va_P_mem.mpr (fun x hx => va_P_mem.mp hP x (List.mem_append_right _ hx))
  have hDc : va_D _ [(q38, .inr (5, [.int (iV 0), .null, .int (iV 0)]))] := (va_D_perm List.perm_append_comm hD : va_D _ ([(q38, .inr (5, [.int (iV 0), .null, .int (iV 0)]))] ++ ((([(q0, .inr (8, [.ref (a9 0), .ref (a20 0), .ref (a31.1 0), .null, .null, .null, .null]))] ++ (zPic G a9 pP0)) ++ (zPic G a20 pP0)) ++ (zPas G a31.1 a31.2 0 0 (fun _ => pP0))))) |> va_D_left
  refine z_initN (wr := ((([(q0, .inr (8, [.ref (a9 0), .ref (a20 0), .ref (a31.1 0), .null, .null, .null, .null]))] ++ (zPic G a9 pP0)) ++ (zPic G a20 pP0)) ++ (zPas G a31.1 a31.2 0 0 (fun _ => pP0)))) (wc := [(q38, .inr (5, [.int (iV 0), .null, .int (iV 0)]))]) X hA hP hD hS hl.1 (c_X5_init l G H.size q38) (hNw.at 4 rfl) ⟨wd_120, wd_6, wd_119⟩ ⟨rfl, by decide, by decide, by decide +kernel⟩ ⟨rfl, rfl, Nat.le_of_ble_eq_true rfl, Nat.le_of_ble_eq_true rfl⟩ ⟨zP0_blind, fun U hU hW => ⟨rfl, by rw [hU], by rw [hU]; exact hPc, va_K.moved hW.alike hK, hDc.weaken (fun _ _ _ _ => trivial), hNw.warm hW⟩⟩ rfl (Nat.le_of_ble_eq_true rfl) dX8_init_42 ⟨Nat.le_of_ble_eq_true rfl, Nat.le_of_ble_eq_true rfl⟩ (fun a42 H locs ha hP hD hS => ?_)
  refine W.widen (k := 68) (n := 2260) (Nat.le_of_ble_eq_true rfl) (Nat.le_of_ble_eq_true rfl) ?_
  have hP9 := hP
  have hD9 := hD
  have hS9 := hS
  subst ha
  have hP := hP9
  have hD := hD9
  have hS := hS9
  have hP : va_P G.1 vwCl (((([(q0, .inr (8, [.ref (a9 0), .ref (a20 0), .ref (a31.1 0), .null, .null, .null, .null]))] ++ (zPic G a9 pP0)) ++ (zPic G a20 pP0)) ++ (zPas G a31.1 a31.2 0 0 (fun _ => pP0))) ++ (zScr G a42 0 (fun _ => 0) 0)) _ := hP
  have hD : va_D _ (((([(q0, .inr (8, [.ref (a9 0), .ref (a20 0), .ref (a31.1 0), .null, .null, .null, .null]))] ++ (zPic G a9 pP0)) ++ (zPic G a20 pP0)) ++ (zPas G a31.1 a31.2 0 0 (fun _ => pP0))) ++ (zScr G a42 0 (fun _ => 0) 0)) := hD
  refine va_putF (D := G.1) (ci := 8) (v := .ref (a42 0)) (ty := tyX8 3) (C := RX8) (T := TX8) (N := 7) hx hb hts inX8 tyX8 tyX8_ok nmX8 hown hK hP hD hS 0 rfl rfl 3 (by decide) (hts _ wd_309) (fun _ h9 => h9) rfl hin rfl (tyX8_ok 3 (by decide)) rfl rfl (Nat.le_of_ble_eq_true rfl) dX8_init_45 (fun H locs hP hD hS => ?_)
  have hP : va_P G.1 vwCl (((([(q0, .inr (8, [.ref (a9 0), .ref (a20 0), .ref (a31.1 0), .ref (a42 0), .null, .null, .null]))] ++ (zPic G a9 pP0)) ++ (zPic G a20 pP0)) ++ (zPas G a31.1 a31.2 0 0 (fun _ => pP0))) ++ (zScr G a42 0 (fun _ => 0) 0)) _ := hP
  have hD : va_D _ (((([(q0, .inr (8, [.ref (a9 0), .ref (a20 0), .ref (a31.1 0), .ref (a42 0), .null, .null, .null]))] ++ (zPic G a9 pP0)) ++ (zPic G a20 pP0)) ++ (zPas G a31.1 a31.2 0 0 (fun _ => pP0))) ++ (zScr G a42 0 (fun _ => 0) 0)) := hD
  refine lv_aload_n hx hb dX8_init_48 rfl (lv_at hl 0 rfl) ?_
  refine va_new (D := G.1) (ci := 1) (fs := [.int (iV 0), .null, .null]) (C := RX1) (T := TX1) (N := 3) hx hb hts inX1 tyX1 tyX1_ok hown (hts _ wd_134) (hts _ wd_135) (hts _ wd_7) hK hP hD hS hA rfl (fun j hj => by rcases (show j = 0 ∨ j = 1 ∨ j = 2 by omega) with rfl | rfl | rfl <;> rfl) (Nat.le_of_ble_eq_true rfl) (Nat.le_of_ble_eq_true rfl) dX8_init_49 (fun q49 H hP hD hS => ?_)
  refine W.widen (k := 69) (n := 2263) (Nat.le_of_ble_eq_true rfl) (Nat.le_of_ble_eq_true rfl) ?_
  have hP : va_P G.1 vwCl ((((([(q0, .inr (8, [.ref (a9 0), .ref (a20 0), .ref (a31.1 0), .ref (a42 0), .null, .null, .null]))] ++ (zPic G a9 pP0)) ++ (zPic G a20 pP0)) ++ (zPas G a31.1 a31.2 0 0 (fun _ => pP0))) ++ (zScr G a42 0 (fun _ => 0) 0)) ++ [(q49, .inr (1, [.int (iV 0), .null, .null]))]) _ := hP
  have hD : va_D _ ((((([(q0, .inr (8, [.ref (a9 0), .ref (a20 0), .ref (a31.1 0), .ref (a42 0), .null, .null, .null]))] ++ (zPic G a9 pP0)) ++ (zPic G a20 pP0)) ++ (zPas G a31.1 a31.2 0 0 (fun _ => pP0))) ++ (zScr G a42 0 (fun _ => 0) 0)) ++ [(q49, .inr (1, [.int (iV 0), .null, .null]))]) := hD
  refine lv_dup hx hb dX8_init_52 rfl ?_
  have hPc : va_P G.1 vwCl [(q49, .inr (1, [.int (iV 0), .null, .null]))] H := va_P_mem.mpr (fun x hx => va_P_mem.mp hP x (List.mem_append_right _ hx))
  have hDc : va_D _ [(q49, .inr (1, [.int (iV 0), .null, .null]))] := (va_D_perm List.perm_append_comm hD : va_D _ ([(q49, .inr (1, [.int (iV 0), .null, .null]))] ++ (((([(q0, .inr (8, [.ref (a9 0), .ref (a20 0), .ref (a31.1 0), .ref (a42 0), .null, .null, .null]))] ++ (zPic G a9 pP0)) ++ (zPic G a20 pP0)) ++ (zPas G a31.1 a31.2 0 0 (fun _ => pP0))) ++ (zScr G a42 0 (fun _ => 0) 0)))) |> va_D_left
  refine z_initN (wr := (((([(q0, .inr (8, [.ref (a9 0), .ref (a20 0), .ref (a31.1 0), .ref (a42 0), .null, .null, .null]))] ++ (zPic G a9 pP0)) ++ (zPic G a20 pP0)) ++ (zPas G a31.1 a31.2 0 0 (fun _ => pP0))) ++ (zScr G a42 0 (fun _ => 0) 0))) (wc := [(q49, .inr (1, [.int (iV 0), .null, .null]))]) X hA hP hD hS hl.1 (c_X1_init l G H.size q49) (hNw.at 5 rfl) ⟨wd_138, wd_7, wd_137⟩ ⟨rfl, by decide, by decide, by decide +kernel⟩ ⟨rfl, rfl, Nat.le_of_ble_eq_true rfl, Nat.le_of_ble_eq_true rfl⟩ ⟨zP0_blind, fun U hU hW => ⟨rfl, by rw [hU], by rw [hU]; exact hPc, va_K.moved hW.alike hK, hDc.weaken (fun _ _ _ _ => trivial), hNw.warm hW⟩⟩ rfl (Nat.le_of_ble_eq_true rfl) dX8_init_53 ⟨Nat.le_of_ble_eq_true rfl, Nat.le_of_ble_eq_true rfl⟩ (fun a53 H locs ha hP hD hS => ?_)
  refine W.widen (k := 71) (n := 2299) (Nat.le_of_ble_eq_true rfl) (Nat.le_of_ble_eq_true rfl) ?_
  have hP9 := hP
  have hD9 := hD
  have hS9 := hS
  subst ha
  have hP := hP9
  have hD := hD9
  have hS := hS9
  have hP : va_P G.1 vwCl ((((([(q0, .inr (8, [.ref (a9 0), .ref (a20 0), .ref (a31.1 0), .ref (a42 0), .null, .null, .null]))] ++ (zPic G a9 pP0)) ++ (zPic G a20 pP0)) ++ (zPas G a31.1 a31.2 0 0 (fun _ => pP0))) ++ (zScr G a42 0 (fun _ => 0) 0)) ++ (zLam G a53 0 (fun _ => 0) (fun _ => 0))) _ := hP
  have hD : va_D _ ((((([(q0, .inr (8, [.ref (a9 0), .ref (a20 0), .ref (a31.1 0), .ref (a42 0), .null, .null, .null]))] ++ (zPic G a9 pP0)) ++ (zPic G a20 pP0)) ++ (zPas G a31.1 a31.2 0 0 (fun _ => pP0))) ++ (zScr G a42 0 (fun _ => 0) 0)) ++ (zLam G a53 0 (fun _ => 0) (fun _ => 0))) := hD
  refine va_putF (D := G.1) (ci := 8) (v := .ref (a53 0)) (ty := tyX8 4) (C := RX8) (T := TX8) (N := 7) hx hb hts inX8 tyX8 tyX8_ok nmX8 hown hK hP hD hS 0 rfl rfl 4 (by decide) (hts _ wd_310) (fun _ h9 => h9) rfl hin rfl (tyX8_ok 4 (by decide)) rfl rfl (Nat.le_of_ble_eq_true rfl) dX8_init_56 (fun H locs hP hD hS => ?_)
  have hP : va_P G.1 vwCl ((((([(q0, .inr (8, [.ref (a9 0), .ref (a20 0), .ref (a31.1 0), .ref (a42 0), .ref (a53 0), .null, .null]))] ++ (zPic G a9 pP0)) ++ (zPic G a20 pP0)) ++ (zPas G a31.1 a31.2 0 0 (fun _ => pP0))) ++ (zScr G a42 0 (fun _ => 0) 0)) ++ (zLam G a53 0 (fun _ => 0) (fun _ => 0))) _ := hP
  have hD : va_D _ ((((([(q0, .inr (8, [.ref (a9 0), .ref (a20 0), .ref (a31.1 0), .ref (a42 0), .ref (a53 0), .null, .null]))] ++ (zPic G a9 pP0)) ++ (zPic G a20 pP0)) ++ (zPas G a31.1 a31.2 0 0 (fun _ => pP0))) ++ (zScr G a42 0 (fun _ => 0) 0)) ++ (zLam G a53 0 (fun _ => 0) (fun _ => 0))) := hD
  refine lv_aload_n hx hb dX8_init_59 rfl (lv_at hl 0 rfl) ?_
  refine va_new (D := G.1) (ci := 6) (fs := [.int (iV 0), .int (iV 0), .null, .null, .null, .null, .null, .null, .null]) (C := RX6) (T := TX6) (N := 9) hx hb hts inX6 tyX6 tyX6_ok hown (hts _ wd_152) (hts _ wd_153) (hts _ wd_8) hK hP hD hS hA rfl (fun j hj => by rcases (show j = 0 ∨ j = 1 ∨ j = 2 ∨ j = 3 ∨ j = 4 ∨ j = 5 ∨ j = 6 ∨ j = 7 ∨ j = 8 by omega) with rfl | rfl | rfl | rfl | rfl | rfl | rfl | rfl | rfl <;> rfl) (Nat.le_of_ble_eq_true rfl) (Nat.le_of_ble_eq_true rfl) dX8_init_60 (fun q60 H hP hD hS => ?_)
  refine W.widen (k := 72) (n := 2308) (Nat.le_of_ble_eq_true rfl) (Nat.le_of_ble_eq_true rfl) ?_
  have hP : va_P G.1 vwCl (((((([(q0, .inr (8, [.ref (a9 0), .ref (a20 0), .ref (a31.1 0), .ref (a42 0), .ref (a53 0), .null, .null]))] ++ (zPic G a9 pP0)) ++ (zPic G a20 pP0)) ++ (zPas G a31.1 a31.2 0 0 (fun _ => pP0))) ++ (zScr G a42 0 (fun _ => 0) 0)) ++ (zLam G a53 0 (fun _ => 0) (fun _ => 0))) ++ [(q60, .inr (6, [.int (iV 0), .int (iV 0), .null, .null, .null, .null, .null, .null, .null]))]) _ := hP
  have hD : va_D _ (((((([(q0, .inr (8, [.ref (a9 0), .ref (a20 0), .ref (a31.1 0), .ref (a42 0), .ref (a53 0), .null, .null]))] ++ (zPic G a9 pP0)) ++ (zPic G a20 pP0)) ++ (zPas G a31.1 a31.2 0 0 (fun _ => pP0))) ++ (zScr G a42 0 (fun _ => 0) 0)) ++ (zLam G a53 0 (fun _ => 0) (fun _ => 0))) ++ [(q60, .inr (6, [.int (iV 0), .int (iV 0), .null, .null, .null, .null, .null, .null, .null]))]) := hD
  refine lv_dup hx hb dX8_init_63 rfl ?_
  have hPc : va_P G.1 vwCl [(q60, .inr (6, [.int (iV 0), .int (iV 0), .null, .null, .null, .null, .null, .null, .null]))] H := va_P_mem.mpr (fun x hx => va_P_mem.mp hP x (List.mem_append_right _ hx))
  have hDc : va_D _ [(q60, .inr (6, [.int (iV 0), .int (iV 0), .null, .null, .null, .null, .null, .null, .null]))] := (va_D_perm List.perm_append_comm hD : va_D _ ([(q60, .inr (6, [.int (iV 0), .int (iV 0), .null, .null, .null, .null, .null, .null, .null]))] ++ ((((([(q0, .inr (8, [.ref (a9 0), .ref (a20 0), .ref (a31.1 0), .ref (a42 0), .ref (a53 0), .null, .null]))] ++ (zPic G a9 pP0)) ++ (zPic G a20 pP0)) ++ (zPas G a31.1 a31.2 0 0 (fun _ => pP0))) ++ (zScr G a42 0 (fun _ => 0) 0)) ++ (zLam G a53 0 (fun _ => 0) (fun _ => 0))))) |> va_D_left
  refine z_initN (wr := ((((([(q0, .inr (8, [.ref (a9 0), .ref (a20 0), .ref (a31.1 0), .ref (a42 0), .ref (a53 0), .null, .null]))] ++ (zPic G a9 pP0)) ++ (zPic G a20 pP0)) ++ (zPas G a31.1 a31.2 0 0 (fun _ => pP0))) ++ (zScr G a42 0 (fun _ => 0) 0)) ++ (zLam G a53 0 (fun _ => 0) (fun _ => 0)))) (wc := [(q60, .inr (6, [.int (iV 0), .int (iV 0), .null, .null, .null, .null, .null, .null, .null]))]) X hA hP hD hS hl.1 (c_X6_init l G H.size q60) (hNw.at 6 rfl) ⟨wd_156, wd_8, wd_155⟩ ⟨rfl, by decide, by decide, by decide +kernel⟩ ⟨rfl, rfl, Nat.le_of_ble_eq_true rfl, Nat.le_of_ble_eq_true rfl⟩ ⟨zP0_blind, fun U hU hW => ⟨rfl, by rw [hU], by rw [hU]; exact hPc, va_K.moved hW.alike hK, hDc.weaken (fun _ _ _ _ => trivial), hNw.warm hW⟩⟩ rfl (Nat.le_of_ble_eq_true rfl) dX8_init_64 ⟨Nat.le_of_ble_eq_true rfl, Nat.le_of_ble_eq_true rfl⟩ (fun a64 H locs ha hP hD hS => ?_)
  refine W.widen (k := 79) (n := 2997) (Nat.le_of_ble_eq_true rfl) (Nat.le_of_ble_eq_true rfl) ?_
  have hP9 := hP
  have hD9 := hD
  have hS9 := hS
  subst ha
  have hP := hP9
  have hD := hD9
  have hS := hS9
  have hP : va_P G.1 vwCl (((((([(q0, .inr (8, [.ref (a9 0), .ref (a20 0), .ref (a31.1 0), .ref (a42 0), .ref (a53 0), .null, .null]))] ++ (zPic G a9 pP0)) ++ (zPic G a20 pP0)) ++ (zPas G a31.1 a31.2 0 0 (fun _ => pP0))) ++ (zScr G a42 0 (fun _ => 0) 0)) ++ (zLam G a53 0 (fun _ => 0) (fun _ => 0))) ++ (zShd G a64 xX0)) _ := hP
  have hD : va_D _ (((((([(q0, .inr (8, [.ref (a9 0), .ref (a20 0), .ref (a31.1 0), .ref (a42 0), .ref (a53 0), .null, .null]))] ++ (zPic G a9 pP0)) ++ (zPic G a20 pP0)) ++ (zPas G a31.1 a31.2 0 0 (fun _ => pP0))) ++ (zScr G a42 0 (fun _ => 0) 0)) ++ (zLam G a53 0 (fun _ => 0) (fun _ => 0))) ++ (zShd G a64 xX0)) := hD
  refine va_putF (D := G.1) (ci := 8) (v := .ref (a64 0)) (ty := tyX8 5) (C := RX8) (T := TX8) (N := 7) hx hb hts inX8 tyX8 tyX8_ok nmX8 hown hK hP hD hS 0 rfl rfl 5 (by decide) (hts _ wd_311) (fun _ h9 => h9) rfl hin rfl (tyX8_ok 5 (by decide)) rfl rfl (Nat.le_of_ble_eq_true rfl) dX8_init_67 (fun H locs hP hD hS => ?_)
  have hP : va_P G.1 vwCl (((((([(q0, .inr (8, [.ref (a9 0), .ref (a20 0), .ref (a31.1 0), .ref (a42 0), .ref (a53 0), .ref (a64 0), .null]))] ++ (zPic G a9 pP0)) ++ (zPic G a20 pP0)) ++ (zPas G a31.1 a31.2 0 0 (fun _ => pP0))) ++ (zScr G a42 0 (fun _ => 0) 0)) ++ (zLam G a53 0 (fun _ => 0) (fun _ => 0))) ++ (zShd G a64 xX0)) _ := hP
  have hD : va_D _ (((((([(q0, .inr (8, [.ref (a9 0), .ref (a20 0), .ref (a31.1 0), .ref (a42 0), .ref (a53 0), .ref (a64 0), .null]))] ++ (zPic G a9 pP0)) ++ (zPic G a20 pP0)) ++ (zPas G a31.1 a31.2 0 0 (fun _ => pP0))) ++ (zScr G a42 0 (fun _ => 0) 0)) ++ (zLam G a53 0 (fun _ => 0) (fun _ => 0))) ++ (zShd G a64 xX0)) := hD
  refine lv_aload_n hx hb dX8_init_70 rfl (lv_at hl 0 rfl) ?_
  refine va_new (D := G.1) (ci := 2) (fs := [.null, .null]) (C := RX2) (T := TX2) (N := 2) hx hb hts inX2 tyX2 tyX2_ok hown (hts _ wd_187) (hts _ wd_188) (hts _ wd_9) hK hP hD hS hA rfl (fun j hj => by rcases (show j = 0 ∨ j = 1 by omega) with rfl | rfl <;> rfl) (Nat.le_of_ble_eq_true rfl) (Nat.le_of_ble_eq_true rfl) dX8_init_71 (fun q71 H hP hD hS => ?_)
  refine W.widen (k := 80) (n := 2999) (Nat.le_of_ble_eq_true rfl) (Nat.le_of_ble_eq_true rfl) ?_
  have hP : va_P G.1 vwCl ((((((([(q0, .inr (8, [.ref (a9 0), .ref (a20 0), .ref (a31.1 0), .ref (a42 0), .ref (a53 0), .ref (a64 0), .null]))] ++ (zPic G a9 pP0)) ++ (zPic G a20 pP0)) ++ (zPas G a31.1 a31.2 0 0 (fun _ => pP0))) ++ (zScr G a42 0 (fun _ => 0) 0)) ++ (zLam G a53 0 (fun _ => 0) (fun _ => 0))) ++ (zShd G a64 xX0)) ++ [(q71, .inr (2, [.null, .null]))]) _ := hP
  have hD : va_D _ ((((((([(q0, .inr (8, [.ref (a9 0), .ref (a20 0), .ref (a31.1 0), .ref (a42 0), .ref (a53 0), .ref (a64 0), .null]))] ++ (zPic G a9 pP0)) ++ (zPic G a20 pP0)) ++ (zPas G a31.1 a31.2 0 0 (fun _ => pP0))) ++ (zScr G a42 0 (fun _ => 0) 0)) ++ (zLam G a53 0 (fun _ => 0) (fun _ => 0))) ++ (zShd G a64 xX0)) ++ [(q71, .inr (2, [.null, .null]))]) := hD
  refine lv_dup hx hb dX8_init_74 rfl ?_
  have hPc : va_P G.1 vwCl [(q71, .inr (2, [.null, .null]))] H := va_P_mem.mpr (fun x hx => va_P_mem.mp hP x (List.mem_append_right _ hx))
  have hDc : va_D _ [(q71, .inr (2, [.null, .null]))] := (va_D_perm List.perm_append_comm hD : va_D _ ([(q71, .inr (2, [.null, .null]))] ++ (((((([(q0, .inr (8, [.ref (a9 0), .ref (a20 0), .ref (a31.1 0), .ref (a42 0), .ref (a53 0), .ref (a64 0), .null]))] ++ (zPic G a9 pP0)) ++ (zPic G a20 pP0)) ++ (zPas G a31.1 a31.2 0 0 (fun _ => pP0))) ++ (zScr G a42 0 (fun _ => 0) 0)) ++ (zLam G a53 0 (fun _ => 0) (fun _ => 0))) ++ (zShd G a64 xX0)))) |> va_D_left
  refine z_initN (wr := (((((([(q0, .inr (8, [.ref (a9 0), .ref (a20 0), .ref (a31.1 0), .ref (a42 0), .ref (a53 0), .ref (a64 0), .null]))] ++ (zPic G a9 pP0)) ++ (zPic G a20 pP0)) ++ (zPas G a31.1 a31.2 0 0 (fun _ => pP0))) ++ (zScr G a42 0 (fun _ => 0) 0)) ++ (zLam G a53 0 (fun _ => 0) (fun _ => 0))) ++ (zShd G a64 xX0))) (wc := [(q71, .inr (2, [.null, .null]))]) X hA hP hD hS hl.1 (c_X2_init l G H.size q71) (hNw.at 7 rfl) ⟨wd_191, wd_9, wd_190⟩ ⟨rfl, by decide, by decide, by decide +kernel⟩ ⟨rfl, rfl, Nat.le_of_ble_eq_true rfl, Nat.le_of_ble_eq_true rfl⟩ ⟨zP0_blind, fun U hU hW => ⟨rfl, by rw [hU], by rw [hU]; exact hPc, va_K.moved hW.alike hK, hDc.weaken (fun _ _ _ _ => trivial), hNw.warm hW⟩⟩ rfl (Nat.le_of_ble_eq_true rfl) dX8_init_75 ⟨Nat.le_of_ble_eq_true rfl, Nat.le_of_ble_eq_true rfl⟩ (fun a75 H locs ha hP hD hS => ?_)
  refine W.widen (k := 82) (n := 3161) (Nat.le_of_ble_eq_true rfl) (Nat.le_of_ble_eq_true rfl) ?_
  have hP9 := hP
  have hD9 := hD
  have hS9 := hS
  subst ha
  have hP := hP9
  have hD := hD9
  have hS := hS9
  have hP : va_P G.1 vwCl ((((((([(q0, .inr (8, [.ref (a9 0), .ref (a20 0), .ref (a31.1 0), .ref (a42 0), .ref (a53 0), .ref (a64 0), .null]))] ++ (zPic G a9 pP0)) ++ (zPic G a20 pP0)) ++ (zPas G a31.1 a31.2 0 0 (fun _ => pP0))) ++ (zScr G a42 0 (fun _ => 0) 0)) ++ (zLam G a53 0 (fun _ => 0) (fun _ => 0))) ++ (zShd G a64 xX0)) ++ (zLev G a75 (fun _ => 0) (fun _ => 0))) _ := hP
  have hD : va_D _ ((((((([(q0, .inr (8, [.ref (a9 0), .ref (a20 0), .ref (a31.1 0), .ref (a42 0), .ref (a53 0), .ref (a64 0), .null]))] ++ (zPic G a9 pP0)) ++ (zPic G a20 pP0)) ++ (zPas G a31.1 a31.2 0 0 (fun _ => pP0))) ++ (zScr G a42 0 (fun _ => 0) 0)) ++ (zLam G a53 0 (fun _ => 0) (fun _ => 0))) ++ (zShd G a64 xX0)) ++ (zLev G a75 (fun _ => 0) (fun _ => 0))) := hD
  refine va_putF (D := G.1) (ci := 8) (v := .ref (a75 0)) (ty := tyX8 6) (C := RX8) (T := TX8) (N := 7) hx hb hts inX8 tyX8 tyX8_ok nmX8 hown hK hP hD hS 0 rfl rfl 6 (by decide) (hts _ wd_312) (fun _ h9 => h9) rfl hin rfl (tyX8_ok 6 (by decide)) rfl rfl (Nat.le_of_ble_eq_true rfl) dX8_init_78 (fun H locs hP hD hS => ?_)
  have hP : va_P G.1 vwCl ((((((([(q0, .inr (8, [.ref (a9 0), .ref (a20 0), .ref (a31.1 0), .ref (a42 0), .ref (a53 0), .ref (a64 0), .ref (a75 0)]))] ++ (zPic G a9 pP0)) ++ (zPic G a20 pP0)) ++ (zPas G a31.1 a31.2 0 0 (fun _ => pP0))) ++ (zScr G a42 0 (fun _ => 0) 0)) ++ (zLam G a53 0 (fun _ => 0) (fun _ => 0))) ++ (zShd G a64 xX0)) ++ (zLev G a75 (fun _ => 0) (fun _ => 0))) _ := hP
  have hD : va_D _ ((((((([(q0, .inr (8, [.ref (a9 0), .ref (a20 0), .ref (a31.1 0), .ref (a42 0), .ref (a53 0), .ref (a64 0), .ref (a75 0)]))] ++ (zPic G a9 pP0)) ++ (zPic G a20 pP0)) ++ (zPas G a31.1 a31.2 0 0 (fun _ => pP0))) ++ (zScr G a42 0 (fun _ => 0) 0)) ++ (zLam G a53 0 (fun _ => 0) (fun _ => 0))) ++ (zShd G a64 xX0)) ++ (zLev G a75 (fun _ => 0) (fun _ => 0))) := hD
  have X8 := And.intro hx (And.intro hb (And.intro hml (And.intro hown (And.intro hts (And.intro hK (And.intro hSt hA))))))
  refine lv_aload_n hx hb dX8_init_81 rfl (lv_at hl 0 rfl) ?_
  refine va_get (D := G.1) (ci := 8) (v := .ref (a42 0)) (C := RX8) (T := TX8) (N := 7) hx hb hts inX8 hown hK hP 0 rfl rfl 3 (by decide) (hts _ wd_309) (fun _ h9 => h9) rfl dX8_init_82 ?_
  refine va_ldcS hx hb hown hVk dX8_init_85 ?_
  have hp1 : (((((((([(q0, .inr (8, [.ref (a9 0), .ref (a20 0), .ref (a31.1 0), .ref (a42 0), .ref (a53 0), .ref (a64 0), .ref (a75 0)]))] ++ (zPic G a9 pP0)) ++ (zPic G a20 pP0)) ++ (zPas G a31.1 a31.2 0 0 (fun _ => pP0))) ++ (zScr G a42 0 (fun _ => 0) 0)) ++ (zLam G a53 0 (fun _ => 0) (fun _ => 0))) ++ (zShd G a64 xX0)) ++ (zLev G a75 (fun _ => 0) (fun _ => 0))) : va_W).Perm ((zScr G a42 0 (fun _ => 0) 0) ++ (((((([(q0, .inr (8, [.ref (a9 0), .ref (a20 0), .ref (a31.1 0), .ref (a42 0), .ref (a53 0), .ref (a64 0), .ref (a75 0)]))] ++ (zPic G a9 pP0)) ++ (zPic G a20 pP0)) ++ (zPas G a31.1 a31.2 0 0 (fun _ => pP0))) ++ (zLam G a53 0 (fun _ => 0) (fun _ => 0))) ++ (zShd G a64 xX0)) ++ (zLev G a75 (fun _ => 0) (fun _ => 0)))) := z_perm (fun x => by simp only [List.countP_append]; omega)
  have hPc := va_P_left (va_P_perm hp1 hP)
  have hDp := va_D_perm hp1 hD
  have hDc := va_D_left hDp
  have hF := va_free_l hDp hS hA
  refine z_rawVv (As := [.ref qs]) (rest := []) (w2 := ((((((([(q0, .inr (8, [.ref (a9 0), .ref (a20 0), .ref (a31.1 0), .ref (a42 0), .ref (a53 0), .ref (a64 0), .ref (a75 0)]))] ++ (zPic G a9 pP0)) ++ (zPic G a20 pP0)) ++ (zPas G a31.1 a31.2 0 0 (fun _ => pP0))) ++ (zScr G a42 76 (sPut (fun _ => 0) 0 76 zTx) 0)) ++ (zLam G a53 0 (fun _ => 0) (fun _ => 0))) ++ (zShd G a64 xX0)) ++ (zLev G a75 (fun _ => 0) (fun _ => 0)))) (wc := (zScr G a42 0 (fun _ => 0) 0)) (w1 := (zScr G a42 76 (sPut (fun _ => 0) 0 76 zTx) 0)) (wr := (((((([(q0, .inr (8, [.ref (a9 0), .ref (a20 0), .ref (a31.1 0), .ref (a42 0), .ref (a53 0), .ref (a64 0), .ref (a75 0)]))] ++ (zPic G a9 pP0)) ++ (zPic G a20 pP0)) ++ (zPas G a31.1 a31.2 0 0 (fun _ => pP0))) ++ (zLam G a53 0 (fun _ => 0) (fun _ => 0))) ++ (zShd G a64 xX0)) ++ (zLev G a75 (fun _ => 0) (fun _ => 0)))) X hA hP hD hS hl.1 (c_X5_addAll l G H.size (a42 0) (a42 1) qs vs (fun _ => 0) 0 (fun _ => ⟨by decide, by decide⟩)) wd_202 kX5_addAll ⟨rfl, rfl, Nat.le_of_ble_eq_true rfl, Nat.le_of_ble_eq_true rfl⟩ ⟨zPs_blind, va_recv hK hPc (ci := 5) (q0 := 0) rfl rfl, fun U hU hW => ⟨rfl, by rw [hU], by rw [hU]; exact hPc, va_K.moved hW.alike hK, hSt.call hS hF hU hW, hDc.weaken (fun _ _ _ _ => trivial), hStr.call hS hF hU hW⟩⟩ hp1 (z_perm (fun x => by simp only [List.countP_append]; omega)) rfl rfl rfl (Nat.le_of_ble_eq_true rfl) dX8_init_87 ⟨Nat.le_of_ble_eq_true rfl, Nat.le_of_ble_eq_true rfl⟩ (fun H locs hP hD hS => ?_)
  refine lv_aload_n hx hb dX8_init_90 rfl (lv_at hl 0 rfl) ?_
  refine va_get (D := G.1) (ci := 8) (v := .ref (a42 0)) (C := RX8) (T := TX8) (N := 7) hx hb hts inX8 hown hK hP 0 rfl rfl 3 (by decide) (hts _ wd_309) (fun _ h9 => h9) rfl dX8_init_91 ?_
  refine lv_aload_n hx hb dX8_init_94 rfl (lv_at hl 0 rfl) ?_
  refine va_get (D := G.1) (ci := 8) (v := .ref (a9 0)) (C := RX8) (T := TX8) (N := 7) hx hb hts inX8 hown hK hP 0 rfl rfl 0 (by decide) (hts _ wd_306) (fun _ h9 => h9) rfl dX8_init_95 ?_
  have htx : ∀ k : Nat, 0 ≤ sPut (fun _ => 0) 0 76 zTx k ∧ sPut (fun _ => 0) 0 76 zTx k < 128 := fun k => by
    unfold sPut
    split
    · exact zTx_r _
    · exact (show (0 : Int) ≤ 0 ∧ (0 : Int) < 128 by decide)
  refine z_callVwp (rest := []) (w2 := ((((((([(q0, .inr (8, [.ref (a9 0), .ref (a20 0), .ref (a31.1 0), .ref (a42 0), .ref (a53 0), .ref (a64 0), .ref (a75 0)]))] ++ (zPic G a9 (kRd (sPut (fun _ => 0) 0 76 zTx) 76 200 (pClear pP0) 0 0).2.1)) ++ (zPic G a20 pP0)) ++ (zPas G a31.1 a31.2 0 0 (fun _ => pP0))) ++ (zScr G a42 76 (sPut (fun _ => 0) 0 76 zTx) (kRd (sPut (fun _ => 0) 0 76 zTx) 76 200 (pClear pP0) 0 0).2.2)) ++ (zLam G a53 0 (fun _ => 0) (fun _ => 0))) ++ (zShd G a64 xX0)) ++ (zLev G a75 (fun _ => 0) (fun _ => 0)))) (wc := ((zScr G a42 76 (sPut (fun _ => 0) 0 76 zTx) 0) ++ (zPic G a9 pP0))) (w1 := ((zScr G a42 76 (sPut (fun _ => 0) 0 76 zTx) (kRd (sPut (fun _ => 0) 0 76 zTx) 76 200 (pClear pP0) 0 0).2.2) ++ (zPic G a9 (kRd (sPut (fun _ => 0) 0 76 zTx) 76 200 (pClear pP0) 0 0).2.1))) (wr := ((((([(q0, .inr (8, [.ref (a9 0), .ref (a20 0), .ref (a31.1 0), .ref (a42 0), .ref (a53 0), .ref (a64 0), .ref (a75 0)]))] ++ (zPic G a20 pP0)) ++ (zPas G a31.1 a31.2 0 0 (fun _ => pP0))) ++ (zLam G a53 0 (fun _ => 0) (fun _ => 0))) ++ (zShd G a64 xX0)) ++ (zLev G a75 (fun _ => 0) (fun _ => 0)))) X8 hP hD hS hl.1 (c_X5_readInto l G _ (a42 0) (a42 1) 76 (sPut (fun _ => 0) 0 76 zTx) 0 a9 pP0 (by decide) htx pOK_0) wd_258 kX5_readInto ⟨rfl, rfl, Nat.le_of_ble_eq_true rfl, Nat.le_of_ble_eq_true rfl⟩ (z_perm (fun x => by simp only [List.countP_append]; omega)) (z_perm (fun x => by simp only [List.countP_append]; omega)) rfl 0 rfl rfl rfl rfl (Nat.le_of_ble_eq_true rfl) dX8_init_98 ⟨Nat.le_of_ble_eq_true rfl, Nat.le_of_ble_eq_true rfl⟩ (fun H locs hP hD hS => ?_)
  rw [hRD] at hP hD
  refine lv_pop hx hb dX8_init_101 rfl ?_
  refine lv_aload_n hx hb dX8_init_102 rfl (lv_at hl 0 rfl) ?_
  refine va_get (D := G.1) (ci := 8) (v := .ref (a42 0)) (C := RX8) (T := TX8) (N := 7) hx hb hts inX8 hown hK hP 0 rfl rfl 3 (by decide) (hts _ wd_309) (fun _ h9 => h9) rfl dX8_init_103 ?_
  refine z_callVwvp (rest := []) (w2 := ((((((([(q0, .inr (8, [.ref (a9 0), .ref (a20 0), .ref (a31.1 0), .ref (a42 0), .ref (a53 0), .ref (a64 0), .ref (a75 0)]))] ++ (zPic G a9 rD.2.1)) ++ (zPic G a20 pP0)) ++ (zPas G a31.1 a31.2 0 0 (fun _ => pP0))) ++ (zScr G a42 0 (sPut (fun _ => 0) 0 76 zTx) rD.2.2)) ++ (zLam G a53 0 (fun _ => 0) (fun _ => 0))) ++ (zShd G a64 xX0)) ++ (zLev G a75 (fun _ => 0) (fun _ => 0)))) (wc := (zScr G a42 76 (sPut (fun _ => 0) 0 76 zTx) rD.2.2)) (w1 := (zScr G a42 0 (sPut (fun _ => 0) 0 76 zTx) rD.2.2)) (wr := (((((([(q0, .inr (8, [.ref (a9 0), .ref (a20 0), .ref (a31.1 0), .ref (a42 0), .ref (a53 0), .ref (a64 0), .ref (a75 0)]))] ++ (zPic G a9 rD.2.1)) ++ (zPic G a20 pP0)) ++ (zPas G a31.1 a31.2 0 0 (fun _ => pP0))) ++ (zLam G a53 0 (fun _ => 0) (fun _ => 0))) ++ (zShd G a64 xX0)) ++ (zLev G a75 (fun _ => 0) (fun _ => 0)))) X8 hP hD hS hl.1 (c_X5_clear l G _ (a42 0) (a42 1) 76 (sPut (fun _ => 0) 0 76 zTx) rD.2.2 (by decide) htx) wd_302 kX5_clear ⟨rfl, rfl, Nat.le_of_ble_eq_true rfl, Nat.le_of_ble_eq_true rfl⟩ (z_perm (fun x => by simp only [List.countP_append]; omega)) (z_perm (fun x => by simp only [List.countP_append]; omega)) rfl 0 rfl rfl rfl rfl (Nat.le_of_ble_eq_true rfl) dX8_init_106 ⟨Nat.le_of_ble_eq_true rfl, Nat.le_of_ble_eq_true rfl⟩ (fun H locs hP hD hS => ?_)
  have hw : (((((((([(q0, .inr (8, [.ref (a9 0), .ref (a20 0), .ref (a31.1 0), .ref (a42 0), .ref (a53 0), .ref (a64 0), .ref (a75 0)]))] ++ (zPic G a9 rD.2.1)) ++ (zPic G a20 pP0)) ++ (zPas G a31.1 a31.2 0 0 (fun _ => pP0))) ++ (zScr G a42 0 (sPut (fun _ => 0) 0 76 zTx) rD.2.2)) ++ (zLam G a53 0 (fun _ => 0) (fun _ => 0))) ++ (zShd G a64 xX0)) ++ (zLev G a75 (fun _ => 0) (fun _ => 0))) : va_W) = [(q0, .inr (8, [.ref (a9 0), .ref (a20 0), .ref (a31.1 0), .ref (a42 0), .ref (a53 0), .ref (a64 0), .ref (a75 0)]))] ++ ((zPic G a9 rD.2.1) ++ ((zPic G a20 pP0) ++ ((zPas G a31.1 a31.2 0 0 (fun _ => pP0)) ++ ((zScr G a42 0 (sPut (fun _ => 0) 0 76 zTx) rD.2.2) ++ ((zLam G a53 0 (fun _ => 0) (fun _ => 0)) ++ ((zShd G a64 xX0) ++ (zLev G a75 (fun _ => 0) (fun _ => 0)))))))) := by simp only [List.append_assoc]
  have hP := z_castP hw hP
  have hD := z_castD hw hD
  exact z_reti (fun i => match i with | 0 => (fun _ => q0) | 1 => a9 | 2 => a20 | 3 => a31.1 | 4 => a42 | 5 => a53 | 6 => a64 | 7 => a75 | n + 8 => a31.2 n) hx hb hr hlocks rfl hP hD hS dX8_init_109
