theorem bg_rel {rD : Int × pT × Int} (hRD : kRd (sPut (fun _ => 0) 0 76 zTx) 76 200 (pClear pP0) 0 0 = rD) : lRel 0 (sPut (fun _ => 0) 0 76 zTx) rD.2.1 pP0 0 0 (fun _ => pP0) (fun _ => 0) (fun _ => 0) xX0 (fun _ => 0) (fun _ => 0) 0 0 (fun _ => 0) mNow0 (fun _ => 0) (fun _ => 0) (fun _ => 0) := by
  refine ⟨⟨⟨by decide, by decide⟩, rfl, fun k => ?_, fun _ => (show (0 : Int) ≤ 0 ∧ (0 : Int) < 128 by decide), fun k h => absurd h (by omega)⟩, (ini_pic hRD).1, pOK_0, ⟨⟨by decide, by decide⟩, ⟨by decide, by decide⟩, rfl, fun _ => pOK_0, fun k h => absurd h (by omega)⟩, ⟨fun _ => (show (-36 : Int) ≤ 0 ∧ (0 : Int) ≤ 36 by decide), fun _ => (show (0 : Int) ≤ 0 ∧ (0 : Int) < 8 by decide), fun _ => (show (-36 : Int) ≤ 0 ∧ (0 : Int) ≤ 36 by decide), fun _ => (show (0 : Int) ≤ 0 ∧ (0 : Int) < 8 by decide)⟩, ⟨(show (0 : Int) ≤ 0 ∧ (0 : Int) ≤ 37 by decide), fun _ => (show (0 : Int) ≤ 0 ∧ (0 : Int) ≤ 37 by decide), rfl, rfl⟩, fun _ => (show (0 : Int) ≤ 0 ∧ (0 : Int) ≤ 1 by decide), fun _ => (show (0 : Int) ≤ 0 ∧ (0 : Int) < 81 by decide)⟩
  have q := sPut_r (g := (fun _ => 0)) (f := zTx) (a := 0) (j := 76) (lo := 0) (hi := 127) (fun _ => (show (0 : Int) ≤ 0 ∧ (0 : Int) ≤ 127 by decide)) (fun i _ => by have q := zTx_r i; omega) k
  omega
set_option maxRecDepth 100000 in
theorem bg_lw (G : zG) (A : Nat → Nat → Nat) (a : Nat → Nat) (rD : Int × pT × Int) : (zCW G A ((0, (sPut (fun _ => 0) 0 76 zTx), rD.2.2), (rD.2.1, 0, 0, fun _ => pP0), pP0, (0, (fun _ => 0), (fun _ => 0)), xX0, ((fun _ => 0), (fun _ => 0)))) ++ (zMW G a 0 0 0 0 0 0 0 (fun _ => 0) mNow0 (fun _ => 0) (fun _ => 0) (fun _ => 0) (fun _ => 0) (fun _ => 0) (fun _ => 0) (fun _ => 0) (fun _ => 0) (fun _ => 0)) = lwW G A a 0 (sPut (fun _ => 0) 0 76 zTx) rD.2.2 rD.2.1 pP0 0 0 (fun _ => pP0) 0 (fun _ => 0) (fun _ => 0) xX0 (fun _ => 0) (fun _ => 0) 0 0 0 0 0 0 0 (fun _ => 0) mNow0 (fun _ => 0) (fun _ => 0) (fun _ => 0) (fun _ => 0) (fun _ => 0) (fun _ => 0) (fun _ => 0) (fun _ => 0) (fun _ => 0) := rfl
set_option maxHeartbeats 4000000 in
set_option maxRecDepth 100000 in
theorem whole_start {p : Program} {e : Env} {s : State} {m : MethodId} {below : List Frame} {meth : Method} {c : Code} (l : Launch) (hflags : l.flags = flags0) {b L : Nat} {xs : Nat → Int32} (hL : L ≤ 2048) (C0 : lw_At p s m meth c b L xs) : W p l e room_1 s m #[Value.ref b] below meth c s.heap [] 0 0 (lw_Z below #[Value.ref b] s) (entryFrame m ([Value.ref b] : List Value).toArray 4) := by
  obtain ⟨hx, hb, hr, hml, hown, hts, hX, hbl, hlocks, hgv⟩ := C0
  have hb : c.code = cL_law := hb
  have hs := flat_of_before _ hgv
  have hz : ∀ w ∈ zT, w.before #[Value.ref b] s = true := fun w h => hts w (zt_in h)
  obtain ⟨G, hK⟩ := bg_K hts
  have hSt := bg_St hts hs
  have hNw := bg_Nw hts
  obtain ⟨qs, vs, hStr, hVk⟩ := bg_Str hts hs
  have hA : ∀ q : Nat, s.heap.size ≤ q → (fun q : Nat => s.heap.size ≤ q) q := fun _ h => h
  have C : lwC p s m meth c b L xs G := ⟨⟨hx, hb, hml, hown, hz, hK, hSt, hA⟩, hX, hbl, hL, hr, hlocks⟩
  have hS : va_S (fun q => s.heap.size ≤ q) s.heap s.heap [] := va_S.rf
  have hP : va_P G.1 vwCl [] s.heap := va_P_mem.mpr (fun q h => absurd h List.not_mem_nil)
  have hD : va_D (fun q => s.heap.size ≤ q) ([] : va_W) := va_D_nd.mpr ⟨List.nodup_nil, fun q h => absurd h List.not_mem_nil⟩
  obtain ⟨rD, hRD⟩ : ∃ r, kRd (sPut (fun _ => 0) 0 76 zTx) 76 200 (pClear pP0) 0 0 = r := ⟨_, rfl⟩
  have X := And.intro hx (And.intro hb (And.intro hml (And.intro hown hz)))
  have hl := lv_entry ([.ref b]) (n := 4) (Nat.le_of_ble_eq_true rfl)
  rw [lg_entry_eq]
  generalize (lg_sl ([.ref b]) ++ List.replicate (4 - (lg_sl ([.ref b])).length) Slot.unset).toArray = ls at hl ⊢
  have hl : lv_has ls 4 [(0, .ref b)] := hl
  refine va_new (D := G.1) (ci := 8) (fs := [.null, .null, .null, .null, .null, .null, .null]) (C := RX8) (T := TX8) (N := 7) hx hb hz inX8 tyX8 tyX8_ok hown (hz _ wd_17) (hz _ wd_18) (hz _ wd_1) hK hP hD hS hA rfl (fun j hj => by rcases (show j = 0 ∨ j = 1 ∨ j = 2 ∨ j = 3 ∨ j = 4 ∨ j = 5 ∨ j = 6 by omega) with rfl | rfl | rfl | rfl | rfl | rfl | rfl <;> rfl) (Nat.le_of_ble_eq_true rfl) (Nat.le_of_ble_eq_true rfl) dL_law_0 (fun q1 H hP hD hS => ?_)
  refine W.widen (k := 1) (n := 7) (Nat.le_of_ble_eq_true rfl) (Nat.le_of_ble_eq_true rfl) ?_
  have hP : va_P G.1 vwCl ([] ++ [(q1, .inr (8, [.null, .null, .null, .null, .null, .null, .null]))]) H := hP
  have hD : va_D (fun q => s.heap.size ≤ q) ([] ++ [(q1, .inr (8, [.null, .null, .null, .null, .null, .null, .null]))]) := hD
  refine lv_dup hx hb dL_law_3 rfl ?_
  have hPc : va_P G.1 vwCl [(q1, .inr (8, [.null, .null, .null, .null, .null, .null, .null]))] H := hP
  have hDc : va_D (fun q => s.heap.size ≤ q) [(q1, .inr (8, [.null, .null, .null, .null, .null, .null, .null]))] := hD
  have hF : ∀ q, va_A [(q1, .inr (8, [.null, .null, .null, .null, .null, .null, .null]))] H.size q → (fun q : Nat => s.heap.size ≤ q) q := fun q h => by
    rcases h with ⟨k, e, h⟩ | h
    · exact hDc.2 k (q, e) h
    · exact Nat.le_trans hS.1 h
  refine z_initS (wr := []) (wc := [(q1, .inr (8, [.null, .null, .null, .null, .null, .null, .null]))]) X hA hP hD hS hl.1 (c_X8_init l G H.size q1 qs vs rD hRD) wd_19 ⟨wd_21, wd_1, wd_20⟩ ⟨rfl, by decide, by decide, by decide +kernel⟩ ⟨rfl, rfl, Nat.le_of_ble_eq_true rfl, Nat.le_of_ble_eq_true rfl⟩ ⟨zP8_blind, fun U hU hW => ⟨rfl, by rw [hU], by rw [hU]; exact hPc, va_K.moved hW.alike hK, hDc.weaken (fun _ _ _ _ => trivial), hNw.warm hW, hSt.call hS hF hU hW, hStr.call hS hF hU hW, hVk.warm hW⟩⟩ rfl (Nat.le_of_ble_eq_true rfl) dL_law_4 ⟨Nat.le_of_ble_eq_true rfl, Nat.le_of_ble_eq_true rfl⟩ (fun A H locs ha hP9 hD9 hS9 => ?_)
  have ha : A 0 0 = q1 := ha
  subst ha
  clear hPc hDc hF
  have hP : va_P G.1 vwCl (zCW G A ((0, (sPut (fun _ => 0) 0 76 zTx), rD.2.2), (rD.2.1, 0, 0, fun _ => pP0), pP0, (0, (fun _ => 0), (fun _ => 0)), xX0, ((fun _ => 0), (fun _ => 0)))) H := hP9
  have hD : va_D (fun q => s.heap.size ≤ q) (zCW G A ((0, (sPut (fun _ => 0) 0 76 zTx), rD.2.2), (rD.2.1, 0, 0, fun _ => pP0), pP0, (0, (fun _ => 0), (fun _ => 0)), xX0, ((fun _ => 0), (fun _ => 0)))) := hD9
  have hS := hS9
  refine W.widen (k := 90) (n := 3500) (Nat.le_of_ble_eq_true rfl) (Nat.le_of_ble_eq_true rfl) ?_
  refine lv_astore_n hx hb dL_law_7 rfl hl (by decide) rfl (fun ls hl => ?_)
  refine va_new (D := G.1) (ci := 9) (fs := [.int (iV 0), .null, .int (iV 0), .null, .null, .null, .int (iV 0), .int (iV 0), .int (iV 0), .int (iV 0), .null, .null, .null, .null, .int (iV 0), .null, .null, .null]) (C := RX9) (T := TX9) (N := 18) hx hb hz inX9 tyX9 tyX9_ok hown (hz _ wd_744) (hz _ wd_745) (hz _ wd_14) hK hP hD hS hA rfl (fun j hj => by rcases (show j = 0 ∨ j = 1 ∨ j = 2 ∨ j = 3 ∨ j = 4 ∨ j = 5 ∨ j = 6 ∨ j = 7 ∨ j = 8 ∨ j = 9 ∨ j = 10 ∨ j = 11 ∨ j = 12 ∨ j = 13 ∨ j = 14 ∨ j = 15 ∨ j = 16 ∨ j = 17 by omega) with rfl | rfl | rfl | rfl | rfl | rfl | rfl | rfl | rfl | rfl | rfl | rfl | rfl | rfl | rfl | rfl | rfl | rfl <;> rfl) (Nat.le_of_ble_eq_true rfl) (Nat.le_of_ble_eq_true rfl) dL_law_8 (fun q2 H hP hD hS => ?_)
  refine W.widen (k := 91) (n := 3520) (Nat.le_of_ble_eq_true rfl) (Nat.le_of_ble_eq_true rfl) ?_
  refine lv_dup hx hb dL_law_11 rfl ?_
  have hPc : va_P G.1 vwCl [(q2, .inr (9, [.int (iV 0), .null, .int (iV 0), .null, .null, .null, .int (iV 0), .int (iV 0), .int (iV 0), .int (iV 0), .null, .null, .null, .null, .int (iV 0), .null, .null, .null]))] H := va_P_mem.mpr (fun x hx => va_P_mem.mp hP x (List.mem_append_right _ hx))
  have hDc : va_D (fun q => s.heap.size ≤ q) [(q2, .inr (9, [.int (iV 0), .null, .int (iV 0), .null, .null, .null, .int (iV 0), .int (iV 0), .int (iV 0), .int (iV 0), .null, .null, .null, .null, .int (iV 0), .null, .null, .null]))] := va_D_left (va_D_perm List.perm_append_comm hD)
  have hF : ∀ q, va_A [(q2, .inr (9, [.int (iV 0), .null, .int (iV 0), .null, .null, .null, .int (iV 0), .int (iV 0), .int (iV 0), .int (iV 0), .null, .null, .null, .null, .int (iV 0), .null, .null, .null]))] H.size q → (fun q : Nat => s.heap.size ≤ q) q := fun q h => by
    rcases h with ⟨k, e, h⟩ | h
    · exact hDc.2 k (q, e) h
    · exact Nat.le_trans hS.1 h
  refine z_initS (wr := (zCW G A ((0, (sPut (fun _ => 0) 0 76 zTx), rD.2.2), (rD.2.1, 0, 0, fun _ => pP0), pP0, (0, (fun _ => 0), (fun _ => 0)), xX0, ((fun _ => 0), (fun _ => 0))))) (wc := [(q2, .inr (9, [.int (iV 0), .null, .int (iV 0), .null, .null, .null, .int (iV 0), .int (iV 0), .int (iV 0), .int (iV 0), .null, .null, .null, .null, .int (iV 0), .null, .null, .null]))]) X hA hP hD hS hl.1 (c_X9_init l G H.size q2) wd_746 ⟨wd_748, wd_14, wd_747⟩ ⟨rfl, by decide, by decide, by decide +kernel⟩ ⟨rfl, rfl, Nat.le_of_ble_eq_true rfl, Nat.le_of_ble_eq_true rfl⟩ ⟨zPw_blind, fun U hU hW => ⟨rfl, by rw [hU], by rw [hU]; exact hPc, va_K.moved hW.alike hK, hSt.call hS hF hU hW, hDc.weaken (fun _ _ _ _ => trivial)⟩⟩ rfl (Nat.le_of_ble_eq_true rfl) dL_law_12 ⟨Nat.le_of_ble_eq_true rfl, Nat.le_of_ble_eq_true rfl⟩ (fun a H locs ha hP9 hD9 hS9 => ?_)
  have ha : a 0 = q2 := ha
  subst ha
  clear hPc hDc hF
  refine lv_astore_n hx hb dL_law_15 rfl hl (by decide) rfl (fun ls hl => ?_)
  refine lv_iconst (v := iV 0) hx hb dL_law_16 (by decide) ?_
  refine lv_istore_n hx hb dL_law_17 rfl hl (by decide) rfl (fun ls hl => ?_)
  refine W.widen (k := 110) (n := 7000) (Nat.le_of_ble_eq_true rfl) (Nat.le_of_ble_eq_true rfl) ?_
  have hP : va_P G.1 vwCl (lwW G A a 0 (sPut (fun _ => 0) 0 76 zTx) rD.2.2 rD.2.1 pP0 0 0 (fun _ => pP0) 0 (fun _ => 0) (fun _ => 0) xX0 (fun _ => 0) (fun _ => 0) 0 0 0 0 0 0 0 (fun _ => 0) mNow0 (fun _ => 0) (fun _ => 0) (fun _ => 0) (fun _ => 0) (fun _ => 0) (fun _ => 0) (fun _ => 0) (fun _ => 0) (fun _ => 0)) H := by rw [← bg_lw]; exact hP9
  have hD : va_D (fun q => s.heap.size ≤ q) (lwW G A a 0 (sPut (fun _ => 0) 0 76 zTx) rD.2.2 rD.2.1 pP0 0 0 (fun _ => pP0) 0 (fun _ => 0) (fun _ => 0) xX0 (fun _ => 0) (fun _ => 0) 0 0 0 0 0 0 0 (fun _ => 0) mNow0 (fun _ => 0) (fun _ => 0) (fun _ => 0) (fun _ => 0) (fun _ => 0) (fun _ => 0) (fun _ => 0) (fun _ => 0) (fun _ => 0)) := by rw [← bg_lw]; exact hD9
  exact law_loop C (L + 1) 0 (Nat.zero_le _) (by omega) 0 (sPut (fun _ => 0) 0 76 zTx) rD.2.2 rD.2.1 pP0 0 0 (fun _ => pP0) 0 (fun _ => 0) (fun _ => 0) xX0 (fun _ => 0) (fun _ => 0) 0 0 0 0 0 0 0 (fun _ => 0) mNow0 (fun _ => 0) (fun _ => 0) (fun _ => 0) (fun _ => 0) (fun _ => 0) (fun _ => 0) (fun _ => 0) (fun _ => 0) (fun _ => 0) H locs (bg_rel hRD) hP hD hS9 ls (lv_sub hl [3, 2, 1, 0] rfl)
set_option maxHeartbeats 4000000 in
theorem lw_walk (l : Launch) (hflags : l.flags = flags0) (b : Addr) (xs : List Int32) : MetFree l x (headSpec (Jvm.Cond.code x code maxLocals ret :: tables_1) room_1) (lw_P b xs) (fun _ _ _ _ _ => True) lw_Q := by
  refine MetFree.of_bodyS (code := code) (maxLocals := maxLocals) (ret := ret) (by decide) ?_ ?_
  · intro args s m h hn
    obtain ⟨meth, c, h1, h2, h3, h4, h5, h6, -, -⟩ := Cond.code_spec hn (atoms_spec (ws := Jvm.Cond.code x code maxLocals ret :: tables_1) h _ List.mem_cons_self)
    exact ⟨meth, c, h1, h2, h3, h4, h5, h6⟩
  · intro p e s m args below meth c s₁ B hml0 hP _
    obtain ⟨rfl, hx, hbd, hgv⟩ := hP
    obtain ⟨scr, harrAt, hlist, hof, hsmall⟩ := hx
    obtain ⟨hcb, hkn, -, -⟩ := State.arrayAt?_spec harrAt
    have hown : s.vm.findClass R_law = some m.cls := findClass_of_methodNamed B.named
    have hts0 : ∀ c ∈ (Jvm.Cond.code x code maxLocals ret :: tables_1), c.before #[Value.ref b] s = true := atoms_spec (ws := Jvm.Cond.code x code maxLocals ret :: tables_1) B.pre
    have hts : ∀ w ∈ lw_tbl, w.before #[Value.ref b] s = true := k2_hts_sels lw_privs (fun w hw => hts0 w (List.mem_cons_of_mem _ hw)) lw_privs_ok
    have hml : c.maxLocals = 4 := B.maxLocals_eq (hts0 _ List.mem_cons_self)
    have X₀ : Stand p l e room_1 s m #[Value.ref b] below meth c s₁ [] 0 0 := Stand.of_body B
    have hh0 : s₁.heap = s.heap := by rw [B.state]; rfl
    have hsz : scr.slots.size = xs.length := by rw [← Array.length_toList, hlist, List.length_map]
    have hval : ∀ j : Nat, j < xs.length → scr.slots[j]? = some (.int (xs.getD j 0)) := fun j hj => by
      rw [← Array.getElem?_toList, hlist]
      simp [hj]
    have hbl : b < s.heap.size := (Array.getElem?_eq_some_iff.mp hcb).1
    have hX : va_X b xs.length (fun j => xs.getD j 0) s s.heap := ⟨scr, hcb, hof, hkn, hsz, hval⟩
    have K : W p l e room_1 s m #[Value.ref b] below meth c s₁.heap [] 0 0 (lw_Z below #[Value.ref b] s) (entryFrame m ([Value.ref b] : List Value).toArray 4) := by
      rw [hh0]
      exact whole_start l hflags hbd ⟨B.exec, B.bytes, B.returns, hml, hown, hts, hX, hbl, B.notSynchronized, hgv⟩
    obtain ⟨t, a1, o, b1, b2, b3⟩ := K s₁ rfl X₀
    exact ⟨t, o, a1, b1, b2, b3⟩
theorem lw_pre_spec {args : Array Value} {s : State} (h : (Jvm.Cond.and given_1 narrow_1).before args s = true) (hr : rest_1_c.before args s = true) : ∃ (b : Addr) (xs : List Int32), lw_P b xs args s := by
  have hs := flat_of_before _ h
  have hq := flat_of_before _ hr
  have hc : (Cond.count 1).before args s = true := hs _ (by decide +kernel)
  have harr : (Cond.arrayOf (.arg 0) .int).before args s = true := hs _ (by decide +kernel)
  have hle : (Cond.le (.length (.arg 0)) (.int 2048)).before args s = true := hs _ (by decide +kernel)
  have hlen : (Cond.isInt (.length (.arg 0))).before args s = true := hq _ (by decide +kernel)
  have hall : (Cond.all (.arg 0) (.isInt (.elem (.arg 0) (.index 0)))).before args s = true := hq _ (by decide +kernel)
  obtain ⟨b, xs, hb, hx⟩ := State.ints_of_pre rfl harr hlen hall
  have hsm : xs.length < 2 ^ 31 := hx.choose_spec.2.2.2
  have hev : (Term.length (.arg 0)).eval args s none [] s = some (.int xs.length.toInt32) := hx.length_eval hb
  have hv := Cond.le_ints hev (show (Term.int 2048).eval args s none [] s = some (.int 2048) from rfl)
  have hd : xs.length.toInt32 ≤ 2048 := by
    simpa [Cond.before, Cond.holds, hv] using hle
  have hN : xs.length ≤ 2048 := (Int32.ofNat_le_ofNat hsm (by decide)).mp (show Int32.ofNat xs.length ≤ Int32.ofNat 2048 from hd)
  exact ⟨b, xs, Cond.one_arg hc (show args[0]? = some (.ref b) from hb), hx, hN, h⟩
theorem lw_comes (l : Launch) (hflags : l.flags = flags0) : Comes l x (Jvm.Cond.code x code maxLocals ret :: tables_1) room_1 (fun tb e args s => Calls_1 tb e args s ∧ rest_1 tb e args s ∧ Pre_1 tb e args s)
    (fun _ _ args s o t => lw_Q args s o t) := by
  intro p e ha hc hk s m args below hf hfit hheap happ hpre
  obtain ⟨b, xs, hP⟩ := lw_pre_spec hpre.2.2 hpre.2.1
  obtain ⟨k, o, h1, h2, h3, hQ⟩ := lw_walk l hflags b xs p e ha hc hk s m args below hf ((Spec.applies_iff_loose hf).mp happ).1 hP trivial
  exact ⟨k, o, h1, h2, h3, hQ⟩
theorem lw_frame {s t : State} {o : Outcome} {args : Array Value} (h : Framed s o t [] 600000 7302250) :
    Framed s o t (fieldLocs frame_1_writes args s ++ arrayLocs frame_1_arrays args s ++ staticLocs frame_1_statics s) 600000 7302250 := h
theorem lw_limb (L : Cond) (hL : ∀ (args : Array Value) (s t : State), L.after args s (.returned (some (.int 1))) t = true) :
    ArmFor flags0 classFile x code maxLocals ret World_1 tables_1 room_1 Calls_1 rest_1 Pre_1
      (fun tb e a s o t => postC L tb e a s o t ∧ Framed s o t (fieldLocs frame_1_writes a s ++ arrayLocs frame_1_arrays a s ++ staticLocs frame_1_statics s) 600000 7302250) := by
  intro l hflags _ _ p e ha hc hk s m args below hf hfit hheap happ hpre
  obtain ⟨k, o, h1, h2, h3, rfl, hF⟩ := lw_comes l hflags p e ha hc hk s m args below hf hfit hheap happ hpre
  exact ⟨k, _, h1, h2, h3, hL args s _, lw_frame hF⟩
theorem i_vc : Claimed_1_1 ∧ Claimed_1_2 := ⟨lw_limb limb_1_1 (fun args s t => by simp [limb_1_1, Cond.after, Cond.holds, Cond.value]), lw_limb limb_1_2 (fun args s t => Cond.after_iff.mpr (by
  first | (rw [show limb_1_2 = Cond.eq .result (.int 1) from rfl, Cond.eq_ints (x := 1) (y := 1) rfl rfl]; simp; done) | (simp [limb_1_2, Cond.value, Term.eval]; done)))⟩
