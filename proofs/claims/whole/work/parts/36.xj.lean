/-! what lies ready: the text of the class, the statics that its reading asks -/
def zTl : List Int := [103, 55, 55, 59, 114, 48, 48, 49, 50, 49, 48, 48, 59, 114, 48, 49, 51, 53, 51, 49, 48, 59, 114, 49, 50, 53, 56, 53, 50, 49, 59, 114, 49, 51, 54, 57, 54, 51, 49, 59, 114, 48, 50, 53, 55, 53, 50, 48, 59, 114, 48, 49, 51, 52, 51, 49, 48, 59, 114, 48, 48, 49, 49, 49, 48, 48, 59, 108, 55, 48, 48, 55, 59, 115, 52, 59]
def zTx (k : Nat) : Int := zTl.getD k 0
theorem zTx_r (k : Nat) : 0 ≤ zTx k ∧ zTx k < 128 := by
  have h : ∀ z ∈ zTl, 0 ≤ z ∧ z < 128 := by decide
  unfold zTx
  rw [List.getD_eq_getElem?_getD]
  cases hk : zTl[k]? with
  | none => simp
  | some z => simpa using h z (List.mem_of_getElem? hk)
def zStr (q v : Nat) (A : Nat → Prop) (U : State) (H : Heap) : Prop := va_O "java/lang/String" q A U H ∧ va_OF "java/lang/String" "coder" "B" (.int (iV 0)) q A U H ∧ va_OF "java/lang/String" "value" "[B" (.ref v) q A U H ∧ va_T .byte v 76 (fun j => .int (iV (zTx j))) A U H ∧ va_Z "java/lang/String" "COMPACT_STRINGS" "Z" (.int (iV 1)) A U H ∧ va_Zq "jdk/internal/util/Preconditions" "SIOOBE_FORMATTER" "Ljava/util/function/BiFunction;" A U H
theorem zStr.moved {q v : Nat} {A : Nat → Prop} {u U : State} {H : Heap} (hvm : u.vm.Alike U.vm) (h : zStr q v A u H) : zStr q v A U H := by
  obtain ⟨h1, h2, h3, h4, h5, h6⟩ := h
  exact ⟨va_O.moved hvm h1, va_OF.moved hvm h2, va_OF.moved hvm h3, va_T.moved hvm h4, va_Z.moved hvm h5, va_Zq.moved hvm h6⟩
theorem zStr.same {q v : Nat} {A : Nat → Prop} {u U : State} {H : Heap} (hvm : u.vm = U.vm) (h : zStr q v A u H) : zStr q v A U H := zStr.moved (by rw [hvm]; exact Vm.Alike.refl _) h
theorem zStr.call {q v : Nat} {A0 A1 : Nat → Prop} {s U : State} {H : Heap} {locs : List Loc} (h : zStr q v A0 s s.heap) (hS : va_S A0 s.heap H locs) (hA : ∀ q, A1 q → A0 q) (hU : U.heap = H) (hW : s.WarmedH U.vm) : zStr q v A1 U U.heap := by
  rw [hU]
  obtain ⟨h1, h2, h3, h4, h5, h6⟩ := h
  exact zStr.moved hW.alike ⟨(h1.kept hS.2.1).narrow hA, (h2.kept hS.2.1).narrow hA, (h3.kept hS.2.1).narrow hA, (h4.kept hS.2.1).narrow hA, (h5.kept hS.2.1).narrow hA, (h6.kept hS.2.1).narrow hA⟩
def zPj (av : List Value) (q v sz : Nat) : Array Value → State → Prop := va_Pc av (fun U => U.heap.size = sz ∧ zStr q v (fun a => sz ≤ a) U U.heap)
theorem zPj_blind {av : List Value} {q v sz : Nat} : FrameBlind (zPj av q v sz) := fun a U g mk z => by
  obtain ⟨q0, q1, qS⟩ := z
  exact ⟨q0, q1, zStr.same (u := U) (U := U.calling g mk a) rfl qS⟩
def zPz (av : List Value) (sz : Nat) : Array Value → State → Prop := va_Pc av (fun U => U.heap.size = sz)
theorem zPz_blind {av : List Value} {sz : Nat} : FrameBlind (zPz av sz) := fun a U g mk z => by
  obtain ⟨q0, q1⟩ := z
  exact ⟨q0, q1⟩
def zQn (sz : Nat) : Array Value → State → Outcome → State → Prop := va_Qv (fun (_ : Unit) => True) (fun _ _ => True) (fun q => sz ≤ q)
section ZJ
variable {p : Program} {l : Launch} {e : Env} {R : Room} {s : State} {m : MethodId} {args : Array Value} {below : List Frame} {meth : Method} {c : Code} {H : Heap} {locs : List Loc} {cells slots : Nat} {Q : State → Prop}
variable {cc : ByteArray} {pc : Nat} {ls : Array Slot} {rest : List Value} {G : zG} {A : Nat → Prop}
theorem z_rawV {own C : String} {index : Nat} {y : MethodName} {bytes : ByteArray} {maxL nL n : Nat} {ret : Option FieldType} {rm : Room} {As st : List Value} {Pc : Array Value → State → Prop} {E : Int} {b : Nat}
    (X : p.tables.exec = Jvm.exec ∧ c.code = cc ∧ c.maxLocals = nL ∧ s.vm.findClass own = some m.cls ∧ (∀ w ∈ zT, w.before args s = true)) (hA : ∀ q, s.heap.size ≤ q → A q) (hS : va_S A s.heap H locs) (hls : ls.size = nL)
    (hM : Met l y (Cond.code y bytes maxL ret :: zT) rm Pc (zQr E H.size) 0 0 (zF H.size))
    (hlink : Cond.methodLink own index y ∈ zT) (hm : zM C y bytes maxL ret n)
    (hR : rm.cells = 0 ∧ rm.slots = 0 ∧ rm.frames + 1 ≤ R.frames ∧ 8 + (maxL + 11) + rm.locals ≤ R.locals)
    (hp : PreV s H C b Pc As)
    (hn : As.length = n) (hst : st = As.reverse ++ .ref b :: rest) (hrest : (rest.map fun v => v.category).sum ≤ 8)
    (hdg : decode cc pc = .ok (.invokevirtual index, 3)) (hcs : cells ≤ R.cells ∧ slots ≤ R.slots)
    (kk : ∀ (H1 : Heap) (locs1 : List Loc), (∀ q : Nat, q < H.size → H1[q]? = H[q]?) → va_S A s.heap H1 locs1 → W p l e R s m args below meth c H1 locs1 cells slots Q (F0 m (pc + 3) ls (.int (iV E) :: rest))) : W p l e R s m args below meth c H locs cells slots Q (F0 m pc ls st) := by
  subst hst
  obtain ⟨hx, hb, hml, hown, hts⟩ := X
  have hF : ∀ q, zF H.size q → A q := fun q h => hA q (Nat.le_trans hS.1 h)
  refine va_calli (va_runV (As := As) (rest := rest) ⟨hx, hb, hml, hown, hts⟩ hM (zcwV hts hlink hm hR.1 hR.2.1 hR.2.2) hp rfl hn hls rfl (lv_room hrest) hdg hcs) hS (fun q _ h => hF q h) hF (fun r u t H1 locs1 ht hvm hw hB hz hk hS1 => ?_)
  have hr : r = iV E := hw
  subst hr
  exact kk H1 locs1 (fun q hq => hk q hq (by show ¬ (H.size ≤ q); omega)) hS1
theorem z_rawS {own C : String} {index : Nat} {y : MethodName} {bytes : ByteArray} {maxL nL n : Nat} {ret : Option FieldType} {rm : Room} {As st : List Value} {Pc : Array Value → State → Prop} {E : Int}
    (X : p.tables.exec = Jvm.exec ∧ c.code = cc ∧ c.maxLocals = nL ∧ s.vm.findClass own = some m.cls ∧ (∀ w ∈ zT, w.before args s = true)) (hA : ∀ q, s.heap.size ≤ q → A q) (hS : va_S A s.heap H locs) (hls : ls.size = nL)
    (hM : Met l y (Cond.code y bytes maxL ret :: zT) rm Pc (zQr E H.size) 0 0 (zF H.size))
    (hlink : Cond.methodLink own index y ∈ zT) (hm : zMs C y bytes maxL ret n)
    (hR : rm.cells = 0 ∧ rm.slots = 0 ∧ rm.frames + 1 ≤ R.frames ∧ 8 + (maxL + 11) + rm.locals ≤ R.locals)
    (hp : PreS s H Pc As)
    (hn : As.length = n) (hst : st = As.reverse ++ rest) (hrest : (rest.map fun v => v.category).sum ≤ 8)
    (hdg : decode cc pc = .ok (.invokestatic index, 3)) (hcs : cells ≤ R.cells ∧ slots ≤ R.slots)
    (kk : ∀ (H1 : Heap) (locs1 : List Loc), (∀ q : Nat, q < H.size → H1[q]? = H[q]?) → va_S A s.heap H1 locs1 → W p l e R s m args below meth c H1 locs1 cells slots Q (F0 m (pc + 3) ls (.int (iV E) :: rest))) : W p l e R s m args below meth c H locs cells slots Q (F0 m pc ls st) := by
  subst hst
  obtain ⟨hx, hb, hml, hown, hts⟩ := X
  have hF : ∀ q, zF H.size q → A q := fun q h => hA q (Nat.le_trans hS.1 h)
  refine va_calli (va_runS (As := As) (rest := rest) ⟨hx, hb, hml, hown, hts⟩ hM (zcwS hts hlink hm hR.1 hR.2.1 hR.2.2) hp rfl hn hls rfl (lv_room hrest) hdg hcs) hS (fun q _ h => hF q h) hF (fun r u t H1 locs1 ht hvm hw hB hz hk hS1 => ?_)
  have hr : r = iV E := hw
  subst hr
  exact kk H1 locs1 (fun q hq => hk q hq (by show ¬ (H.size ≤ q); omega)) hS1
theorem z_rawSv {own C : String} {index : Nat} {y : MethodName} {bytes : ByteArray} {maxL nL n : Nat} {ret : Option FieldType} {rm : Room} {As st : List Value} {Pc : Array Value → State → Prop}
    (X : p.tables.exec = Jvm.exec ∧ c.code = cc ∧ c.maxLocals = nL ∧ s.vm.findClass own = some m.cls ∧ (∀ w ∈ zT, w.before args s = true)) (hA : ∀ q, s.heap.size ≤ q → A q) (hS : va_S A s.heap H locs) (hls : ls.size = nL)
    (hM : Met l y (Cond.code y bytes maxL ret :: zT) rm Pc (zQn H.size) 0 0 (zF H.size))
    (hlink : Cond.methodLink own index y ∈ zT) (hm : zMs C y bytes maxL ret n)
    (hR : rm.cells = 0 ∧ rm.slots = 0 ∧ rm.frames + 1 ≤ R.frames ∧ 8 + (maxL + 11) + rm.locals ≤ R.locals)
    (hp : PreS s H Pc As)
    (hn : As.length = n) (hst : st = As.reverse ++ rest) (hrest : (rest.map fun v => v.category).sum ≤ 8)
    (hdg : decode cc pc = .ok (.invokestatic index, 3)) (hcs : cells ≤ R.cells ∧ slots ≤ R.slots)
    (kk : ∀ (H1 : Heap) (locs1 : List Loc), (∀ q : Nat, q < H.size → H1[q]? = H[q]?) → va_S A s.heap H1 locs1 → W p l e R s m args below meth c H1 locs1 cells slots Q (F0 m (pc + 3) ls rest)) : W p l e R s m args below meth c H locs cells slots Q (F0 m pc ls st) := by
  subst hst
  obtain ⟨hx, hb, hml, hown, hts⟩ := X
  have hF : ∀ q, zF H.size q → A q := fun q h => hA q (Nat.le_trans hS.1 h)
  refine va_callv (va_runS (As := As) (rest := rest) ⟨hx, hb, hml, hown, hts⟩ hM (zcwS hts hlink hm hR.1 hR.2.1 hR.2.2) hp rfl hn hls rfl (lv_room hrest) hdg hcs) hS (fun q _ h => hF q h) hF (fun u t H1 locs1 ht hvm hw hB hz hk hS1 => ?_)
  exact kk H1 locs1 (fun q hq => hk q hq (by show ¬ (H.size ≤ q); omega)) hS1
theorem z_retn {E : Int} {ty : FieldType} (hexec : p.tables.exec = Jvm.exec) (hb : c.code = cc) (hr : meth.sig.returnType = some ty) (hn : narrow ty (.int (iV E)) = .int (iV E)) (hlocks : meth.locks = false) (hS : va_S (zF s.heap.size) s.heap H locs) (hdg : decode cc pc = .ok (.ireturn, 1)) : W p l e R s m args below meth c H locs 0 0 (MQ below (zQr E s.heap.size) args s 0 0 (zF s.heap.size)) (F0 m pc ls [.int (iV E)]) := W.zret hexec hb hr hn (fun t ht hW => ⟨⟨iV E, (), rfl, rfl, trivial⟩, hS.F ht⟩) hS.2.2 hdg hlocks
theorem z_retn0 (hexec : p.tables.exec = Jvm.exec) (hb : c.code = cc) (hr : meth.sig.returnType = none) (hlocks : meth.locks = false) (hS : va_S (zF s.heap.size) s.heap H locs) (hdg : decode cc pc = .ok (.return_, 1)) : W p l e R s m args below meth c H locs 0 0 (MQ below (zQn s.heap.size) args s 0 0 (zF s.heap.size)) (F0 m pc ls []) := W.vret hexec hb hr (fun t ht hW => ⟨⟨(), rfl, trivial, trivial⟩, hS.F ht⟩) hS.2.2 hdg hlocks
end ZJ
theorem zTx_c : ∀ k : Fin 128, (iV ((k : Nat) : Int) &&& iV 255).toUInt32 % 65536 = (iV ((k : Nat) : Int)).toUInt32 % 65536 ∧ ((iV ((k : Nat) : Int)).toUInt32 % 65536).toInt32 = iV ((k : Nat) : Int) ∧ narrow .char (.int (iV ((k : Nat) : Int))) = .int (iV ((k : Nat) : Int)) := by decide +kernel
theorem zTx_n {z : Int} (h : 0 ≤ z ∧ z < 128) : ((iV z &&& iV 255).toUInt32 % 65536).toInt32 = iV z ∧ narrow .char (.int (iV z)) = .int (iV z) := by
  have := zTx_c ⟨z.toNat, by omega⟩
  simp only at this
  rw [show ((z.toNat : Nat) : Int) = z by omega] at this
  exact ⟨by rw [this.1]; exact this.2.1, this.2.2⟩
theorem kJ0_length_8abf5 : zM RJ0 yJ0_length_8abf5 cJ0_length_8abf5 1 (some .int) 0 := ⟨wd_207, wd_208, wd_10, wd_209, rfl, by decide +kernel⟩
theorem kJ0_charAt_5068e : zM RJ0 yJ0_charAt_5068e cJ0_charAt_5068e 2 (some .char) 1 := ⟨wd_217, wd_218, wd_10, wd_219, rfl, by decide +kernel⟩
theorem kJ0_coder_7d493 : zM RJ0 yJ0_coder_7d493 cJ0_coder_7d493 1 (some .byte) 0 := ⟨wd_211, wd_212, wd_10, wd_213, rfl, by decide +kernel⟩
theorem kJ0_isLatin1_aae02 : zM RJ0 yJ0_isLatin1_aae02 cJ0_isLatin1_aae02 1 (some .boolean) 0 := ⟨wd_221, wd_222, wd_10, wd_223, rfl, by decide +kernel⟩
theorem kJ0_checkIndex_df160 : zMs RJ0 yJ0_checkIndex_df160 cJ0_checkIndex_df160 2 none 2 := ⟨wd_228, wd_10, wd_229, rfl, by decide +kernel⟩
theorem kJ1_charAt_3b067 : zMs RJ1 yJ1_charAt_3b067 cJ1_charAt_3b067 2 (some .char) 2 := ⟨wd_225, wd_11, wd_226, rfl, by decide +kernel⟩
theorem kJ3_checkIndex_8e157 : zMs RJ3 yJ3_checkIndex_8e157 cJ3_checkIndex_8e157 3 (some .int) 3 := ⟨wd_233, wd_12, wd_234, rfl, by decide +kernel⟩
set_option maxHeartbeats 4000000 in
set_option maxRecDepth 100000 in
theorem c_J_coder (l : Launch) (sz : Nat) (q v : Nat) : Met l yJ0_coder_7d493 (Cond.code yJ0_coder_7d493 cJ0_coder_7d493 1 (some .byte) :: zT) (zRm 0 0) (zPj [.ref q] q v sz) (zQr 0 sz) 0 0 (zF sz) := by
  refine Met.ofW (cc := cJ0_coder_7d493) (maxL := 1) (ret := (some .byte)) (by decide) rfl ?_
  intro p e s m args below meth c s₁ B hml hv
  obtain ⟨rfl, hsz, hSt⟩ := hv
  have hx := B.exec
  have hb := B.bytes
  have hr := B.returns
  have hts : ∀ w ∈ zT, w.before _ s = true := fun w h => atoms_spec (ws := (Cond.code yJ0_coder_7d493 cJ0_coder_7d493 1 (some .byte) :: zT)) B.pre w (List.mem_cons_of_mem _ h)
  have hown : s.vm.findClass RJ0 = some m.cls := findClass_of_methodNamed B.named
  have hlocks := B.notSynchronized
  subst hsz
  have hA : ∀ q : Nat, s.heap.size ≤ q → zF s.heap.size q := fun _ h => h
  have hS : va_S (zF s.heap.size) s.heap s.heap [] := va_S.rf
  have X := And.intro hx (And.intro hb (And.intro hml (And.intro hown hts)))
  have hl := lv_entry ([.ref q]) (n := 1) (Nat.le_of_ble_eq_true rfl)
  rw [lg_entry_eq]
  generalize (lg_sl ([.ref q]) ++ List.replicate (1 - (lg_sl ([.ref q])).length) Slot.unset).toArray = ls at hl ⊢
  have hl : lv_has ls 1 [(0, .ref q)] := hl
  refine va_gets hx hb hSt.2.2.2.2.1 hS hown (hts _ wd_214) (fun _ h9 => h9) dJ0_coder_7d493_0 ?_
  refine z_if_eq (tgt := 13) hx hb ⟨by decide, by decide⟩ dJ0_coder_7d493_3 (by decide) (fun h => absurd h (by decide)) (fun _ => ?_)
  refine lv_aload_n hx hb dJ0_coder_7d493_6 rfl (lv_at hl 0 rfl) ?_
  refine vk_getf hx hb hSt.2.1 hS hown (hts _ wd_1066) (fun _ h9 => h9) dJ0_coder_7d493_7 ?_
  refine lv_goto (tgt := 14) hx hb dJ0_coder_7d493_10 (by decide) ?_
  exact z_retn hx hb hr rfl hlocks hS dJ0_coder_7d493_14
set_option maxHeartbeats 4000000 in
set_option maxRecDepth 100000 in
theorem c_J_latin (l : Launch) (sz : Nat) (q v : Nat) : Met l yJ0_isLatin1_aae02 (Cond.code yJ0_isLatin1_aae02 cJ0_isLatin1_aae02 1 (some .boolean) :: zT) (zRm 0 0) (zPj [.ref q] q v sz) (zQr 1 sz) 0 0 (zF sz) := by
  refine Met.ofW (cc := cJ0_isLatin1_aae02) (maxL := 1) (ret := (some .boolean)) (by decide) rfl ?_
  intro p e s m args below meth c s₁ B hml hv
  obtain ⟨rfl, hsz, hSt⟩ := hv
  have hx := B.exec
  have hb := B.bytes
  have hr := B.returns
  have hts : ∀ w ∈ zT, w.before _ s = true := fun w h => atoms_spec (ws := (Cond.code yJ0_isLatin1_aae02 cJ0_isLatin1_aae02 1 (some .boolean) :: zT)) B.pre w (List.mem_cons_of_mem _ h)
  have hown : s.vm.findClass RJ0 = some m.cls := findClass_of_methodNamed B.named
  have hlocks := B.notSynchronized
  subst hsz
  have hA : ∀ q : Nat, s.heap.size ≤ q → zF s.heap.size q := fun _ h => h
  have hS : va_S (zF s.heap.size) s.heap s.heap [] := va_S.rf
  have X := And.intro hx (And.intro hb (And.intro hml (And.intro hown hts)))
  have hl := lv_entry ([.ref q]) (n := 1) (Nat.le_of_ble_eq_true rfl)
  rw [lg_entry_eq]
  generalize (lg_sl ([.ref q]) ++ List.replicate (1 - (lg_sl ([.ref q])).length) Slot.unset).toArray = ls at hl ⊢
  have hl : lv_has ls 1 [(0, .ref q)] := hl
  refine va_gets hx hb hSt.2.2.2.2.1 hS hown (hts _ wd_214) (fun _ h9 => h9) dJ0_isLatin1_aae02_0 ?_
  refine z_if_eq (tgt := 17) hx hb ⟨by decide, by decide⟩ dJ0_isLatin1_aae02_3 (by decide) (fun h => absurd h (by decide)) (fun _ => ?_)
  refine lv_aload_n hx hb dJ0_isLatin1_aae02_6 rfl (lv_at hl 0 rfl) ?_
  refine vk_getf hx hb hSt.2.1 hS hown (hts _ wd_1066) (fun _ h9 => h9) dJ0_isLatin1_aae02_7 ?_
  refine z_if_ne (tgt := 17) hx hb ⟨by decide, by decide⟩ dJ0_isLatin1_aae02_10 (by decide) (fun h => absurd rfl h) (fun _ => ?_)
  refine lv_iconst (v := iV 1) hx hb dJ0_isLatin1_aae02_13 (by decide) ?_
  refine lv_goto (tgt := 18) hx hb dJ0_isLatin1_aae02_14 (by decide) ?_
  exact z_retn hx hb hr rfl hlocks hS dJ0_isLatin1_aae02_18
set_option maxHeartbeats 4000000 in
set_option maxRecDepth 100000 in
theorem c_J_length (l : Launch) (sz : Nat) (q v : Nat) : Met l yJ0_length_8abf5 (Cond.code yJ0_length_8abf5 cJ0_length_8abf5 1 (some .int) :: zT) (zRm 1 20) (zPj [.ref q] q v sz) (zQr 76 sz) 0 0 (zF sz) := by
  refine Met.ofW (cc := cJ0_length_8abf5) (maxL := 1) (ret := (some .int)) (by decide) rfl ?_
  intro p e s m args below meth c s₁ B hml hv
  obtain ⟨rfl, hsz, hSt⟩ := hv
  have hx := B.exec
  have hb := B.bytes
  have hr := B.returns
  have hts : ∀ w ∈ zT, w.before _ s = true := fun w h => atoms_spec (ws := (Cond.code yJ0_length_8abf5 cJ0_length_8abf5 1 (some .int) :: zT)) B.pre w (List.mem_cons_of_mem _ h)
  have hown : s.vm.findClass RJ0 = some m.cls := findClass_of_methodNamed B.named
  have hlocks := B.notSynchronized
  subst hsz
  have hA : ∀ q : Nat, s.heap.size ≤ q → zF s.heap.size q := fun _ h => h
  have hS : va_S (zF s.heap.size) s.heap s.heap [] := va_S.rf
  have X := And.intro hx (And.intro hb (And.intro hml (And.intro hown hts)))
  have hl := lv_entry ([.ref q]) (n := 1) (Nat.le_of_ble_eq_true rfl)
  rw [lg_entry_eq]
  generalize (lg_sl ([.ref q]) ++ List.replicate (1 - (lg_sl ([.ref q])).length) Slot.unset).toArray = ls at hl ⊢
  have hl : lv_has ls 1 [(0, .ref q)] := hl
  refine lv_aload_n hx hb dJ0_length_8abf5_0 rfl (lv_at hl 0 rfl) ?_
  refine vk_getf hx hb hSt.2.2.1 hS hown (hts _ wd_1065) (fun _ h9 => h9) dJ0_length_8abf5_1 ?_
  refine va_tlen hx hb hSt.2.2.2.1 hS (v := iV 76) rfl dJ0_length_8abf5_4 ?_
  refine lv_aload_n hx hb dJ0_length_8abf5_5 rfl (lv_at hl 0 rfl) ?_
  refine z_rawV (As := []) (rest := [.int (iV 76)]) X hA hS hl.1 (c_J_coder l s.heap.size q v) wd_210 kJ0_coder_7d493 ⟨rfl, rfl, Nat.le_of_ble_eq_true rfl, Nat.le_of_ble_eq_true rfl⟩ ⟨zPj_blind, (by obtain ⟨cell, h1, h2, h3, -⟩ := hSt.1.kept hS.2.1; exact ⟨cell, h1, h2, h3⟩), fun U hU hW => ⟨rfl, by rw [hU], hSt.call hS (fun q h => hA q (Nat.le_trans hS.1 h)) hU hW⟩⟩ rfl rfl (Nat.le_of_ble_eq_true rfl) dJ0_length_8abf5_6 ⟨Nat.zero_le _, Nat.zero_le _⟩ (fun H locs hk hS => ?_)
  refine lv_ishr hx hb dJ0_length_8abf5_9 ?_
  refine z_top (z := 76) (by decide) ?_
  exact z_ret hx hb hr hlocks hS dJ0_length_8abf5_10
set_option maxHeartbeats 4000000 in
set_option maxRecDepth 100000 in
theorem c_J_ck3n (l : Launch) (sz : Nat) (i n : Int) (hi : 0 ≤ i ∧ i < n) (hn : n < 2147483648) : Met l yJ3_checkIndex_8e157 (Cond.code yJ3_checkIndex_8e157 cJ3_checkIndex_8e157 3 (some .int) :: zT) (zRm 0 0) (zPz [.int (iV i), .int (iV n), .null] sz) (zQr i sz) 0 0 (zF sz) := by
  refine Met.ofW (cc := cJ3_checkIndex_8e157) (maxL := 3) (ret := (some .int)) (by decide) rfl ?_
  intro p e s m args below meth c s₁ B hml hv
  obtain ⟨rfl, hsz⟩ := hv
  have hx := B.exec
  have hb := B.bytes
  have hr := B.returns
  have hts : ∀ w ∈ zT, w.before _ s = true := fun w h => atoms_spec (ws := (Cond.code yJ3_checkIndex_8e157 cJ3_checkIndex_8e157 3 (some .int) :: zT)) B.pre w (List.mem_cons_of_mem _ h)
  have hown : s.vm.findClass RJ3 = some m.cls := findClass_of_methodNamed B.named
  have hlocks := B.notSynchronized
  subst hsz
  have hA : ∀ q : Nat, s.heap.size ≤ q → zF s.heap.size q := fun _ h => h
  have hS : va_S (zF s.heap.size) s.heap s.heap [] := va_S.rf
  have X := And.intro hx (And.intro hb (And.intro hml (And.intro hown hts)))
  have hl := lv_entry ([.int (iV i), .int (iV n), .null]) (n := 3) (Nat.le_of_ble_eq_true rfl)
  rw [lg_entry_eq]
  generalize (lg_sl ([.int (iV i), .int (iV n), .null]) ++ List.replicate (3 - (lg_sl ([.int (iV i), .int (iV n), .null])).length) Slot.unset).toArray = ls at hl ⊢
  have hl : lv_has ls 3 [(0, .int (iV i)), (1, .int (iV n)), (2, .null)] := hl
  refine lv_iload_n hx hb dJ3_checkIndex_8e157_0 rfl (lv_at hl 0 rfl) ?_
  refine z_if_lt (tgt := 9) hx hb (by omega) dJ3_checkIndex_8e157_1 (by decide) (fun h => absurd h (by omega)) (fun _ => ?_)
  refine lv_iload_n hx hb dJ3_checkIndex_8e157_4 rfl (lv_at hl 0 rfl) ?_
  refine lv_iload_n hx hb dJ3_checkIndex_8e157_5 rfl (lv_at hl 1 rfl) ?_
  refine z_icmp_lt (tgt := 16) hx hb (by omega) (by omega) dJ3_checkIndex_8e157_6 (by decide) (fun _ => ?_) (fun h => absurd hi.2 h)
  refine lv_iload_n hx hb dJ3_checkIndex_8e157_16 rfl (lv_at hl 0 rfl) ?_
  exact z_ret hx hb hr hlocks hS dJ3_checkIndex_8e157_17
set_option maxHeartbeats 4000000 in
set_option maxRecDepth 100000 in
theorem c_J_ck3r (l : Launch) (sz : Nat) (t : Nat) (i n : Int) (hi : 0 ≤ i ∧ i < n) (hn : n < 2147483648) : Met l yJ3_checkIndex_8e157 (Cond.code yJ3_checkIndex_8e157 cJ3_checkIndex_8e157 3 (some .int) :: zT) (zRm 0 0) (zPz [.int (iV i), .int (iV n), .ref t] sz) (zQr i sz) 0 0 (zF sz) := by
  refine Met.ofW (cc := cJ3_checkIndex_8e157) (maxL := 3) (ret := (some .int)) (by decide) rfl ?_
  intro p e s m args below meth c s₁ B hml hv
  obtain ⟨rfl, hsz⟩ := hv
  have hx := B.exec
  have hb := B.bytes
  have hr := B.returns
  have hts : ∀ w ∈ zT, w.before _ s = true := fun w h => atoms_spec (ws := (Cond.code yJ3_checkIndex_8e157 cJ3_checkIndex_8e157 3 (some .int) :: zT)) B.pre w (List.mem_cons_of_mem _ h)
  have hown : s.vm.findClass RJ3 = some m.cls := findClass_of_methodNamed B.named
  have hlocks := B.notSynchronized
  subst hsz
  have hA : ∀ q : Nat, s.heap.size ≤ q → zF s.heap.size q := fun _ h => h
  have hS : va_S (zF s.heap.size) s.heap s.heap [] := va_S.rf
  have X := And.intro hx (And.intro hb (And.intro hml (And.intro hown hts)))
  have hl := lv_entry ([.int (iV i), .int (iV n), .ref t]) (n := 3) (Nat.le_of_ble_eq_true rfl)
  rw [lg_entry_eq]
  generalize (lg_sl ([.int (iV i), .int (iV n), .ref t]) ++ List.replicate (3 - (lg_sl ([.int (iV i), .int (iV n), .ref t])).length) Slot.unset).toArray = ls at hl ⊢
  have hl : lv_has ls 3 [(0, .int (iV i)), (1, .int (iV n)), (2, .ref t)] := hl
  refine lv_iload_n hx hb dJ3_checkIndex_8e157_0 rfl (lv_at hl 0 rfl) ?_
  refine z_if_lt (tgt := 9) hx hb (by omega) dJ3_checkIndex_8e157_1 (by decide) (fun h => absurd h (by omega)) (fun _ => ?_)
  refine lv_iload_n hx hb dJ3_checkIndex_8e157_4 rfl (lv_at hl 0 rfl) ?_
  refine lv_iload_n hx hb dJ3_checkIndex_8e157_5 rfl (lv_at hl 1 rfl) ?_
  refine z_icmp_lt (tgt := 16) hx hb (by omega) (by omega) dJ3_checkIndex_8e157_6 (by decide) (fun _ => ?_) (fun h => absurd hi.2 h)
  refine lv_iload_n hx hb dJ3_checkIndex_8e157_16 rfl (lv_at hl 0 rfl) ?_
  exact z_ret hx hb hr hlocks hS dJ3_checkIndex_8e157_17
def zPq (av : List Value) (sz : Nat) : Array Value → State → Prop := va_Pc av (fun U => U.heap.size = sz ∧ va_Zq "jdk/internal/util/Preconditions" "SIOOBE_FORMATTER" "Ljava/util/function/BiFunction;" (fun a => sz ≤ a) U U.heap)
theorem zPq_blind {av : List Value} {sz : Nat} : FrameBlind (zPq av sz) := fun a U g mk z => by
  obtain ⟨q0, q1, q2⟩ := z
  exact ⟨q0, q1, va_Zq.moved (u := U) (U := U.calling g mk a) (Vm.Alike.refl U.vm) q2⟩
set_option maxHeartbeats 4000000 in
set_option maxRecDepth 100000 in
theorem c_J_ck (l : Launch) (sz : Nat) (i n : Int) (hi : 0 ≤ i ∧ i < n) (hn : n < 2147483648) : Met l yJ0_checkIndex_df160 (Cond.code yJ0_checkIndex_df160 cJ0_checkIndex_df160 2 none :: zT) (zRm 1 22) (zPq [.int (iV i), .int (iV n)] sz) (zQn sz) 0 0 (zF sz) := by
  refine Met.ofW (cc := cJ0_checkIndex_df160) (maxL := 2) (ret := none) (by decide) rfl ?_
  intro p e s m args below meth c s₁ B hml hv
  obtain ⟨rfl, hsz, hZq⟩ := hv
  have hx := B.exec
  have hb := B.bytes
  have hr := B.returns
  have hts : ∀ w ∈ zT, w.before _ s = true := fun w h => atoms_spec (ws := (Cond.code yJ0_checkIndex_df160 cJ0_checkIndex_df160 2 none :: zT)) B.pre w (List.mem_cons_of_mem _ h)
  have hown : s.vm.findClass RJ0 = some m.cls := findClass_of_methodNamed B.named
  have hlocks := B.notSynchronized
  subst hsz
  have hA : ∀ q : Nat, s.heap.size ≤ q → zF s.heap.size q := fun _ h => h
  have hS : va_S (zF s.heap.size) s.heap s.heap [] := va_S.rf
  have X := And.intro hx (And.intro hb (And.intro hml (And.intro hown hts)))
  have hl := lv_entry ([.int (iV i), .int (iV n)]) (n := 2) (Nat.le_of_ble_eq_true rfl)
  rw [lg_entry_eq]
  generalize (lg_sl ([.int (iV i), .int (iV n)]) ++ List.replicate (2 - (lg_sl ([.int (iV i), .int (iV n)])).length) Slot.unset).toArray = ls at hl ⊢
  have hl : lv_has ls 2 [(0, .int (iV i)), (1, .int (iV n))] := hl
  refine lv_iload_n hx hb dJ0_checkIndex_df160_0 rfl (lv_at hl 0 rfl) ?_
  refine lv_iload_n hx hb dJ0_checkIndex_df160_1 rfl (lv_at hl 1 rfl) ?_
  rcases hZq with hZ | ⟨t, hZ⟩
  · refine va_gets hx hb hZ hS hown (hts _ wd_230) (fun _ h9 => h9) dJ0_checkIndex_df160_2 ?_
    refine z_rawS (As := [.int (iV i), .int (iV n), .null]) (rest := []) X hA hS hl.1 (c_J_ck3n l s.heap.size i n hi hn) wd_232 kJ3_checkIndex_8e157 ⟨rfl, rfl, Nat.le_of_ble_eq_true rfl, Nat.le_of_ble_eq_true rfl⟩ ⟨zPz_blind, fun U hU hW => ⟨rfl, by show U.heap.size = _; rw [hU]⟩⟩ rfl rfl (Nat.le_of_ble_eq_true rfl) dJ0_checkIndex_df160_5 ⟨Nat.zero_le _, Nat.zero_le _⟩ (fun H locs hk hS => ?_)
    refine lv_pop hx hb dJ0_checkIndex_df160_8 rfl ?_
    exact z_retn0 hx hb hr hlocks hS dJ0_checkIndex_df160_9
  · refine va_gets hx hb hZ hS hown (hts _ wd_230) (fun _ h9 => h9) dJ0_checkIndex_df160_2 ?_
    refine z_rawS (As := [.int (iV i), .int (iV n), .ref t]) (rest := []) X hA hS hl.1 (c_J_ck3r l s.heap.size t i n hi hn) wd_232 kJ3_checkIndex_8e157 ⟨rfl, rfl, Nat.le_of_ble_eq_true rfl, Nat.le_of_ble_eq_true rfl⟩ ⟨zPz_blind, fun U hU hW => ⟨rfl, by show U.heap.size = _; rw [hU]⟩⟩ rfl rfl (Nat.le_of_ble_eq_true rfl) dJ0_checkIndex_df160_5 ⟨Nat.zero_le _, Nat.zero_le _⟩ (fun H locs hk hS => ?_)
    refine lv_pop hx hb dJ0_checkIndex_df160_8 rfl ?_
    exact z_retn0 hx hb hr hlocks hS dJ0_checkIndex_df160_9
set_option maxHeartbeats 4000000 in
set_option maxRecDepth 100000 in
theorem c_J_char1 (l : Launch) (sz : Nat) (q v : Nat) (i : Int) (hi : 0 ≤ i ∧ i < 76) : Met l yJ1_charAt_3b067 (Cond.code yJ1_charAt_3b067 cJ1_charAt_3b067 2 (some .char) :: zT) (zRm 2 43) (zPj [.ref v, .int (iV i)] q v sz) (zQr (zTx i.toNat) sz) 0 0 (zF sz) := by
  refine Met.ofW (cc := cJ1_charAt_3b067) (maxL := 2) (ret := (some .char)) (by decide) rfl ?_
  intro p e s m args below meth c s₁ B hml hv
  obtain ⟨rfl, hsz, hSt⟩ := hv
  have hx := B.exec
  have hb := B.bytes
  have hr := B.returns
  have hts : ∀ w ∈ zT, w.before _ s = true := fun w h => atoms_spec (ws := (Cond.code yJ1_charAt_3b067 cJ1_charAt_3b067 2 (some .char) :: zT)) B.pre w (List.mem_cons_of_mem _ h)
  have hown : s.vm.findClass RJ1 = some m.cls := findClass_of_methodNamed B.named
  have hlocks := B.notSynchronized
  subst hsz
  have hA : ∀ q : Nat, s.heap.size ≤ q → zF s.heap.size q := fun _ h => h
  have hS : va_S (zF s.heap.size) s.heap s.heap [] := va_S.rf
  have X := And.intro hx (And.intro hb (And.intro hml (And.intro hown hts)))
  have hl := lv_entry ([.ref v, .int (iV i)]) (n := 2) (Nat.le_of_ble_eq_true rfl)
  rw [lg_entry_eq]
  generalize (lg_sl ([.ref v, .int (iV i)]) ++ List.replicate (2 - (lg_sl ([.ref v, .int (iV i)])).length) Slot.unset).toArray = ls at hl ⊢
  have hl : lv_has ls 2 [(0, .ref v), (1, .int (iV i))] := hl
  have hzr := zTx_r i.toNat
  have hzn := zTx_n hzr
  refine lv_iload_n hx hb dJ1_charAt_3b067_0 rfl (lv_at hl 1 rfl) ?_
  refine lv_aload_n hx hb dJ1_charAt_3b067_1 rfl (lv_at hl 0 rfl) ?_
  refine va_tlen hx hb hSt.2.2.2.1 hS (v := iV 76) rfl dJ1_charAt_3b067_2 ?_
  refine z_rawSv (As := [.int (iV i), .int (iV 76)]) (rest := []) X hA hS hl.1 (c_J_ck l s.heap.size i 76 hi (by decide)) wd_227 kJ0_checkIndex_df160 ⟨rfl, rfl, Nat.le_of_ble_eq_true rfl, Nat.le_of_ble_eq_true rfl⟩ ⟨zPq_blind, fun U hU hW => ⟨rfl, by rw [hU], (hSt.call hS (fun q h => hA q (Nat.le_trans hS.1 h)) hU hW).2.2.2.2.2⟩⟩ rfl rfl (Nat.le_of_ble_eq_true rfl) dJ1_charAt_3b067_3 ⟨Nat.zero_le _, Nat.zero_le _⟩ (fun H locs hk hS => ?_)
  refine lv_aload_n hx hb dJ1_charAt_3b067_6 rfl (lv_at hl 0 rfl) ?_
  refine lv_iload_n hx hb dJ1_charAt_3b067_7 rfl (lv_at hl 1 rfl) ?_
  refine va_tb hx hb hSt.2.2.2.1 hS (iV_in hi.1 hi.2 (by decide)) (v := .int (iV (zTx i.toNat))) (by rw [iV_nat ⟨by omega, by omega⟩]) dJ1_charAt_3b067_8 ?_
  refine lv_sipush (v := iV 255) hx hb dJ1_charAt_3b067_9 (by decide) ?_
  refine lv_iand hx hb dJ1_charAt_3b067_12 ?_
  refine lv_i2c hx hb dJ1_charAt_3b067_13 hzn.1 ?_
  exact z_retn hx hb hr hzn.2 hlocks hS dJ1_charAt_3b067_14
set_option maxHeartbeats 4000000 in
set_option maxRecDepth 100000 in
theorem c_J_charAt (l : Launch) (sz : Nat) (q v : Nat) (i : Int) (hi : 0 ≤ i ∧ i < 76) : Met l yJ0_charAt_5068e (Cond.code yJ0_charAt_5068e cJ0_charAt_5068e 2 (some .char) :: zT) (zRm 3 64) (zPj [.ref q, .int (iV i)] q v sz) (zQr (zTx i.toNat) sz) 0 0 (zF sz) := by
  refine Met.ofW (cc := cJ0_charAt_5068e) (maxL := 2) (ret := (some .char)) (by decide) rfl ?_
  intro p e s m args below meth c s₁ B hml hv
  obtain ⟨rfl, hsz, hSt⟩ := hv
  have hx := B.exec
  have hb := B.bytes
  have hr := B.returns
  have hts : ∀ w ∈ zT, w.before _ s = true := fun w h => atoms_spec (ws := (Cond.code yJ0_charAt_5068e cJ0_charAt_5068e 2 (some .char) :: zT)) B.pre w (List.mem_cons_of_mem _ h)
  have hown : s.vm.findClass RJ0 = some m.cls := findClass_of_methodNamed B.named
  have hlocks := B.notSynchronized
  subst hsz
  have hA : ∀ q : Nat, s.heap.size ≤ q → zF s.heap.size q := fun _ h => h
  have hS : va_S (zF s.heap.size) s.heap s.heap [] := va_S.rf
  have X := And.intro hx (And.intro hb (And.intro hml (And.intro hown hts)))
  have hl := lv_entry ([.ref q, .int (iV i)]) (n := 2) (Nat.le_of_ble_eq_true rfl)
  rw [lg_entry_eq]
  generalize (lg_sl ([.ref q, .int (iV i)]) ++ List.replicate (2 - (lg_sl ([.ref q, .int (iV i)])).length) Slot.unset).toArray = ls at hl ⊢
  have hl : lv_has ls 2 [(0, .ref q), (1, .int (iV i))] := hl
  refine lv_aload_n hx hb dJ0_charAt_5068e_0 rfl (lv_at hl 0 rfl) ?_
  refine z_rawV (As := []) (rest := []) X hA hS hl.1 (c_J_latin l s.heap.size q v) wd_220 kJ0_isLatin1_aae02 ⟨rfl, rfl, Nat.le_of_ble_eq_true rfl, Nat.le_of_ble_eq_true rfl⟩ ⟨zPj_blind, (by obtain ⟨cell, h1, h2, h3, -⟩ := hSt.1.kept hS.2.1; exact ⟨cell, h1, h2, h3⟩), fun U hU hW => ⟨rfl, by rw [hU], hSt.call hS (fun q h => hA q (Nat.le_trans hS.1 h)) hU hW⟩⟩ rfl rfl (Nat.le_of_ble_eq_true rfl) dJ0_charAt_5068e_1 ⟨Nat.zero_le _, Nat.zero_le _⟩ (fun H locs hk hS => ?_)
  refine z_if_eq (tgt := 16) hx hb ⟨by decide, by decide⟩ dJ0_charAt_5068e_4 (by decide) (fun h => absurd h (by decide)) (fun _ => ?_)
  refine lv_aload_n hx hb dJ0_charAt_5068e_7 rfl (lv_at hl 0 rfl) ?_
  refine vk_getf hx hb hSt.2.2.1 hS hown (hts _ wd_1065) (fun _ h9 => h9) dJ0_charAt_5068e_8 ?_
  refine lv_iload_n hx hb dJ0_charAt_5068e_11 rfl (lv_at hl 1 rfl) ?_
  refine z_rawS (As := [.ref v, .int (iV i)]) (rest := []) X hA hS hl.1 (c_J_char1 l H.size q v i hi) wd_224 kJ1_charAt_3b067 ⟨rfl, rfl, Nat.le_of_ble_eq_true rfl, Nat.le_of_ble_eq_true rfl⟩ ⟨zPj_blind, fun U hU hW => ⟨rfl, by rw [hU], hSt.call hS (fun q h => hA q (Nat.le_trans hS.1 h)) hU hW⟩⟩ rfl rfl (Nat.le_of_ble_eq_true rfl) dJ0_charAt_5068e_12 ⟨Nat.zero_le _, Nat.zero_le _⟩ (fun H locs hk hS => ?_)
  exact z_retn hx hb hr (zTx_n (zTx_r i.toNat)).2 hlocks hS dJ0_charAt_5068e_15
def zPs (G : zG) (av : List Value) (w : va_W) (q v sz : Nat) : Array Value → State → Prop := va_Pc av (fun U => U.heap.size = sz ∧ va_P G.1 vwCl w U.heap ∧ zK G U ∧ zSt (va_A w sz) U U.heap ∧ va_D (fun _ => True) w ∧ zStr q v (va_A w sz) U U.heap)
theorem zPs_blind {G : zG} {av : List Value} {w : va_W} {q v sz : Nat} : FrameBlind (zPs G av w q v sz) := fun a U g mk z => by
  obtain ⟨q0, q1, qP, qK, qS, qD, qT⟩ := z
  exact ⟨q0, q1, qP, va_K.moved (u := U) (U := U.calling g mk a) (Vm.Alike.refl U.vm) qK, zSt.same (u := U) (U := U.calling g mk a) rfl qS, qD, zStr.same (u := U) (U := U.calling g mk a) rfl qT⟩
theorem kX5_addAll : zM RX5 yX5_addAll cX5_addAll 3 none 1 := ⟨wd_203, wd_204, wd_6, wd_205, rfl, by decide +kernel⟩
set_option maxHeartbeats 4000000 in
set_option maxRecDepth 100000 in
theorem c_X5_addAll (l : Launch) (G : zG) (sz : Nat) (k0 kl q v : Nat) (tx : Nat → Int) (kr : Int) (htx : ∀ k : Nat, 0 ≤ tx k ∧ tx k < 128) : Met l yX5_addAll (Cond.code yX5_addAll cX5_addAll 3 none :: zT) (zRm 4 86) (zPs G [.ref k0, .ref q] [(k0, .inr (5, [.int (iV 0), .ref kl, .int (iV kr)])), (kl, .inl (G.2.2.2.1, 200, .inl (fun k => iV (tx k))))] q v sz) (zQv G [(k0, .inr (5, [.int (iV 0), .ref kl, .int (iV kr)])), (kl, .inl (G.2.2.2.1, 200, .inl (fun k => iV (tx k))))] [(k0, .inr (5, [.int (iV 76), .ref kl, .int (iV kr)])), (kl, .inl (G.2.2.2.1, 200, .inl (fun k => iV ((sPut tx 0 76 zTx) k))))] sz) 0 0 (va_A [(k0, .inr (5, [.int (iV 0), .ref kl, .int (iV kr)])), (kl, .inl (G.2.2.2.1, 200, .inl (fun k => iV (tx k))))] sz) := by
  refine Met.ofW (cc := cX5_addAll) (maxL := 3) (ret := none) (by decide) rfl ?_
  intro p e s m args below meth c s₁ B hml hv
  obtain ⟨rfl, hsz, hP, hK, hSt, hD0, hStr⟩ := hv
  have hx := B.exec
  have hb := B.bytes
  have hr := B.returns
  have hts : ∀ w ∈ zT, w.before _ s = true := fun w h => atoms_spec (ws := (Cond.code yX5_addAll cX5_addAll 3 none :: zT)) B.pre w (List.mem_cons_of_mem _ h)
  have hown : s.vm.findClass RX5 = some m.cls := findClass_of_methodNamed B.named
  have hlocks := B.notSynchronized
  subst hsz
  have hD : va_D (va_A [(k0, .inr (5, [.int (iV 0), .ref kl, .int (iV kr)])), (kl, .inl (G.2.2.2.1, 200, .inl (fun k => iV (tx k))))] s.heap.size) [(k0, .inr (5, [.int (iV 0), .ref kl, .int (iV kr)])), (kl, .inl (G.2.2.2.1, 200, .inl (fun k => iV (tx k))))] := hD0.self
  have hA : ∀ q : Nat, s.heap.size ≤ q → va_A [(k0, .inr (5, [.int (iV 0), .ref kl, .int (iV kr)])), (kl, .inl (G.2.2.2.1, 200, .inl (fun k => iV (tx k))))] s.heap.size q := fun q h => Or.inr h
  have hS : va_S (va_A [(k0, .inr (5, [.int (iV 0), .ref kl, .int (iV kr)])), (kl, .inl (G.2.2.2.1, 200, .inl (fun k => iV (tx k))))] s.heap.size) s.heap s.heap [] := va_S.rf
  have X := And.intro hx (And.intro hb (And.intro hml (And.intro hown (And.intro hts (And.intro hK (And.intro hSt hA))))))
  have X5 := And.intro hx (And.intro hb (And.intro hml (And.intro hown hts)))
  have hl := lv_entry ([.ref k0, .ref q]) (n := 3) (Nat.le_of_ble_eq_true rfl)
  rw [lg_entry_eq]
  generalize (lg_sl ([.ref k0, .ref q]) ++ List.replicate (3 - (lg_sl ([.ref k0, .ref q])).length) Slot.unset).toArray = ls at hl ⊢
  have hl : lv_has ls 3 [(0, .ref k0), (1, .ref q)] := hl
  refine lv_iconst (v := iV 0) hx hb dX5_addAll_0 (by decide) ?_
  refine lv_istore_n (lv' := [(2, .int (iV 0)), (0, .ref k0), (1, .ref q)]) hx hb dX5_addAll_1 rfl hl (by decide) rfl (fun ls hl => ?_)
  have lp : ∀ (f n : Nat), n ≤ 76 → 76 - n < f → ∀ (H : Heap) (locs : List Loc), va_P G.1 vwCl [(k0, .inr (5, [.int (iV (Nat.cast n : Int)), .ref kl, .int (iV kr)])), (kl, .inl (G.2.2.2.1, 200, .inl (fun k => iV ((sPut tx 0 n zTx) k))))] H → va_D (va_A [(k0, .inr (5, [.int (iV 0), .ref kl, .int (iV kr)])), (kl, .inl (G.2.2.2.1, 200, .inl (fun k => iV (tx k))))] s.heap.size) [(k0, .inr (5, [.int (iV (Nat.cast n : Int)), .ref kl, .int (iV kr)])), (kl, .inl (G.2.2.2.1, 200, .inl (fun k => iV ((sPut tx 0 n zTx) k))))] → va_S (va_A [(k0, .inr (5, [.int (iV 0), .ref kl, .int (iV kr)])), (kl, .inl (G.2.2.2.1, 200, .inl (fun k => iV (tx k))))] s.heap.size) s.heap H locs → ∀ ls : Array Slot, lv_has ls 3 [(0, .ref k0), (1, .ref q), (2, .int (iV (Nat.cast n : Int)))] → W p l e (headSpec (Cond.code yX5_addAll cX5_addAll 3 none :: zT) (zRm 4 86)).room s m ([Value.ref k0, Value.ref q] : List Value).toArray below meth c H locs 0 0 (MQ below (zQv G [(k0, .inr (5, [.int (iV 0), .ref kl, .int (iV kr)])), (kl, .inl (G.2.2.2.1, 200, .inl (fun k => iV (tx k))))] [(k0, .inr (5, [.int (iV 76), .ref kl, .int (iV kr)])), (kl, .inl (G.2.2.2.1, 200, .inl (fun k => iV ((sPut tx 0 76 zTx) k))))] s.heap.size) ([Value.ref k0, Value.ref q] : List Value).toArray s 0 0 (va_A [(k0, .inr (5, [.int (iV 0), .ref kl, .int (iV kr)])), (kl, .inl (G.2.2.2.1, 200, .inl (fun k => iV (tx k))))] s.heap.size)) (F0 m 2 ls []) := by
    intro f
    induction f with
    | zero => intro n h1 h2; exact absurd h2 (Nat.not_lt_zero _)
    | succ f ih =>
      intro n hn hf H locs hP hD hS ls hl
      refine lv_iload_n hx hb dX5_addAll_2 rfl (lv_at hl 2 rfl) ?_
      refine lv_aload_n hx hb dX5_addAll_3 rfl (lv_at hl 1 rfl) ?_
      refine z_rawV (As := []) (rest := [.int (iV (Nat.cast n : Int))]) X5 hA hS hl.1 (c_J_length l H.size q v) wd_206 kJ0_length_8abf5 ⟨rfl, rfl, Nat.le_of_ble_eq_true rfl, Nat.le_of_ble_eq_true rfl⟩ ⟨zPj_blind, (by obtain ⟨cell, h1, h2, h3, -⟩ := hStr.1.kept hS.2.1; exact ⟨cell, h1, h2, h3⟩), fun U hU hW => ⟨rfl, by rw [hU], hStr.call hS (fun q h => hA q (Nat.le_trans hS.1 h)) hU hW⟩⟩ rfl rfl (Nat.le_of_ble_eq_true rfl) dX5_addAll_4 ⟨Nat.zero_le _, Nat.zero_le _⟩ (fun H2 locs hk hS => ?_)
      have hP := hP.kept (fun k x hx => hk x.1 (hP k x hx).lt)
      refine z_icmp_ge (tgt := 25) hx hb (by omega) ⟨by decide, by decide⟩ dX5_addAll_7 (by decide) (fun h => ?_) (fun h => ?_)
      · have h8 : n = 76 := by omega
        subst h8
        exact z_retv hx hb hr hlocks hP hS dX5_addAll_25
      · refine lv_aload_n hx hb dX5_addAll_10 rfl (lv_at hl 0 rfl) ?_
        refine lv_aload_n hx hb dX5_addAll_11 rfl (lv_at hl 1 rfl) ?_
        refine lv_iload_n hx hb dX5_addAll_12 rfl (lv_at hl 2 rfl) ?_
        refine z_rawV (As := [.int (iV (Nat.cast n : Int))]) (rest := [.ref k0]) X5 hA hS hl.1 (c_J_charAt l H2.size q v (Nat.cast n : Int) (by omega)) wd_216 kJ0_charAt_5068e ⟨rfl, rfl, Nat.le_of_ble_eq_true rfl, Nat.le_of_ble_eq_true rfl⟩ ⟨zPj_blind, (by obtain ⟨cell, h1, h2, h3, -⟩ := hStr.1.kept hS.2.1; exact ⟨cell, h1, h2, h3⟩), fun U hU hW => ⟨rfl, by rw [hU], hStr.call hS (fun q h => hA q (Nat.le_trans hS.1 h)) hU hW⟩⟩ rfl rfl (Nat.le_of_ble_eq_true rfl) dX5_addAll_13 ⟨Nat.zero_le _, Nat.zero_le _⟩ (fun H3 locs hk hS => ?_)
        have hP := hP.kept (fun k x hx => hk x.1 (hP k x hx).lt)
        refine z_eq (z := zTx n) (by rw [cst0]) ?_
        have hzr := zTx_r n
        have htn : ∀ k : Nat, 0 ≤ sPut tx 0 n zTx k ∧ sPut tx 0 n zTx k < 128 := fun k => by
          unfold sPut
          split
          · exact zTx_r _
          · exact htx k
        refine z_callVwv (w2 := [(k0, .inr (5, [.int (iV ((Nat.cast n : Int) + 1)), .ref kl, .int (iV kr)])), (kl, .inl (G.2.2.2.1, 200, .inl (fun k => iV ((uI (sPut tx 0 n zTx) (Nat.cast n : Int).toNat (zTx n)) k))))]) (rest := []) X hP hD hS hl.1 (c_X5_add l G _ k0 kl (Nat.cast n : Int) (sPut tx 0 n zTx) kr (zTx n) (by omega) htn hzr (by omega)) wd_254 kX5_add ⟨rfl, rfl, Nat.le_of_ble_eq_true rfl, Nat.le_of_ble_eq_true rfl⟩ [0, 1] [] rfl rfl rfl ⟨rfl, rfl⟩ rfl (by decide) 0 rfl rfl rfl rfl (Nat.le_of_ble_eq_true rfl) dX5_addAll_16 ⟨Nat.zero_le _, Nat.zero_le _⟩ (fun H4 locs hP hD hS => ?_)
        refine z_iinc (lv' := [(2, .int (iV ((Nat.cast n : Int) + 1))), (0, .ref k0), (1, .ref q)]) hx hb dX5_addAll_19 hl (k := 2) rfl (by decide) rfl (fun ls hl => ?_)
        refine lv_goto (tgt := 2) hx hb dX5_addAll_22 (by decide) ?_
        have hw : ([(k0, .inr (5, [.int (iV ((Nat.cast n : Int) + 1)), .ref kl, .int (iV kr)])), (kl, .inl (G.2.2.2.1, 200, .inl (fun k => iV ((uI (sPut tx 0 n zTx) (Nat.cast n : Int).toNat (zTx n)) k))))] : va_W) = [(k0, .inr (5, [.int (iV (Nat.cast (n + 1) : Int)), .ref kl, .int (iV kr)])), (kl, .inl (G.2.2.2.1, 200, .inl (fun k => iV ((sPut tx 0 (n + 1) zTx) k))))] := by
          have e9 := sPut_s tx 0 n zTx
          rw [Nat.zero_add] at e9
          rw [cst0, e9, show (Nat.cast (n + 1) : Int) = (Nat.cast n : Int) + 1 by omega]
        exact ih (n + 1) (by omega) (by omega) _ _ (z_castP hw hP) (z_castD hw hD) hS _ (lv_cons (lv_at hl 1 rfl) (lv_cons (lv_at hl 2 rfl) (lv_cons (lv_i hl 0 rfl (by omega)) (lv_nil hl))))
  have hw : ([(k0, .inr (5, [.int (iV 0), .ref kl, .int (iV kr)])), (kl, .inl (G.2.2.2.1, 200, .inl (fun k => iV (tx k))))] : va_W) = [(k0, .inr (5, [.int (iV (Nat.cast 0 : Int)), .ref kl, .int (iV kr)])), (kl, .inl (G.2.2.2.1, 200, .inl (fun k => iV ((sPut tx 0 0 zTx) k))))] := by rw [sPut_0]; rfl
  exact lp 77 0 (by omega) (by omega) _ _ (z_castP hw hP) (z_castD hw hD) hS _ (lv_cons (lv_at hl 1 rfl) (lv_cons (lv_at hl 2 rfl) (lv_cons (lv_at hl 0 rfl) (lv_nil hl))))
