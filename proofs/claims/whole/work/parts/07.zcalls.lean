/-! the classes' numbers, the arrays' classes -/
abbrev zG : Type := va_G × ClassId × ClassId × ClassId × ClassId
def zty (G : zG) : List (ClassId × FieldType) := [(G.2.1, .int), (G.2.2.1, .boolean), (G.2.2.2.1, .char), (G.2.2.2.2, .object "HillStrokes$Picture")]
abbrev zK (G : zG) (U : State) : Prop := va_K G.1 vwCl (zty G) U
/-- the steps by direction, as the class has them -/
def zR (k : Nat) : Int := match k with
  | 0 => 0 | 1 => 1 | 2 => 1 | 3 => 1 | 4 => 0 | 5 => -1 | 6 => -1 | _ => -1
def zB (k : Nat) : Int := match k with
  | 0 => -1 | 1 => -1 | 2 => 0 | 3 => 1 | 4 => 1 | 5 => 1 | 6 => 0 | _ => -1
def zSt (A : Nat → Prop) (U : State) (H : Heap) : Prop := (∃ t : Nat, va_Z "HillStrokes" "STEP_RIGHT" "[I" (.ref t) A U H ∧ va_T .int t 8 (fun k => .int (iV (zR k))) A U H) ∧ (∃ t : Nat, va_Z "HillStrokes" "STEP_DOWN" "[I" (.ref t) A U H ∧ va_T .int t 8 (fun k => .int (iV (zB k))) A U H) ∧ va_Nw (.fieldLinkNest "HillStrokes$Ground" 32 "HillStrokes" "STEP_RIGHT" "[I" "HillStrokes") U ∧ va_Nw (.fieldLinkNest "HillStrokes$Ground" 35 "HillStrokes" "STEP_DOWN" "[I" "HillStrokes") U
theorem zSt.same {A : Nat → Prop} {u U : State} {H : Heap} (hvm : u.vm = U.vm) (h : zSt A u H) : zSt A U H := by
  obtain ⟨⟨t, h1, h2⟩, ⟨t', h3, h4⟩, h5, h6⟩ := h
  have ha : u.vm.Alike U.vm := by rw [hvm]; exact Vm.Alike.refl _
  exact ⟨⟨t, h1.moved ha, h2.moved ha⟩, ⟨t', h3.moved ha, h4.moved ha⟩, va_Nw.same rfl hvm h5, va_Nw.same rfl hvm h6⟩
theorem zSt.narrow {A B : Nat → Prop} {U : State} {H : Heap} (h : zSt A U H) (hAB : ∀ q, B q → A q) : zSt B U H := by
  obtain ⟨⟨t, h1, h2⟩, ⟨t', h3, h4⟩, h5⟩ := h
  exact ⟨⟨t, h1.narrow hAB, h2.narrow hAB⟩, ⟨t', h3.narrow hAB, h4.narrow hAB⟩, h5⟩
theorem zSt.kept {A : Nat → Prop} {U : State} {H H1 : Heap} (h : zSt A U H) (hq : ∀ a : Nat, a < H.size → ¬ A a → H1[a]? = H[a]?) : zSt A U H1 := by
  obtain ⟨⟨t, h1, h2⟩, ⟨t', h3, h4⟩, h5⟩ := h
  exact ⟨⟨t, h1.kept hq, h2.kept hq⟩, ⟨t', h3.kept hq, h4.kept hq⟩, h5⟩
theorem zSt.call {A0 A1 : Nat → Prop} {s U : State} {H : Heap} {locs : List Loc} (h : zSt A0 s s.heap) (hS : va_S A0 s.heap H locs) (hA : ∀ q, A1 q → A0 q) (hU : U.heap = H) (hW : s.WarmedH U.vm) : zSt A1 U U.heap := by
  rw [hU]
  obtain ⟨⟨t, h1, h2⟩, ⟨t', h3, h4⟩, h5, h6⟩ := (h.kept hS.2.1).narrow hA
  exact ⟨⟨t, h1.moved hW.alike, h2.moved hW.alike⟩, ⟨t', h3.moved hW.alike, h4.moved hW.alike⟩, h5.warmF hW, h6.warmF hW⟩
/-! what a method is, by its words -/
def zM (C : String) (y : MethodName) (bytes : ByteArray) (maxL : Nat) (ret : Option FieldType) (n : Nat) : Prop :=
  Cond.instanceMethod y ∈ zT ∧ Cond.selects C y y ∈ zT ∧ Cond.initialized C ∈ zT ∧ Cond.code y bytes maxL ret ∈ zT ∧ (y.cls = C ∧ y.cls ≠ "java/lang/invoke/MethodHandle" ∧ y.cls ≠ "java/lang/invoke/VarHandle" ∧ (parseMethodDescriptor y.desc).map (fun d => d.parameters.length) = some n)
def zMs (C : String) (y : MethodName) (bytes : ByteArray) (maxL : Nat) (ret : Option FieldType) (n : Nat) : Prop :=
  Cond.static y ∈ zT ∧ Cond.initialized C ∈ zT ∧ Cond.code y bytes maxL ret ∈ zT ∧ (y.cls = C ∧ y.cls ≠ "java/lang/invoke/MethodHandle" ∧ y.cls ≠ "java/lang/invoke/VarHandle" ∧ (parseMethodDescriptor y.desc).map (fun d => d.parameters.length) = some n)
theorem zt_cons {y : MethodName} {bytes : ByteArray} {maxL : Nat} {ret : Option FieldType} (h : Cond.code y bytes maxL ret ∈ zT) : GoodIn zT (Cond.code y bytes maxL ret :: zT) := fun w hw => by
  rcases List.mem_cons.mp hw with rfl | hw
  · exact zt_goodIn _ h
  · exact zt_goodIn _ hw
theorem zcwV {R : Room} {s : State} {args : Array Value} {own C : String} {index : Nat} {y : MethodName} {bytes : ByteArray} {maxL n : Nat} {ret : Option FieldType} {rm : Room} {mc ms : Nat} (hts : ∀ w ∈ zT, w.before args s = true) (hl : Cond.methodLink own index y ∈ zT) (hm : zM C y bytes maxL ret n)
    (hrc : rm.cells = mc) (hrs : rm.slots = ms) (hR : rm.frames + 1 ≤ R.frames ∧ 8 + (maxL + 11) + rm.locals ≤ R.locals) : CallW R s args own C index y bytes maxL ret (Cond.code y bytes maxL ret :: zT) rm mc ms n := by
  obtain ⟨h1, h2, h3, h4, h5, h6, h7⟩ := hm
  subst h5
  exact ⟨callB_of n hts (zt_cons h4) rfl hrc hrs (hts _ h3) (hts _ hl) ⟨h6, h7.1, h7.2⟩ hR, hts _ h1, hts _ h2⟩
theorem zcwS {R : Room} {s : State} {args : Array Value} {own C : String} {index : Nat} {y : MethodName} {bytes : ByteArray} {maxL n : Nat} {ret : Option FieldType} {rm : Room} {mc ms : Nat} (hts : ∀ w ∈ zT, w.before args s = true) (hl : Cond.methodLink own index y ∈ zT) (hm : zMs C y bytes maxL ret n)
    (hrc : rm.cells = mc) (hrs : rm.slots = ms) (hR : rm.frames + 1 ≤ R.frames ∧ 8 + (maxL + 11) + rm.locals ≤ R.locals) : CallB R s args own index y bytes maxL ret (Cond.code y bytes maxL ret :: zT) rm mc ms n ∧ (Cond.static y).before args s = true := by
  obtain ⟨h1, h3, h4, h5, h6, h7⟩ := hm
  subst h5
  exact ⟨callB_of n hts (zt_cons h4) rfl hrc hrs (hts _ h3) (hts _ hl) ⟨h6, h7.1, h7.2⟩ hR, hts _ h1⟩
/-! a method that only reads: its world, its answer; nothing that was there changes -/
def zPr (G : zG) (av : List Value) (w : va_W) (sz : Nat) : Array Value → State → Prop := va_Pc av (fun U => U.heap.size = sz ∧ va_P G.1 vwCl w U.heap ∧ zK G U ∧ zSt (fun q => sz ≤ q) U U.heap)
def zQr (E : Int) (sz : Nat) : Array Value → State → Outcome → State → Prop := va_Qi (fun (r : Int32) (_ : Unit) => r = iV E) (fun _ _ => True) (fun q => sz ≤ q)
abbrev zF (sz : Nat) : Addr → Prop := fun q => sz ≤ q
abbrev zRm (f k : Nat) : Room := { frames := f, cells := 0, slots := 0, locals := k }
theorem zPr_blind {G : zG} {av : List Value} {w : va_W} {sz : Nat} : FrameBlind (zPr G av w sz) := fun a U g mk q => by
  obtain ⟨q0, q1, qP, qK, qS⟩ := q
  exact ⟨q0, q1, qP, va_K.moved (u := U) (U := U.calling g mk a) (Vm.Alike.refl U.vm) qK, zSt.same (u := U) (U := U.calling g mk a) rfl qS⟩
/-! a method that writes: its world before and behind it, at the same addresses -/
def zPw (G : zG) (av : List Value) (w : va_W) (sz : Nat) : Array Value → State → Prop := va_Pc av (fun U => U.heap.size = sz ∧ va_P G.1 vwCl w U.heap ∧ zK G U ∧ zSt (va_A w sz) U U.heap ∧ va_D (fun _ => True) w)
def zQw (G : zG) (E : Int) (w w1 : va_W) (sz : Nat) : Array Value → State → Outcome → State → Prop := va_Qi (fun (r : Int32) (_ : Unit) => r = iV E) (fun _ t => va_P G.1 vwCl w1 t.heap) (va_A w sz)
def zQv (G : zG) (w w1 : va_W) (sz : Nat) : Array Value → State → Outcome → State → Prop := va_Qv (fun (_ : Unit) => True) (fun _ t => va_P G.1 vwCl w1 t.heap) (va_A w sz)
theorem zPw_blind {G : zG} {av : List Value} {w : va_W} {sz : Nat} : FrameBlind (zPw G av w sz) := fun a U g mk q => by
  obtain ⟨q0, q1, qP, qK, qS, qD⟩ := q
  exact ⟨q0, q1, qP, va_K.moved (u := U) (U := U.calling g mk a) (Vm.Alike.refl U.vm) qK, zSt.same (u := U) (U := U.calling g mk a) rfl qS, qD⟩
theorem z_fm {w wc : va_W} {is : List Nat} (h : is.map (fun i => w[i]?) = wc.map some) : is.filterMap (fun i => w[i]?) = wc := by
  have : (is.map (fun i => w[i]?)).filterMap id = (wc.map some).filterMap id := by rw [h]
  simpa [List.filterMap_map, Function.comp_def] using this
theorem z_joinw {A0 : Nat → Prop} {D : va_G} {cl : List vw_C} {w wc w1 w2 : va_W} {H H1 : Heap} (hP : va_P D cl w H) (hD : va_D A0 w) (isC isR : List Nat) (c1 : isC.map (fun i => w[i]?) = wc.map some) (c2 : isC.map (fun i => w2[i]?) = w1.map some) (c3 : isR.map (fun i => w2[i]?) = isR.map (fun i => w[i]?))
    (c4 : (List.range w2.length).all (fun i => isR.contains i || isC.contains i) = true) (c5 : w2.map Prod.fst = w.map Prod.fst) (c6 : isR.all (fun i => !isC.contains i) = true)
    (hk : ∀ q : Nat, q < H.size → ¬ va_A wc H.size q → H1[q]? = H[q]?) (hP1 : va_P D cl w1 H1) : va_P D cl w2 H1 ∧ va_D A0 w2 := by
  have adr : ∀ (k : Nat) (q : Nat × va_E), w2[k]? = some q → ∃ e : va_E, w[k]? = some (q.1, e) := by
    intro k q hq
    have h1 : (w2.map Prod.fst)[k]? = some q.1 := by rw [List.getElem?_map, hq]; rfl
    rw [c5, List.getElem?_map] at h1
    cases hw : w[k]? with
    | none => rw [hw] at h1; cases h1
    | some z => rw [hw] at h1; exact ⟨z.2, by rw [← Option.some.inj h1]⟩
  refine ⟨fun k q hq => ?_, fun i j x y hx hy hxy => ?_, fun k q hq => ?_⟩
  · have hlt : k < w2.length := (List.getElem?_eq_some_iff.mp hq).1
    have h4 := List.all_eq_true.mp c4 k (List.mem_range.mpr hlt)
    rcases Bool.or_eq_true _ _ |>.mp h4 with hr | hc
    · have hr' : k ∈ isR := by simpa using hr
      have hnc : k ∉ isC := by have := List.all_eq_true.mp c6 k hr'; simpa using this
      obtain ⟨i, hi⟩ := List.getElem?_of_mem hr'
      have h3 : (isR.map (fun i => w2[i]?))[i]? = (isR.map (fun i => w[i]?))[i]? := by rw [c3]
      rw [List.getElem?_map, List.getElem?_map, hi] at h3
      have h5 : w[k]? = some q := by
        have := Option.some.inj h3
        dsimp only at this
        rw [← this]; exact hq
      refine (hP k q h5).kept (hk q.1 (hP k q h5).lt (fun h => ?_))
      rcases h with ⟨k2, e, h⟩ | h
      · have h6 : (isC.map (fun i => w[i]?))[k2]? = some (some (q.1, e)) := by rw [c1, List.getElem?_map, h]; rfl
        rw [List.getElem?_map] at h6
        cases hj : isC[k2]? with
        | none => rw [hj] at h6; cases h6
        | some j =>
          rw [hj] at h6
          have h7 : w[j]? = some (q.1, e) := Option.some.inj h6
          have : k = j := hD.1 k j q (q.1, e) h5 h7 rfl
          exact hnc (this ▸ List.mem_of_getElem? hj)
      · have := (hP k q h5).lt; omega
    · have hc' : k ∈ isC := by simpa using hc
      obtain ⟨i, hi⟩ := List.getElem?_of_mem hc'
      have h3 : (isC.map (fun i => w2[i]?))[i]? = (w1.map some)[i]? := by rw [c2]
      rw [List.getElem?_map, List.getElem?_map, hi] at h3
      cases hw : w1[i]? with
      | none => rw [hw] at h3; cases h3
      | some z =>
        rw [hw] at h3
        have : w2[k]? = some z := Option.some.inj h3
        rw [hq] at this
        cases this
        exact hP1 i q hw
  · obtain ⟨e1, h1⟩ := adr i x hx
    obtain ⟨e2, h2⟩ := adr j y hy
    exact hD.1 i j (x.1, e1) (y.1, e2) h1 h2 hxy
  · obtain ⟨e1, h1⟩ := adr k q hq
    exact hD.2 k (q.1, e1) h1
section ZC
variable {p : Program} {l : Launch} {e : Env} {R : Room} {s : State} {m : MethodId} {args : Array Value} {below : List Frame} {meth : Method} {c : Code} {H : Heap} {locs : List Loc} {cells slots : Nat} {Q : State → Prop}
variable {cc : ByteArray} {pc : Nat} {ls : Array Slot} {rest : List Value} {G : zG} {A : Nat → Prop}
theorem z_callV {own C : String} {index : Nat} {y : MethodName} {bytes : ByteArray} {maxL nL n : Nat} {ret : Option FieldType} {rm : Room} {As st : List Value} {wc w : va_W} {E : Int} {b : Nat} {ci : Nat} {fs : List Value} {T : u_T} {N : Nat}
    (X : p.tables.exec = Jvm.exec ∧ c.code = cc ∧ c.maxLocals = nL ∧ s.vm.findClass own = some m.cls ∧ (∀ w ∈ zT, w.before args s = true) ∧ zK G s ∧ zSt A s s.heap ∧ ∀ q, s.heap.size ≤ q → A q)
    (hP : va_P G.1 vwCl w H) (hS : va_S A s.heap H locs) (hls : ls.size = nL)
    (hM : Met l y (Cond.code y bytes maxL ret :: zT) rm (zPr G (.ref b :: As) wc H.size) (zQr E H.size) 0 0 (zF H.size))
    (hlink : Cond.methodLink own index y ∈ zT) (hm : zM C y bytes maxL ret n)
    (hR : rm.cells = 0 ∧ rm.slots = 0 ∧ rm.frames + 1 ≤ R.frames ∧ 8 + (maxL + 11) + rm.locals ≤ R.locals)
    (isC : List Nat) (hC : isC.filterMap (fun i => w[i]?) = wc) (q0 : Nat) (hr1 : wc[q0]? = some (b, .inr (ci, fs))) (hr2 : vwCl[ci]? = some (C, T, N))
    (hn : As.length = n) (hst : st = As.reverse ++ .ref b :: rest) (hrest : (rest.map fun v => v.category).sum ≤ 8)
    (hdg : decode cc pc = .ok (.invokevirtual index, 3)) (hcs : cells ≤ R.cells ∧ slots ≤ R.slots)
    (kk : ∀ (H1 : Heap) (locs1 : List Loc), va_P G.1 vwCl w H1 → va_S A s.heap H1 locs1 → W p l e R s m args below meth c H1 locs1 cells slots Q (F0 m (pc + 3) ls (.int (iV E) :: rest))) : W p l e R s m args below meth c H locs cells slots Q (F0 m pc ls st) := by
  subst hst
  obtain ⟨hx, hb, hml, hown, hts, hK, hSt, hA⟩ := X
  have hPc := hP.sub isC hC
  have hF : ∀ q, zF H.size q → A q := fun q h => hA q (Nat.le_trans hS.1 h)
  refine va_calli (va_runV (As := As) (rest := rest) ⟨hx, hb, hml, hown, hts⟩ hM (zcwV hts hlink hm hR.1 hR.2.1 hR.2.2) ⟨zPr_blind, va_recv hK hPc (ci := ci) (q0 := q0) hr2 hr1, fun U hU hW => ⟨rfl, by rw [hU], by rw [hU]; exact hPc, va_K.moved hW.alike hK, hSt.call hS (fun q h => hF q h) hU hW⟩⟩ rfl hn hls rfl (lv_room hrest) hdg hcs) hS (fun q _ h => hF q h) hF (fun r u t H1 locs1 ht hvm hw hB hz hk hS1 => ?_)
  have hr : r = iV E := hw
  subst hr
  exact kk H1 locs1 (hP.kept (fun k q hq => hk q.1 (hP k q hq).lt (by have := (hP k q hq).lt; show ¬ (H.size ≤ q.1); omega))) hS1
theorem z_callS {own C : String} {index : Nat} {y : MethodName} {bytes : ByteArray} {maxL nL n : Nat} {ret : Option FieldType} {rm : Room} {As st : List Value} {wc w : va_W} {E : Int}
    (X : p.tables.exec = Jvm.exec ∧ c.code = cc ∧ c.maxLocals = nL ∧ s.vm.findClass own = some m.cls ∧ (∀ w ∈ zT, w.before args s = true) ∧ zK G s ∧ zSt A s s.heap ∧ ∀ q, s.heap.size ≤ q → A q)
    (hP : va_P G.1 vwCl w H) (hS : va_S A s.heap H locs) (hls : ls.size = nL)
    (hM : Met l y (Cond.code y bytes maxL ret :: zT) rm (zPr G As wc H.size) (zQr E H.size) 0 0 (zF H.size))
    (hlink : Cond.methodLink own index y ∈ zT) (hm : zMs C y bytes maxL ret n)
    (hR : rm.cells = 0 ∧ rm.slots = 0 ∧ rm.frames + 1 ≤ R.frames ∧ 8 + (maxL + 11) + rm.locals ≤ R.locals)
    (isC : List Nat) (hC : isC.filterMap (fun i => w[i]?) = wc)
    (hn : As.length = n) (hst : st = As.reverse ++ rest) (hrest : (rest.map fun v => v.category).sum ≤ 8)
    (hdg : decode cc pc = .ok (.invokestatic index, 3)) (hcs : cells ≤ R.cells ∧ slots ≤ R.slots)
    (kk : ∀ (H1 : Heap) (locs1 : List Loc), va_P G.1 vwCl w H1 → va_S A s.heap H1 locs1 → W p l e R s m args below meth c H1 locs1 cells slots Q (F0 m (pc + 3) ls (.int (iV E) :: rest))) : W p l e R s m args below meth c H locs cells slots Q (F0 m pc ls st) := by
  subst hst
  obtain ⟨hx, hb, hml, hown, hts, hK, hSt, hA⟩ := X
  have hPc := hP.sub isC hC
  have hF : ∀ q, zF H.size q → A q := fun q h => hA q (Nat.le_trans hS.1 h)
  refine va_calli (va_runS (As := As) (rest := rest) ⟨hx, hb, hml, hown, hts⟩ hM (zcwS hts hlink hm hR.1 hR.2.1 hR.2.2) ⟨zPr_blind, fun U hU hW => ⟨rfl, by rw [hU], by rw [hU]; exact hPc, va_K.moved hW.alike hK, hSt.call hS (fun q h => hF q h) hU hW⟩⟩ rfl hn hls rfl (lv_room hrest) hdg hcs) hS (fun q _ h => hF q h) hF (fun r u t H1 locs1 ht hvm hw hB hz hk hS1 => ?_)
  have hr : r = iV E := hw
  subst hr
  exact kk H1 locs1 (hP.kept (fun k q hq => hk q.1 (hP k q hq).lt (by have := (hP k q hq).lt; show ¬ (H.size ≤ q.1); omega))) hS1
end ZC
