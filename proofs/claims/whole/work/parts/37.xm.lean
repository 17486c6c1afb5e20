/-! the making of things -/
abbrev zRc (f k c n : Nat) : Room := { frames := f, cells := c, slots := n, locals := k }
theorem va_joinL {A0 : Nat → Prop} {D : va_G} {cl : List vw_C} {wr wc w1 : va_W} {H H1 : Heap} (hP : va_P D cl (wr ++ wc) H) (hD : va_D A0 (wr ++ wc)) (hk : ∀ q : Nat, q < H.size → ¬ va_A wc H.size q → H1[q]? = H[q]?) (hF : ∀ q, va_A wc H.size q → A0 q) (hP1 : va_P D cl w1 H1) (hD1 : va_D (va_A wc H.size) w1) : va_P D cl (wr ++ w1) H1 ∧ va_D A0 (wr ++ w1) := by
  have hn := va_D_nd.mp hD
  rw [List.map_append] at hn
  have hd1 := va_D_nd.mp hD1
  have key : ∀ q ∈ wr, ¬ va_A wc H.size q.1 := fun q h hA => by
    have hat := va_P_mem.mp hP q (List.mem_append_left _ h)
    rcases hA with ⟨k, e, hA⟩ | hA
    · have h1 : q.1 ∈ wc.map Prod.fst := List.mem_map.mpr ⟨(q.1, e), List.mem_of_getElem? hA, rfl⟩
      have h2 : q.1 ∈ wr.map Prod.fst := List.mem_map.mpr ⟨q, h, rfl⟩
      exact (List.nodup_append.mp hn.1).2.2 _ h2 _ h1 rfl
    · have := hat.lt; omega
  refine ⟨va_P_mem.mpr (fun q hq => ?_), va_D_nd.mpr ⟨?_, fun q hq => ?_⟩⟩
  · rcases List.mem_append.mp hq with h | h
    · have hat := va_P_mem.mp hP q (List.mem_append_left _ h)
      exact hat.kept (hk q.1 hat.lt (key q h))
    · exact va_P_mem.mp hP1 q h
  · rw [List.map_append]
    refine List.nodup_append.mpr ⟨(List.nodup_append.mp hn.1).1, hd1.1, fun a ha b hb hab => ?_⟩
    obtain ⟨x, hx, rfl⟩ := List.mem_map.mp ha
    obtain ⟨y, hy, rfl⟩ := List.mem_map.mp hb
    exact key x hx (by rw [hab]; exact hd1.2 y hy)
  · rcases List.mem_append.mp hq with h | h
    · exact hn.2 q (List.mem_append_left _ h)
    · exact hF _ (hd1.2 q h)
theorem vp_cell_g {cA : ClassId} {n : Nat} {f g : Nat → Int32} (h : ∀ k : Nat, k < n → f k = g k) : vp_cell cA (n, .inl f) = vp_cell cA (n, .inl g) := by
  rw [vp_cell_i, vp_cell_i]
  unfold arrV
  congr 2
  funext j
  show Value.int (f j.val) = Value.int (g j.val)
  rw [h j.val j.isLt]
theorem vp_cell_gq {cA : ClassId} {n : Nat} {f g : Nat → Option Nat} (h : ∀ k : Nat, k < n → f k = g k) : vp_cell cA (n, .inr (.inr (.inr (.inr f)))) = vp_cell cA (n, .inr (.inr (.inr (.inr g)))) := by
  rw [vp_cell_q, vp_cell_q]
  unfold arrV
  congr 2
  funext j
  show va_rf (f j.val) = va_rf (g j.val)
  rw [h j.val j.isLt]
/-- a world is what its cells are: two lists with like cells -/
theorem va_P_like {D : va_G} {cl : List vw_C} {w w2 : va_W} {H : Heap} (h : va_P D cl w H) (he : ∀ (k : Nat) (q : Nat × va_E), w2[k]? = some q → ∃ q1 : Nat × va_E, w[k]? = some q1 ∧ (va_at D cl q1 H → va_at D cl q H)) : va_P D cl w2 H := fun k q hq => by
  obtain ⟨q1, h1, h2⟩ := he k q hq
  exact h2 (h k q1 h1)
def zNs : List (String × Nat × MethodName × String) := [("HillStrokes", 11, yX4_init, "HillStrokes"), ("HillStrokes$Picture", 11, yX0_init, "HillStrokes"), ("HillStrokes$Picture", 20, yX7_init, "HillStrokes"), ("HillStrokes$Past", 17, yX4_init, "HillStrokes"), ("HillStrokes", 28, yX5_init, "HillStrokes"), ("HillStrokes", 35, yX1_init, "HillStrokes"), ("HillStrokes", 42, yX6_init, "HillStrokes"), ("HillStrokes", 49, yX2_init, "HillStrokes")]
def zNw (U : State) : Prop := (∀ q ∈ zNs, va_Nw (.methodLinkNest q.1 q.2.1 q.2.2.1 q.2.2.2) U) ∧ va_AO "HillStrokes$Picture" U
theorem zNw.same {u U : State} (hvm : u.vm = U.vm) (h : zNw u) : zNw U := ⟨fun q hq => va_Nw.same rfl hvm (h.1 q hq), va_AO.moved (by rw [hvm]; exact Vm.Alike.refl _) h.2⟩
theorem zNw.warm {s U : State} (hW : s.WarmedH U.vm) (h : zNw s) : zNw U := ⟨fun q hq => (h.1 q hq).warmM hW, va_AO.moved hW.alike h.2⟩
theorem zNw.at {U : State} (h : zNw U) (i : Nat) {q : String × Nat × MethodName × String} (hi : zNs[i]? = some q) : va_Nw (.methodLinkNest q.1 q.2.1 q.2.2.1 q.2.2.2) U := h.1 q (List.mem_of_getElem? hi)
def zP0 (G : zG) (av : List Value) (w : va_W) (sz : Nat) : Array Value → State → Prop := va_Pc av (fun U => U.heap.size = sz ∧ va_P G.1 vwCl w U.heap ∧ zK G U ∧ va_D (fun _ => True) w ∧ zNw U)
theorem zP0_blind {G : zG} {av : List Value} {w : va_W} {sz : Nat} : FrameBlind (zP0 G av w sz) := fun a U g mk z => by
  obtain ⟨q0, q1, qP, qK, qD, qN⟩ := z
  exact ⟨q0, q1, qP, va_K.moved (u := U) (U := U.calling g mk a) (Vm.Alike.refl U.vm) qK, qD, zNw.same (u := U) (U := U.calling g mk a) rfl qN⟩
def zQi {S : Type} (G : zG) (post : S → Prop) (blk : S → va_W) (w : va_W) (sz : Nat) : Array Value → State → Outcome → State → Prop := va_Qv post (fun u t => va_P G.1 vwCl (blk u) t.heap ∧ va_D (va_A w sz) (blk u)) (va_A w sz)
section ZM
variable {p : Program} {l : Launch} {e : Env} {R : Room} {s : State} {m : MethodId} {args : Array Value} {below : List Frame} {meth : Method} {c : Code} {H : Heap} {locs : List Loc} {cells slots : Nat} {Q : State → Prop}
variable {cc : ByteArray} {pc : Nat} {ls : Array Slot} {rest : List Value} {G : zG} {A : Nat → Prop} {H0 : Heap} {w : va_W}
theorem z_initN {S : Type} {own host : String} {index : Nat} {y : MethodName} {bytes : ByteArray} {maxL nL mc ms : Nat} {rm : Room} {st : List Value} {Pc : Array Value → State → Prop} {b : Nat} {wr wc : va_W} {post : S → Prop} {blk : S → va_W}
    (X : p.tables.exec = Jvm.exec ∧ c.code = cc ∧ c.maxLocals = nL ∧ s.vm.findClass own = some m.cls ∧ (∀ w ∈ zT, w.before args s = true)) (hA : ∀ q, s.heap.size ≤ q → A q) (hP : va_P G.1 vwCl (wr ++ wc) H) (hD : va_D A (wr ++ wc)) (hS : va_S A s.heap H locs) (hls : ls.size = nL)
    (hM : Met l y (Cond.code y bytes maxL none :: zT) rm Pc (zQi G post blk wc H.size) mc ms (va_A wc H.size))
    (hlink : va_Nw (.methodLinkNest own index y host) s) (hm : Cond.code y bytes maxL none ∈ zT ∧ Cond.initialized y.cls ∈ zT ∧ Cond.instanceMethod y ∈ zT) (hy : y.name = "<init>" ∧ y.cls ≠ "java/lang/invoke/MethodHandle" ∧ y.cls ≠ "java/lang/invoke/VarHandle" ∧ (parseMethodDescriptor y.desc).map (fun d => d.parameters.length) = some 0)
    (hR : rm.cells = mc ∧ rm.slots = ms ∧ rm.frames + 1 ≤ R.frames ∧ 8 + (maxL + 11) + rm.locals ≤ R.locals)
    (hp : PreS s H Pc [.ref b]) (hst : st = .ref b :: rest) (hrest : (rest.map fun v => v.category).sum ≤ 8)
    (hdg : decode cc pc = .ok (.invokespecial index, 3)) (hcs : cells + mc ≤ R.cells ∧ slots + ms ≤ R.slots)
    (kk : ∀ (a : S) (H1 : Heap) (locs1 : List Loc), post a → va_P G.1 vwCl (wr ++ blk a) H1 → va_D A (wr ++ blk a) → va_S A s.heap H1 locs1 → W p l e R s m args below meth c H1 locs1 (cells + mc) (slots + ms) Q (F0 m (pc + 3) ls rest)) : W p l e R s m args below meth c H locs cells slots Q (F0 m pc ls st) := by
  subst hst
  obtain ⟨hx, hb, hml, hown, hts⟩ := X
  have hF : ∀ q, va_A wc H.size q → A q := fun q h => by
    rcases h with ⟨k, e, h⟩ | h
    · exact (va_D_nd.mp hD).2 (q, e) (List.mem_append_right _ (List.mem_of_getElem? h))
    · exact hA q (Nat.le_trans hS.1 h)
  refine va_callv (va_runIN (As := []) (rest := rest) ⟨hx, hb, hml, hown, hts⟩ hM ⟨va_cnB 0 hts (zt_cons hm.1) rfl hR.1 hR.2.1 hlink (hts _ hm.2.1) hy.2 hR.2.2, hy.1, hts _ hm.2.2⟩ hp rfl rfl hls rfl (lv_room hrest) hdg hcs) hS (fun q _ h => hF q h) hF (fun u t H1 locs1 ht hvm hw hB hz hk hS1 => ?_)
  obtain ⟨hP1, hD1⟩ := hB
  rw [ht] at hP1
  obtain ⟨hP2, hD2⟩ := va_joinL hP hD hk hF hP1 hD1
  exact kk u H1 locs1 hw hP2 hD2 hS1
theorem z_initS {S : Type} {own : String} {index : Nat} {y : MethodName} {bytes : ByteArray} {maxL nL mc ms : Nat} {rm : Room} {st : List Value} {Pc : Array Value → State → Prop} {b : Nat} {wr wc : va_W} {post : S → Prop} {blk : S → va_W}
    (X : p.tables.exec = Jvm.exec ∧ c.code = cc ∧ c.maxLocals = nL ∧ s.vm.findClass own = some m.cls ∧ (∀ w ∈ zT, w.before args s = true)) (hA : ∀ q, s.heap.size ≤ q → A q) (hP : va_P G.1 vwCl (wr ++ wc) H) (hD : va_D A (wr ++ wc)) (hS : va_S A s.heap H locs) (hls : ls.size = nL)
    (hM : Met l y (Cond.code y bytes maxL none :: zT) rm Pc (zQi G post blk wc H.size) mc ms (va_A wc H.size))
    (hlink : Cond.methodLink own index y ∈ zT) (hm : Cond.code y bytes maxL none ∈ zT ∧ Cond.initialized y.cls ∈ zT ∧ Cond.instanceMethod y ∈ zT) (hy : y.name = "<init>" ∧ y.cls ≠ "java/lang/invoke/MethodHandle" ∧ y.cls ≠ "java/lang/invoke/VarHandle" ∧ (parseMethodDescriptor y.desc).map (fun d => d.parameters.length) = some 0)
    (hR : rm.cells = mc ∧ rm.slots = ms ∧ rm.frames + 1 ≤ R.frames ∧ 8 + (maxL + 11) + rm.locals ≤ R.locals)
    (hp : PreS s H Pc [.ref b]) (hst : st = .ref b :: rest) (hrest : (rest.map fun v => v.category).sum ≤ 8)
    (hdg : decode cc pc = .ok (.invokespecial index, 3)) (hcs : cells + mc ≤ R.cells ∧ slots + ms ≤ R.slots)
    (kk : ∀ (a : S) (H1 : Heap) (locs1 : List Loc), post a → va_P G.1 vwCl (wr ++ blk a) H1 → va_D A (wr ++ blk a) → va_S A s.heap H1 locs1 → W p l e R s m args below meth c H1 locs1 (cells + mc) (slots + ms) Q (F0 m (pc + 3) ls rest)) : W p l e R s m args below meth c H locs cells slots Q (F0 m pc ls st) := by
  subst hst
  obtain ⟨hx, hb, hml, hown, hts⟩ := X
  have hF : ∀ q, va_A wc H.size q → A q := fun q h => by
    rcases h with ⟨k, e, h⟩ | h
    · exact (va_D_nd.mp hD).2 (q, e) (List.mem_append_right _ (List.mem_of_getElem? h))
    · exact hA q (Nat.le_trans hS.1 h)
  refine va_callv (va_runI (As := []) (rest := rest) ⟨hx, hb, hml, hown, hts⟩ hM (cwI 0 hts (zt_cons hm.1) rfl hR.1 hR.2.1 (hts _ hm.2.1) (hts _ hlink) (hts _ hm.2.2) hy.1 hy.2 hR.2.2) hp rfl rfl hls rfl (lv_room hrest) hdg hcs) hS (fun q _ h => hF q h) hF (fun u t H1 locs1 ht hvm hw hB hz hk hS1 => ?_)
  obtain ⟨hP1, hD1⟩ := hB
  rw [ht] at hP1
  obtain ⟨hP2, hD2⟩ := va_joinL hP hD hk hF hP1 hD1
  exact kk u H1 locs1 hw hP2 hD2 hS1
theorem z_newI {N : Nat} {n : Int} (hexec : p.tables.exec = Jvm.exec) (hb : c.code = cc) (hts : ∀ w ∈ zT, w.before args s = true) (hK : zK G s) (hP : va_P G.1 vwCl w H) (hD : va_D A w) (hS : va_S A H0 H locs) (hA : ∀ q, H0.size ≤ q → A q) (hn : n = N ∧ N < 100000) (hcells : cells + 1 ≤ R.cells) (hslots : slots + N ≤ R.slots) (hdg : decode cc pc = .ok (.newarray .int, 2))
    (kk : ∀ (q : Nat) (H1 : Heap), va_P G.1 vwCl (w ++ [(q, .inl (G.2.1, N, .inl (fun _ => iV 0)))]) H1 → va_D A (w ++ [(q, .inl (G.2.1, N, .inl (fun _ => iV 0)))]) → va_S A H0 H1 locs → W p l e R s m args below meth c H1 locs (cells + 1) (slots + N) Q (F0 m (pc + 2) ls (.ref q :: rest))) : W p l e R s m args below meth c H locs cells slots Q (F0 m pc ls (.int (iV n) :: rest)) := by
  obtain ⟨rfl, hN⟩ := hn
  have hr : iR (Nat.cast N : Int) := ⟨by omega, by omega⟩
  refine va_newa (atype := .int) (ty := .int) hexec hb (hts _ wd_51) rfl hK hP hD hS hA (N' := N) (a0 := (N, .inl (fun _ => iV 0))) (fun cA => rfl) (fun q => by have q2 : iV (Nat.cast N : Int) < iV 0 := q; rw [iV_lt hr zr0] at q2; omega) (by rw [iV_nat hr]; omega) (by show N * 4 ≤ _; omega) hcells hslots hdg (fun q cA H1 hK1 hP1 hD1 hS1 => ?_)
  obtain rfl : cA = G.2.1 := Option.some.inj ((hK1.2 4 (cA, .int) rfl).2.symm.trans (hK.2 0 (G.2.1, .int) rfl).2)
  exact kk q H1 hP1 hD1 hS1
theorem z_newZ {N : Nat} {n : Int} (hexec : p.tables.exec = Jvm.exec) (hb : c.code = cc) (hts : ∀ w ∈ zT, w.before args s = true) (hK : zK G s) (hP : va_P G.1 vwCl w H) (hD : va_D A w) (hS : va_S A H0 H locs) (hA : ∀ q, H0.size ≤ q → A q) (hn : n = N ∧ N < 100000) (hcells : cells + 1 ≤ R.cells) (hslots : slots + N ≤ R.slots) (hdg : decode cc pc = .ok (.newarray .boolean, 2))
    (kk : ∀ (q : Nat) (H1 : Heap), va_P G.1 vwCl (w ++ [(q, .inl (G.2.2.1, N, .inl (fun _ => iV 0)))]) H1 → va_D A (w ++ [(q, .inl (G.2.2.1, N, .inl (fun _ => iV 0)))]) → va_S A H0 H1 locs → W p l e R s m args below meth c H1 locs (cells + 1) (slots + N) Q (F0 m (pc + 2) ls (.ref q :: rest))) : W p l e R s m args below meth c H locs cells slots Q (F0 m pc ls (.int (iV n) :: rest)) := by
  obtain ⟨rfl, hN⟩ := hn
  have hr : iR (Nat.cast N : Int) := ⟨by omega, by omega⟩
  refine va_newa (atype := .boolean) (ty := .boolean) hexec hb (hts _ wd_200) rfl hK hP hD hS hA (N' := N) (a0 := (N, .inl (fun _ => iV 0))) (fun cA => rfl) (fun q => by have q2 : iV (Nat.cast N : Int) < iV 0 := q; rw [iV_lt hr zr0] at q2; omega) (by rw [iV_nat hr]; omega) (by show N * 1 ≤ _; omega) hcells hslots hdg (fun q cA H1 hK1 hP1 hD1 hS1 => ?_)
  obtain rfl : cA = G.2.2.1 := Option.some.inj ((hK1.2 4 (cA, .boolean) rfl).2.symm.trans (hK.2 1 (G.2.2.1, .boolean) rfl).2)
  exact kk q H1 hP1 hD1 hS1
theorem z_newC {N : Nat} {n : Int} (hexec : p.tables.exec = Jvm.exec) (hb : c.code = cc) (hts : ∀ w ∈ zT, w.before args s = true) (hK : zK G s) (hP : va_P G.1 vwCl w H) (hD : va_D A w) (hS : va_S A H0 H locs) (hA : ∀ q, H0.size ≤ q → A q) (hn : n = N ∧ N < 100000) (hcells : cells + 1 ≤ R.cells) (hslots : slots + N ≤ R.slots) (hdg : decode cc pc = .ok (.newarray .char, 2))
    (kk : ∀ (q : Nat) (H1 : Heap), va_P G.1 vwCl (w ++ [(q, .inl (G.2.2.2.1, N, .inl (fun _ => iV 0)))]) H1 → va_D A (w ++ [(q, .inl (G.2.2.2.1, N, .inl (fun _ => iV 0)))]) → va_S A H0 H1 locs → W p l e R s m args below meth c H1 locs (cells + 1) (slots + N) Q (F0 m (pc + 2) ls (.ref q :: rest))) : W p l e R s m args below meth c H locs cells slots Q (F0 m pc ls (.int (iV n) :: rest)) := by
  obtain ⟨rfl, hN⟩ := hn
  have hr : iR (Nat.cast N : Int) := ⟨by omega, by omega⟩
  refine va_newa (atype := .char) (ty := .char) hexec hb (hts _ wd_133) rfl hK hP hD hS hA (N' := N) (a0 := (N, .inl (fun _ => iV 0))) (fun cA => rfl) (fun q => by have q2 : iV (Nat.cast N : Int) < iV 0 := q; rw [iV_lt hr zr0] at q2; omega) (by rw [iV_nat hr]; omega) (by show N * 2 ≤ _; omega) hcells hslots hdg (fun q cA H1 hK1 hP1 hD1 hS1 => ?_)
  obtain rfl : cA = G.2.2.2.1 := Option.some.inj ((hK1.2 4 (cA, .char) rfl).2.symm.trans (hK.2 2 (G.2.2.2.1, .char) rfl).2)
  exact kk q H1 hP1 hD1 hS1
theorem z_newP {own : String} {index N : Nat} {n : Int} (hexec : p.tables.exec = Jvm.exec) (hb : c.code = cc) (hown : s.vm.findClass own = some m.cls) (hlink : (Cond.classLink own index "HillStrokes$Picture").before args s = true) (hao : va_AO "HillStrokes$Picture" s) (hK : zK G s) (hP : va_P G.1 vwCl w H) (hD : va_D A w) (hS : va_S A H0 H locs) (hA : ∀ q, H0.size ≤ q → A q) (hn : n = N ∧ N < 100000) (hcells : cells + 1 ≤ R.cells) (hslots : slots + N ≤ R.slots) (hdg : decode cc pc = .ok (.anewarray index, 3))
    (kk : ∀ (q : Nat) (H1 : Heap), va_P G.1 vwCl (w ++ [(q, .inl (G.2.2.2.2, N, .inr (.inr (.inr (.inr (fun _ => none))))))]) H1 → va_D A (w ++ [(q, .inl (G.2.2.2.2, N, .inr (.inr (.inr (.inr (fun _ => none))))))]) → va_S A H0 H1 locs → W p l e R s m args below meth c H1 locs (cells + 1) (slots + N) Q (F0 m (pc + 3) ls (.ref q :: rest))) : W p l e R s m args below meth c H locs cells slots Q (F0 m pc ls (.int (iV n) :: rest)) := by
  obtain ⟨rfl, hN⟩ := hn
  have hr : iR (Nat.cast N : Int) := ⟨by omega, by omega⟩
  refine va_newq hexec hb hown hlink hao hK hP hD hS hA (N' := N) (fun q => by have q2 : iV (Nat.cast N : Int) < iV 0 := q; rw [iV_lt hr zr0] at q2; omega) (by rw [iV_nat hr]; omega) (by omega) hcells hslots hdg (fun q cA H1 hK1 hP1 hD1 hS1 => ?_)
  obtain rfl : cA = G.2.2.2.2 := by
    obtain ⟨-, -, -, -, -, h1⟩ := (hK1.2 4 (cA, .object "HillStrokes$Picture") rfl).2
    obtain ⟨-, -, -, -, -, h2⟩ := (hK.2 3 (G.2.2.2.2, .object "HillStrokes$Picture") rfl).2
    exact Option.some.inj (h1.symm.trans h2)
  exact kk q H1 hP1 hD1 hS1
theorem z_reti {S : Type} {post : S → Prop} {blk : S → va_W} {w0 : va_W} {mc ms : Nat} (u : S) (hexec : p.tables.exec = Jvm.exec) (hb : c.code = cc) (hr : meth.sig.returnType = none) (hlocks : meth.locks = false) (hu : post u) (hP : va_P G.1 vwCl (blk u) H) (hD : va_D (va_A w0 s.heap.size) (blk u)) (hS : va_S (va_A w0 s.heap.size) s.heap H locs) (hdg : decode cc pc = .ok (.return_, 1)) : W p l e R s m args below meth c H locs mc ms (MQ below (zQi G post blk w0 s.heap.size) args s mc ms (va_A w0 s.heap.size)) (F0 m pc ls []) := W.vret hexec hb hr (fun t ht hW => ⟨⟨u, rfl, hu, by show va_P G.1 vwCl (blk u) t.heap ∧ _; rw [ht]; exact ⟨hP, hD⟩⟩, hS.F ht⟩) hS.2.2 hdg hlocks
end ZM
/-! blocks of cells: script, lamps, shading, levels, past -/
def zGr (G : zG) (a : Nat → Nat) : va_W := [(a 0, .inr (0, [.int (iV 0), .int (iV 0), .ref (a 1)])), (a 1, .inl (G.2.1, 81, .inl (fun _ => iV 0)))]
def zSh0 (G : zG) (a : Nat → Nat) : va_W := [(a 0, .inr (7, [.int (iV 0), .ref (a 1), .ref (a 2), .ref (a 3)])), (a 1, .inl (G.2.1, 20, .inl (fun _ => iV 0))), (a 2, .inl (G.2.1, 20, .inl (fun _ => iV 0))), (a 3, .inl (G.2.1, 120, .inl (fun _ => iV 0)))]
def zScr (G : zG) (a : Nat → Nat) (kn : Int) (tx : Nat → Int) (kr : Int) : va_W := [(a 0, .inr (5, [.int (iV kn), .ref (a 1), .int (iV kr)])), (a 1, .inl (G.2.2.2.1, 200, .inl (fun k => iV (tx k))))]
def zLam (G : zG) (a : Nat → Nat) (bS : Int) (bF kF : Nat → Int) : va_W := [(a 0, .inr (1, [.int (iV bS), .ref (a 1), .ref (a 2)])), (a 1, .inl (G.2.1, 4, .inl (fun k => iV (bF k)))), (a 2, .inl (G.2.1, 32, .inl (fun k => iV (kF k))))]
def zLev (G : zG) (a : Nat → Nat) (sF pF : Nat → Int) : va_W := [(a 0, .inr (2, [.ref (a 1), .ref (a 2)])), (a 1, .inl (G.2.2.1, 81, .inl (fun k => iV (sF k)))), (a 2, .inl (G.2.1, 81, .inl (fun k => iV (pF k))))]
abbrev xS9 : Type := Int × Int × (Nat → Int) × (Nat → Int) × (Nat → Int) × (Nat → Int) × (Nat → Int) × (Nat → Int) × (Nat → Int)
def zShd (G : zG) (a : Nat → Nat) (x : xS9) : va_W := [(a 0, .inr (6, [.int (iV x.1), .int (iV x.2.1), .ref (a 1), .ref (a 2), .ref (a 3), .ref (a 4), .ref (a 5), .ref (a 6), .ref (a 7)])), (a 1, .inl (G.2.1, 37, .inl (fun k => iV (x.2.2.1 k)))), (a 2, .inl (G.2.1, 37, .inl (fun k => iV (x.2.2.2.1 k)))), (a 3, .inl (G.2.1, 38, .inl (fun k => iV (x.2.2.2.2.1 k)))), (a 4, .inl (G.2.1, 38, .inl (fun k => iV (x.2.2.2.2.2.1 k)))), (a 5, .inl (G.2.1, 266, .inl (fun k => iV (x.2.2.2.2.2.2.1 k)))), (a 6, .inl (G.2.1, 266, .inl (fun k => iV (x.2.2.2.2.2.2.2.1 k)))), (a 7, .inl (G.2.1, 7, .inl (fun k => iV (x.2.2.2.2.2.2.2.2 k))))]
def pP0 : pT := (0, 0, fun _ => 0, 0, fun _ => 0, fun _ => 0, fun _ => 0, fun _ => 0, 0)
def zPas (G : zG) (b : Nat → Nat) (r : Nat → Nat → Nat) (bs bn : Int) (K : Nat → pT) : va_W := [(b 0, .inr (3, [.int (iV bs), .int (iV bn), .ref (b 1)])), (b 1, .inl (G.2.2.2.2, 6, .inr (.inr (.inr (.inr (fun k => some (r k 0)))))))] ++ (zPic G (r 0) (K 0) ++ (zPic G (r 1) (K 1) ++ (zPic G (r 2) (K 2) ++ (zPic G (r 3) (K 3) ++ (zPic G (r 4) (K 4) ++ zPic G (r 5) (K 5))))))
def xX0 : xS9 := (0, 0, fun _ => 0, fun _ => 0, fun _ => 0, fun _ => 0, fun _ => 0, fun _ => 0, fun _ => 0)
set_option maxHeartbeats 4000000 in
set_option maxRecDepth 100000 in
theorem c_X0_init (l : Launch) (G : zG) (sz q0 : Nat) : Met l yX0_init (Cond.code yX0_init cX0_init 1 none :: zT) (zRc 1 12 1 81) (zP0 G [.ref q0] [(q0, .inr (0, [.int (iV 0), .int (iV 0), .null]))] sz) (zQi G (fun a : Nat → Nat => a 0 = q0) (fun a : Nat → Nat => zGr G a) [(q0, .inr (0, [.int (iV 0), .int (iV 0), .null]))] sz) 1 81 (va_A [(q0, .inr (0, [.int (iV 0), .int (iV 0), .null]))] sz) := by
  refine Met.ofW (cc := cX0_init) (maxL := 1) (ret := none) (by decide) rfl ?_
  intro p e s m args below meth c s₁ B hml hv
  obtain ⟨rfl, hsz, hP, hK, hD0, hNw⟩ := hv
  have hx := B.exec
  have hb := B.bytes
  have hr := B.returns
  have hts : ∀ w ∈ zT, w.before _ s = true := fun w h => atoms_spec (ws := (Cond.code yX0_init cX0_init 1 none :: zT)) B.pre w (List.mem_cons_of_mem _ h)
  have hown : s.vm.findClass RX0 = some m.cls := findClass_of_methodNamed B.named
  have hlocks := B.notSynchronized
  have hin : meth.name = "<init>" := (name_of_methodNamed B.named B.method).1
  subst hsz
  have hD : va_D (va_A [(q0, .inr (0, [.int (iV 0), .int (iV 0), .null]))] s.heap.size) [(q0, .inr (0, [.int (iV 0), .int (iV 0), .null]))] := hD0.self
  have hA : ∀ q : Nat, s.heap.size ≤ q → va_A [(q0, .inr (0, [.int (iV 0), .int (iV 0), .null]))] s.heap.size q := fun q h => Or.inr h
  have hS : va_S (va_A [(q0, .inr (0, [.int (iV 0), .int (iV 0), .null]))] s.heap.size) s.heap s.heap [] := va_S.rf
  have hP : va_P G.1 vwCl [(q0, .inr (0, [.int (iV 0), .int (iV 0), .null]))] s.heap := hP
  have X := And.intro hx (And.intro hb (And.intro hml (And.intro hown hts)))
  have hl := lv_entry ([.ref q0]) (n := 1) (Nat.le_of_ble_eq_true rfl)
  rw [lg_entry_eq]
  generalize (lg_sl ([.ref q0]) ++ List.replicate (1 - (lg_sl ([.ref q0])).length) Slot.unset).toArray = ls at hl ⊢
  have hl : lv_has ls 1 [(0, .ref q0)] := hl
  refine lv_aload_n hx hb dX0_init_0 rfl (lv_at hl 0 rfl) ?_
  refine W.objInit hx hb hown (hts _ wd_36) (hts _ wd_23) (hts _ wd_24) rfl (by rw [hml]; exact hl.1) rfl dX0_init_1 (Nat.le_of_ble_eq_true rfl) (Nat.le_of_ble_eq_true rfl) ?_
  refine W.eq (g2 := F0 m 4 ls []) rfl ?_
  refine lv_aload_n hx hb dX0_init_4 rfl (lv_at hl 0 rfl) ?_
  refine lv_bipush (v := iV 81) hx hb dX0_init_5 (by decide) ?_
  refine z_newI (N := 81) hx hb hts hK hP hD hS hA ⟨rfl, by decide⟩ (Nat.le_of_ble_eq_true rfl) (Nat.le_of_ble_eq_true rfl) dX0_init_7 (fun q7 H hP hD hS => ?_)
  refine W.widen (k := 1) (n := 81) (Nat.le_of_ble_eq_true rfl) (Nat.le_of_ble_eq_true rfl) ?_
  have hP : va_P G.1 vwCl ([(q0, .inr (0, [.int (iV 0), .int (iV 0), .null]))] ++ [(q7, .inl (G.2.1, 81, .inl (fun _ => iV 0)))]) _ := hP
  have hD : va_D _ ([(q0, .inr (0, [.int (iV 0), .int (iV 0), .null]))] ++ [(q7, .inl (G.2.1, 81, .inl (fun _ => iV 0)))]) := hD
  refine va_putF (D := G.1) (ci := 0) (v := .ref q7) (ty := tyX0 2) (C := RX0) (T := TX0) (N := 3) hx hb hts inX0 tyX0 tyX0_ok nmX0 hown hK hP hD hS 0 rfl rfl 2 (by decide) (hts _ wd_43) (fun _ h9 => h9) rfl hin rfl (tyX0_ok 2 (by decide)) rfl rfl (Nat.le_of_ble_eq_true rfl) dX0_init_9 (fun H locs hP hD hS => ?_)
  have hP : va_P G.1 vwCl ([(q0, .inr (0, [.int (iV 0), .int (iV 0), .ref q7]))] ++ [(q7, .inl (G.2.1, 81, .inl (fun _ => iV 0)))]) _ := hP
  have hD : va_D _ ([(q0, .inr (0, [.int (iV 0), .int (iV 0), .ref q7]))] ++ [(q7, .inl (G.2.1, 81, .inl (fun _ => iV 0)))]) := hD
  exact z_reti (fun i => match i with | 0 => q0 | _ => q7) hx hb hr hlocks rfl hP hD hS dX0_init_12
set_option maxHeartbeats 4000000 in
set_option maxRecDepth 100000 in
theorem c_X7_init (l : Launch) (G : zG) (sz q0 : Nat) : Met l yX7_init (Cond.code yX7_init cX7_init 1 none :: zT) (zRc 1 12 3 160) (zP0 G [.ref q0] [(q0, .inr (7, [.int (iV 0), .null, .null, .null]))] sz) (zQi G (fun a : Nat → Nat => a 0 = q0) (fun a : Nat → Nat => zSh0 G a) [(q0, .inr (7, [.int (iV 0), .null, .null, .null]))] sz) 3 160 (va_A [(q0, .inr (7, [.int (iV 0), .null, .null, .null]))] sz) := by
  refine Met.ofW (cc := cX7_init) (maxL := 1) (ret := none) (by decide) rfl ?_
  intro p e s m args below meth c s₁ B hml hv
  obtain ⟨rfl, hsz, hP, hK, hD0, hNw⟩ := hv
  have hx := B.exec
  have hb := B.bytes
  have hr := B.returns
  have hts : ∀ w ∈ zT, w.before _ s = true := fun w h => atoms_spec (ws := (Cond.code yX7_init cX7_init 1 none :: zT)) B.pre w (List.mem_cons_of_mem _ h)
  have hown : s.vm.findClass RX7 = some m.cls := findClass_of_methodNamed B.named
  have hlocks := B.notSynchronized
  have hin : meth.name = "<init>" := (name_of_methodNamed B.named B.method).1
  subst hsz
  have hD : va_D (va_A [(q0, .inr (7, [.int (iV 0), .null, .null, .null]))] s.heap.size) [(q0, .inr (7, [.int (iV 0), .null, .null, .null]))] := hD0.self
  have hA : ∀ q : Nat, s.heap.size ≤ q → va_A [(q0, .inr (7, [.int (iV 0), .null, .null, .null]))] s.heap.size q := fun q h => Or.inr h
  have hS : va_S (va_A [(q0, .inr (7, [.int (iV 0), .null, .null, .null]))] s.heap.size) s.heap s.heap [] := va_S.rf
  have hP : va_P G.1 vwCl [(q0, .inr (7, [.int (iV 0), .null, .null, .null]))] s.heap := hP
  have X := And.intro hx (And.intro hb (And.intro hml (And.intro hown hts)))
  have hl := lv_entry ([.ref q0]) (n := 1) (Nat.le_of_ble_eq_true rfl)
  rw [lg_entry_eq]
  generalize (lg_sl ([.ref q0]) ++ List.replicate (1 - (lg_sl ([.ref q0])).length) Slot.unset).toArray = ls at hl ⊢
  have hl : lv_has ls 1 [(0, .ref q0)] := hl
  refine lv_aload_n hx hb dX7_init_0 rfl (lv_at hl 0 rfl) ?_
  refine W.objInit hx hb hown (hts _ wd_57) (hts _ wd_23) (hts _ wd_24) rfl (by rw [hml]; exact hl.1) rfl dX7_init_1 (Nat.le_of_ble_eq_true rfl) (Nat.le_of_ble_eq_true rfl) ?_
  refine W.eq (g2 := F0 m 4 ls []) rfl ?_
  refine lv_aload_n hx hb dX7_init_4 rfl (lv_at hl 0 rfl) ?_
  refine lv_bipush (v := iV 20) hx hb dX7_init_5 (by decide) ?_
  refine z_newI (N := 20) hx hb hts hK hP hD hS hA ⟨rfl, by decide⟩ (Nat.le_of_ble_eq_true rfl) (Nat.le_of_ble_eq_true rfl) dX7_init_7 (fun q7 H hP hD hS => ?_)
  refine W.widen (k := 1) (n := 20) (Nat.le_of_ble_eq_true rfl) (Nat.le_of_ble_eq_true rfl) ?_
  have hP : va_P G.1 vwCl ([(q0, .inr (7, [.int (iV 0), .null, .null, .null]))] ++ [(q7, .inl (G.2.1, 20, .inl (fun _ => iV 0)))]) _ := hP
  have hD : va_D _ ([(q0, .inr (7, [.int (iV 0), .null, .null, .null]))] ++ [(q7, .inl (G.2.1, 20, .inl (fun _ => iV 0)))]) := hD
  refine va_putF (D := G.1) (ci := 7) (v := .ref q7) (ty := tyX7 1) (C := RX7) (T := TX7) (N := 4) hx hb hts inX7 tyX7 tyX7_ok nmX7 hown hK hP hD hS 0 rfl rfl 1 (by decide) (hts _ wd_60) (fun _ h9 => h9) rfl hin rfl (tyX7_ok 1 (by decide)) rfl rfl (Nat.le_of_ble_eq_true rfl) dX7_init_9 (fun H locs hP hD hS => ?_)
  have hP : va_P G.1 vwCl ([(q0, .inr (7, [.int (iV 0), .ref q7, .null, .null]))] ++ [(q7, .inl (G.2.1, 20, .inl (fun _ => iV 0)))]) _ := hP
  have hD : va_D _ ([(q0, .inr (7, [.int (iV 0), .ref q7, .null, .null]))] ++ [(q7, .inl (G.2.1, 20, .inl (fun _ => iV 0)))]) := hD
  refine lv_aload_n hx hb dX7_init_12 rfl (lv_at hl 0 rfl) ?_
  refine lv_bipush (v := iV 20) hx hb dX7_init_13 (by decide) ?_
  refine z_newI (N := 20) hx hb hts hK hP hD hS hA ⟨rfl, by decide⟩ (Nat.le_of_ble_eq_true rfl) (Nat.le_of_ble_eq_true rfl) dX7_init_15 (fun q15 H hP hD hS => ?_)
  refine W.widen (k := 2) (n := 40) (Nat.le_of_ble_eq_true rfl) (Nat.le_of_ble_eq_true rfl) ?_
  have hP : va_P G.1 vwCl (([(q0, .inr (7, [.int (iV 0), .ref q7, .null, .null]))] ++ [(q7, .inl (G.2.1, 20, .inl (fun _ => iV 0)))]) ++ [(q15, .inl (G.2.1, 20, .inl (fun _ => iV 0)))]) _ := hP
  have hD : va_D _ (([(q0, .inr (7, [.int (iV 0), .ref q7, .null, .null]))] ++ [(q7, .inl (G.2.1, 20, .inl (fun _ => iV 0)))]) ++ [(q15, .inl (G.2.1, 20, .inl (fun _ => iV 0)))]) := hD
  refine va_putF (D := G.1) (ci := 7) (v := .ref q15) (ty := tyX7 2) (C := RX7) (T := TX7) (N := 4) hx hb hts inX7 tyX7 tyX7_ok nmX7 hown hK hP hD hS 0 rfl rfl 2 (by decide) (hts _ wd_62) (fun _ h9 => h9) rfl hin rfl (tyX7_ok 2 (by decide)) rfl rfl (Nat.le_of_ble_eq_true rfl) dX7_init_17 (fun H locs hP hD hS => ?_)
  have hP : va_P G.1 vwCl (([(q0, .inr (7, [.int (iV 0), .ref q7, .ref q15, .null]))] ++ [(q7, .inl (G.2.1, 20, .inl (fun _ => iV 0)))]) ++ [(q15, .inl (G.2.1, 20, .inl (fun _ => iV 0)))]) _ := hP
  have hD : va_D _ (([(q0, .inr (7, [.int (iV 0), .ref q7, .ref q15, .null]))] ++ [(q7, .inl (G.2.1, 20, .inl (fun _ => iV 0)))]) ++ [(q15, .inl (G.2.1, 20, .inl (fun _ => iV 0)))]) := hD
  refine lv_aload_n hx hb dX7_init_20 rfl (lv_at hl 0 rfl) ?_
  refine lv_bipush (v := iV 120) hx hb dX7_init_21 (by decide) ?_
  refine z_newI (N := 120) hx hb hts hK hP hD hS hA ⟨rfl, by decide⟩ (Nat.le_of_ble_eq_true rfl) (Nat.le_of_ble_eq_true rfl) dX7_init_23 (fun q23 H hP hD hS => ?_)
  refine W.widen (k := 3) (n := 160) (Nat.le_of_ble_eq_true rfl) (Nat.le_of_ble_eq_true rfl) ?_
  have hP : va_P G.1 vwCl ((([(q0, .inr (7, [.int (iV 0), .ref q7, .ref q15, .null]))] ++ [(q7, .inl (G.2.1, 20, .inl (fun _ => iV 0)))]) ++ [(q15, .inl (G.2.1, 20, .inl (fun _ => iV 0)))]) ++ [(q23, .inl (G.2.1, 120, .inl (fun _ => iV 0)))]) _ := hP
  have hD : va_D _ ((([(q0, .inr (7, [.int (iV 0), .ref q7, .ref q15, .null]))] ++ [(q7, .inl (G.2.1, 20, .inl (fun _ => iV 0)))]) ++ [(q15, .inl (G.2.1, 20, .inl (fun _ => iV 0)))]) ++ [(q23, .inl (G.2.1, 120, .inl (fun _ => iV 0)))]) := hD
  refine va_putF (D := G.1) (ci := 7) (v := .ref q23) (ty := tyX7 3) (C := RX7) (T := TX7) (N := 4) hx hb hts inX7 tyX7 tyX7_ok nmX7 hown hK hP hD hS 0 rfl rfl 3 (by decide) (hts _ wd_64) (fun _ h9 => h9) rfl hin rfl (tyX7_ok 3 (by decide)) rfl rfl (Nat.le_of_ble_eq_true rfl) dX7_init_25 (fun H locs hP hD hS => ?_)
  have hP : va_P G.1 vwCl ((([(q0, .inr (7, [.int (iV 0), .ref q7, .ref q15, .ref q23]))] ++ [(q7, .inl (G.2.1, 20, .inl (fun _ => iV 0)))]) ++ [(q15, .inl (G.2.1, 20, .inl (fun _ => iV 0)))]) ++ [(q23, .inl (G.2.1, 120, .inl (fun _ => iV 0)))]) _ := hP
  have hD : va_D _ ((([(q0, .inr (7, [.int (iV 0), .ref q7, .ref q15, .ref q23]))] ++ [(q7, .inl (G.2.1, 20, .inl (fun _ => iV 0)))]) ++ [(q15, .inl (G.2.1, 20, .inl (fun _ => iV 0)))]) ++ [(q23, .inl (G.2.1, 120, .inl (fun _ => iV 0)))]) := hD
  exact z_reti (fun i => match i with | 0 => q0 | 1 => q7 | 2 => q15 | _ => q23) hx hb hr hlocks rfl hP hD hS dX7_init_28
set_option maxHeartbeats 4000000 in
set_option maxRecDepth 100000 in
theorem c_X5_init (l : Launch) (G : zG) (sz q0 : Nat) : Met l yX5_init (Cond.code yX5_init cX5_init 1 none :: zT) (zRc 1 12 1 200) (zP0 G [.ref q0] [(q0, .inr (5, [.int (iV 0), .null, .int (iV 0)]))] sz) (zQi G (fun a : Nat → Nat => a 0 = q0) (fun a : Nat → Nat => zScr G a 0 (fun _ => 0) 0) [(q0, .inr (5, [.int (iV 0), .null, .int (iV 0)]))] sz) 1 200 (va_A [(q0, .inr (5, [.int (iV 0), .null, .int (iV 0)]))] sz) := by
  refine Met.ofW (cc := cX5_init) (maxL := 1) (ret := none) (by decide) rfl ?_
  intro p e s m args below meth c s₁ B hml hv
  obtain ⟨rfl, hsz, hP, hK, hD0, hNw⟩ := hv
  have hx := B.exec
  have hb := B.bytes
  have hr := B.returns
  have hts : ∀ w ∈ zT, w.before _ s = true := fun w h => atoms_spec (ws := (Cond.code yX5_init cX5_init 1 none :: zT)) B.pre w (List.mem_cons_of_mem _ h)
  have hown : s.vm.findClass RX5 = some m.cls := findClass_of_methodNamed B.named
  have hlocks := B.notSynchronized
  have hin : meth.name = "<init>" := (name_of_methodNamed B.named B.method).1
  subst hsz
  have hD : va_D (va_A [(q0, .inr (5, [.int (iV 0), .null, .int (iV 0)]))] s.heap.size) [(q0, .inr (5, [.int (iV 0), .null, .int (iV 0)]))] := hD0.self
  have hA : ∀ q : Nat, s.heap.size ≤ q → va_A [(q0, .inr (5, [.int (iV 0), .null, .int (iV 0)]))] s.heap.size q := fun q h => Or.inr h
  have hS : va_S (va_A [(q0, .inr (5, [.int (iV 0), .null, .int (iV 0)]))] s.heap.size) s.heap s.heap [] := va_S.rf
  have hP : va_P G.1 vwCl [(q0, .inr (5, [.int (iV 0), .null, .int (iV 0)]))] s.heap := hP
  have X := And.intro hx (And.intro hb (And.intro hml (And.intro hown hts)))
  have hl := lv_entry ([.ref q0]) (n := 1) (Nat.le_of_ble_eq_true rfl)
  rw [lg_entry_eq]
  generalize (lg_sl ([.ref q0]) ++ List.replicate (1 - (lg_sl ([.ref q0])).length) Slot.unset).toArray = ls at hl ⊢
  have hl : lv_has ls 1 [(0, .ref q0)] := hl
  refine lv_aload_n hx hb dX5_init_0 rfl (lv_at hl 0 rfl) ?_
  refine W.objInit hx hb hown (hts _ wd_121) (hts _ wd_23) (hts _ wd_24) rfl (by rw [hml]; exact hl.1) rfl dX5_init_1 (Nat.le_of_ble_eq_true rfl) (Nat.le_of_ble_eq_true rfl) ?_
  refine W.eq (g2 := F0 m 4 ls []) rfl ?_
  refine lv_aload_n hx hb dX5_init_4 rfl (lv_at hl 0 rfl) ?_
  refine lv_sipush (v := iV 200) hx hb dX5_init_5 (by decide) ?_
  refine z_newC (N := 200) hx hb hts hK hP hD hS hA ⟨rfl, by decide⟩ (Nat.le_of_ble_eq_true rfl) (Nat.le_of_ble_eq_true rfl) dX5_init_8 (fun q8 H hP hD hS => ?_)
  refine W.widen (k := 1) (n := 200) (Nat.le_of_ble_eq_true rfl) (Nat.le_of_ble_eq_true rfl) ?_
  have hP : va_P G.1 vwCl ([(q0, .inr (5, [.int (iV 0), .null, .int (iV 0)]))] ++ [(q8, .inl (G.2.2.2.1, 200, .inl (fun _ => iV 0)))]) _ := hP
  have hD : va_D _ ([(q0, .inr (5, [.int (iV 0), .null, .int (iV 0)]))] ++ [(q8, .inl (G.2.2.2.1, 200, .inl (fun _ => iV 0)))]) := hD
  refine va_putF (D := G.1) (ci := 5) (v := .ref q8) (ty := tyX5 1) (C := RX5) (T := TX5) (N := 3) hx hb hts inX5 tyX5 tyX5_ok nmX5 hown hK hP hD hS 0 rfl rfl 1 (by decide) (hts _ wd_124) (fun _ h9 => h9) rfl hin rfl (tyX5_ok 1 (by decide)) rfl rfl (Nat.le_of_ble_eq_true rfl) dX5_init_10 (fun H locs hP hD hS => ?_)
  have hP : va_P G.1 vwCl ([(q0, .inr (5, [.int (iV 0), .ref q8, .int (iV 0)]))] ++ [(q8, .inl (G.2.2.2.1, 200, .inl (fun _ => iV 0)))]) _ := hP
  have hD : va_D _ ([(q0, .inr (5, [.int (iV 0), .ref q8, .int (iV 0)]))] ++ [(q8, .inl (G.2.2.2.1, 200, .inl (fun _ => iV 0)))]) := hD
  exact z_reti (fun i => match i with | 0 => q0 | _ => q8) hx hb hr hlocks rfl hP hD hS dX5_init_13
set_option maxHeartbeats 4000000 in
set_option maxRecDepth 100000 in
theorem c_X1_init (l : Launch) (G : zG) (sz q0 : Nat) : Met l yX1_init (Cond.code yX1_init cX1_init 1 none :: zT) (zRc 1 12 2 36) (zP0 G [.ref q0] [(q0, .inr (1, [.int (iV 0), .null, .null]))] sz) (zQi G (fun a : Nat → Nat => a 0 = q0) (fun a : Nat → Nat => zLam G a 0 (fun _ => 0) (fun _ => 0)) [(q0, .inr (1, [.int (iV 0), .null, .null]))] sz) 2 36 (va_A [(q0, .inr (1, [.int (iV 0), .null, .null]))] sz) := by
  refine Met.ofW (cc := cX1_init) (maxL := 1) (ret := none) (by decide) rfl ?_
  intro p e s m args below meth c s₁ B hml hv
  obtain ⟨rfl, hsz, hP, hK, hD0, hNw⟩ := hv
  have hx := B.exec
  have hb := B.bytes
  have hr := B.returns
  have hts : ∀ w ∈ zT, w.before _ s = true := fun w h => atoms_spec (ws := (Cond.code yX1_init cX1_init 1 none :: zT)) B.pre w (List.mem_cons_of_mem _ h)
  have hown : s.vm.findClass RX1 = some m.cls := findClass_of_methodNamed B.named
  have hlocks := B.notSynchronized
  have hin : meth.name = "<init>" := (name_of_methodNamed B.named B.method).1
  subst hsz
  have hD : va_D (va_A [(q0, .inr (1, [.int (iV 0), .null, .null]))] s.heap.size) [(q0, .inr (1, [.int (iV 0), .null, .null]))] := hD0.self
  have hA : ∀ q : Nat, s.heap.size ≤ q → va_A [(q0, .inr (1, [.int (iV 0), .null, .null]))] s.heap.size q := fun q h => Or.inr h
  have hS : va_S (va_A [(q0, .inr (1, [.int (iV 0), .null, .null]))] s.heap.size) s.heap s.heap [] := va_S.rf
  have hP : va_P G.1 vwCl [(q0, .inr (1, [.int (iV 0), .null, .null]))] s.heap := hP
  have X := And.intro hx (And.intro hb (And.intro hml (And.intro hown hts)))
  have hl := lv_entry ([.ref q0]) (n := 1) (Nat.le_of_ble_eq_true rfl)
  rw [lg_entry_eq]
  generalize (lg_sl ([.ref q0]) ++ List.replicate (1 - (lg_sl ([.ref q0])).length) Slot.unset).toArray = ls at hl ⊢
  have hl : lv_has ls 1 [(0, .ref q0)] := hl
  refine lv_aload_n hx hb dX1_init_0 rfl (lv_at hl 0 rfl) ?_
  refine W.objInit hx hb hown (hts _ wd_139) (hts _ wd_23) (hts _ wd_24) rfl (by rw [hml]; exact hl.1) rfl dX1_init_1 (Nat.le_of_ble_eq_true rfl) (Nat.le_of_ble_eq_true rfl) ?_
  refine W.eq (g2 := F0 m 4 ls []) rfl ?_
  refine lv_aload_n hx hb dX1_init_4 rfl (lv_at hl 0 rfl) ?_
  refine lv_iconst (v := iV 4) hx hb dX1_init_5 (by decide) ?_
  refine z_newI (N := 4) hx hb hts hK hP hD hS hA ⟨rfl, by decide⟩ (Nat.le_of_ble_eq_true rfl) (Nat.le_of_ble_eq_true rfl) dX1_init_6 (fun q6 H hP hD hS => ?_)
  refine W.widen (k := 1) (n := 4) (Nat.le_of_ble_eq_true rfl) (Nat.le_of_ble_eq_true rfl) ?_
  have hP : va_P G.1 vwCl ([(q0, .inr (1, [.int (iV 0), .null, .null]))] ++ [(q6, .inl (G.2.1, 4, .inl (fun _ => iV 0)))]) _ := hP
  have hD : va_D _ ([(q0, .inr (1, [.int (iV 0), .null, .null]))] ++ [(q6, .inl (G.2.1, 4, .inl (fun _ => iV 0)))]) := hD
  refine va_putF (D := G.1) (ci := 1) (v := .ref q6) (ty := tyX1 1) (C := RX1) (T := TX1) (N := 3) hx hb hts inX1 tyX1 tyX1_ok nmX1 hown hK hP hD hS 0 rfl rfl 1 (by decide) (hts _ wd_142) (fun _ h9 => h9) rfl hin rfl (tyX1_ok 1 (by decide)) rfl rfl (Nat.le_of_ble_eq_true rfl) dX1_init_8 (fun H locs hP hD hS => ?_)
  have hP : va_P G.1 vwCl ([(q0, .inr (1, [.int (iV 0), .ref q6, .null]))] ++ [(q6, .inl (G.2.1, 4, .inl (fun _ => iV 0)))]) _ := hP
  have hD : va_D _ ([(q0, .inr (1, [.int (iV 0), .ref q6, .null]))] ++ [(q6, .inl (G.2.1, 4, .inl (fun _ => iV 0)))]) := hD
  refine lv_aload_n hx hb dX1_init_11 rfl (lv_at hl 0 rfl) ?_
  refine lv_bipush (v := iV 32) hx hb dX1_init_12 (by decide) ?_
  refine z_newI (N := 32) hx hb hts hK hP hD hS hA ⟨rfl, by decide⟩ (Nat.le_of_ble_eq_true rfl) (Nat.le_of_ble_eq_true rfl) dX1_init_14 (fun q14 H hP hD hS => ?_)
  refine W.widen (k := 2) (n := 36) (Nat.le_of_ble_eq_true rfl) (Nat.le_of_ble_eq_true rfl) ?_
  have hP : va_P G.1 vwCl (([(q0, .inr (1, [.int (iV 0), .ref q6, .null]))] ++ [(q6, .inl (G.2.1, 4, .inl (fun _ => iV 0)))]) ++ [(q14, .inl (G.2.1, 32, .inl (fun _ => iV 0)))]) _ := hP
  have hD : va_D _ (([(q0, .inr (1, [.int (iV 0), .ref q6, .null]))] ++ [(q6, .inl (G.2.1, 4, .inl (fun _ => iV 0)))]) ++ [(q14, .inl (G.2.1, 32, .inl (fun _ => iV 0)))]) := hD
  refine va_putF (D := G.1) (ci := 1) (v := .ref q14) (ty := tyX1 2) (C := RX1) (T := TX1) (N := 3) hx hb hts inX1 tyX1 tyX1_ok nmX1 hown hK hP hD hS 0 rfl rfl 2 (by decide) (hts _ wd_144) (fun _ h9 => h9) rfl hin rfl (tyX1_ok 2 (by decide)) rfl rfl (Nat.le_of_ble_eq_true rfl) dX1_init_16 (fun H locs hP hD hS => ?_)
  have hP : va_P G.1 vwCl (([(q0, .inr (1, [.int (iV 0), .ref q6, .ref q14]))] ++ [(q6, .inl (G.2.1, 4, .inl (fun _ => iV 0)))]) ++ [(q14, .inl (G.2.1, 32, .inl (fun _ => iV 0)))]) _ := hP
  have hD : va_D _ (([(q0, .inr (1, [.int (iV 0), .ref q6, .ref q14]))] ++ [(q6, .inl (G.2.1, 4, .inl (fun _ => iV 0)))]) ++ [(q14, .inl (G.2.1, 32, .inl (fun _ => iV 0)))]) := hD
  exact z_reti (fun i => match i with | 0 => q0 | 1 => q6 | _ => q14) hx hb hr hlocks rfl hP hD hS dX1_init_19
set_option maxHeartbeats 4000000 in
set_option maxRecDepth 100000 in
theorem c_X2_init (l : Launch) (G : zG) (sz q0 : Nat) : Met l yX2_init (Cond.code yX2_init cX2_init 1 none :: zT) (zRc 1 12 2 162) (zP0 G [.ref q0] [(q0, .inr (2, [.null, .null]))] sz) (zQi G (fun a : Nat → Nat => a 0 = q0) (fun a : Nat → Nat => zLev G a (fun _ => 0) (fun _ => 0)) [(q0, .inr (2, [.null, .null]))] sz) 2 162 (va_A [(q0, .inr (2, [.null, .null]))] sz) := by
  refine Met.ofW (cc := cX2_init) (maxL := 1) (ret := none) (by decide) rfl ?_
  intro p e s m args below meth c s₁ B hml hv
  obtain ⟨rfl, hsz, hP, hK, hD0, hNw⟩ := hv
  have hx := B.exec
  have hb := B.bytes
  have hr := B.returns
  have hts : ∀ w ∈ zT, w.before _ s = true := fun w h => atoms_spec (ws := (Cond.code yX2_init cX2_init 1 none :: zT)) B.pre w (List.mem_cons_of_mem _ h)
  have hown : s.vm.findClass RX2 = some m.cls := findClass_of_methodNamed B.named
  have hlocks := B.notSynchronized
  have hin : meth.name = "<init>" := (name_of_methodNamed B.named B.method).1
  subst hsz
  have hD : va_D (va_A [(q0, .inr (2, [.null, .null]))] s.heap.size) [(q0, .inr (2, [.null, .null]))] := hD0.self
  have hA : ∀ q : Nat, s.heap.size ≤ q → va_A [(q0, .inr (2, [.null, .null]))] s.heap.size q := fun q h => Or.inr h
  have hS : va_S (va_A [(q0, .inr (2, [.null, .null]))] s.heap.size) s.heap s.heap [] := va_S.rf
  have hP : va_P G.1 vwCl [(q0, .inr (2, [.null, .null]))] s.heap := hP
  have X := And.intro hx (And.intro hb (And.intro hml (And.intro hown hts)))
  have hl := lv_entry ([.ref q0]) (n := 1) (Nat.le_of_ble_eq_true rfl)
  rw [lg_entry_eq]
  generalize (lg_sl ([.ref q0]) ++ List.replicate (1 - (lg_sl ([.ref q0])).length) Slot.unset).toArray = ls at hl ⊢
  have hl : lv_has ls 1 [(0, .ref q0)] := hl
  refine lv_aload_n hx hb dX2_init_0 rfl (lv_at hl 0 rfl) ?_
  refine W.objInit hx hb hown (hts _ wd_192) (hts _ wd_23) (hts _ wd_24) rfl (by rw [hml]; exact hl.1) rfl dX2_init_1 (Nat.le_of_ble_eq_true rfl) (Nat.le_of_ble_eq_true rfl) ?_
  refine W.eq (g2 := F0 m 4 ls []) rfl ?_
  refine lv_aload_n hx hb dX2_init_4 rfl (lv_at hl 0 rfl) ?_
  refine lv_bipush (v := iV 81) hx hb dX2_init_5 (by decide) ?_
  refine z_newZ (N := 81) hx hb hts hK hP hD hS hA ⟨rfl, by decide⟩ (Nat.le_of_ble_eq_true rfl) (Nat.le_of_ble_eq_true rfl) dX2_init_7 (fun q7 H hP hD hS => ?_)
  refine W.widen (k := 1) (n := 81) (Nat.le_of_ble_eq_true rfl) (Nat.le_of_ble_eq_true rfl) ?_
  have hP : va_P G.1 vwCl ([(q0, .inr (2, [.null, .null]))] ++ [(q7, .inl (G.2.2.1, 81, .inl (fun _ => iV 0)))]) _ := hP
  have hD : va_D _ ([(q0, .inr (2, [.null, .null]))] ++ [(q7, .inl (G.2.2.1, 81, .inl (fun _ => iV 0)))]) := hD
  refine va_putF (D := G.1) (ci := 2) (v := .ref q7) (ty := tyX2 0) (C := RX2) (T := TX2) (N := 2) hx hb hts inX2 tyX2 tyX2_ok nmX2 hown hK hP hD hS 0 rfl rfl 0 (by decide) (hts _ wd_193) (fun _ h9 => h9) rfl hin rfl (tyX2_ok 0 (by decide)) rfl rfl (Nat.le_of_ble_eq_true rfl) dX2_init_9 (fun H locs hP hD hS => ?_)
  have hP : va_P G.1 vwCl ([(q0, .inr (2, [.ref q7, .null]))] ++ [(q7, .inl (G.2.2.1, 81, .inl (fun _ => iV 0)))]) _ := hP
  have hD : va_D _ ([(q0, .inr (2, [.ref q7, .null]))] ++ [(q7, .inl (G.2.2.1, 81, .inl (fun _ => iV 0)))]) := hD
  refine lv_aload_n hx hb dX2_init_12 rfl (lv_at hl 0 rfl) ?_
  refine lv_bipush (v := iV 81) hx hb dX2_init_13 (by decide) ?_
  refine z_newI (N := 81) hx hb hts hK hP hD hS hA ⟨rfl, by decide⟩ (Nat.le_of_ble_eq_true rfl) (Nat.le_of_ble_eq_true rfl) dX2_init_15 (fun q15 H hP hD hS => ?_)
  refine W.widen (k := 2) (n := 162) (Nat.le_of_ble_eq_true rfl) (Nat.le_of_ble_eq_true rfl) ?_
  have hP : va_P G.1 vwCl (([(q0, .inr (2, [.ref q7, .null]))] ++ [(q7, .inl (G.2.2.1, 81, .inl (fun _ => iV 0)))]) ++ [(q15, .inl (G.2.1, 81, .inl (fun _ => iV 0)))]) _ := hP
  have hD : va_D _ (([(q0, .inr (2, [.ref q7, .null]))] ++ [(q7, .inl (G.2.2.1, 81, .inl (fun _ => iV 0)))]) ++ [(q15, .inl (G.2.1, 81, .inl (fun _ => iV 0)))]) := hD
  refine va_putF (D := G.1) (ci := 2) (v := .ref q15) (ty := tyX2 1) (C := RX2) (T := TX2) (N := 2) hx hb hts inX2 tyX2 tyX2_ok nmX2 hown hK hP hD hS 0 rfl rfl 1 (by decide) (hts _ wd_194) (fun _ h9 => h9) rfl hin rfl (tyX2_ok 1 (by decide)) rfl rfl (Nat.le_of_ble_eq_true rfl) dX2_init_17 (fun H locs hP hD hS => ?_)
  have hP : va_P G.1 vwCl (([(q0, .inr (2, [.ref q7, .ref q15]))] ++ [(q7, .inl (G.2.2.1, 81, .inl (fun _ => iV 0)))]) ++ [(q15, .inl (G.2.1, 81, .inl (fun _ => iV 0)))]) _ := hP
  have hD : va_D _ (([(q0, .inr (2, [.ref q7, .ref q15]))] ++ [(q7, .inl (G.2.2.1, 81, .inl (fun _ => iV 0)))]) ++ [(q15, .inl (G.2.1, 81, .inl (fun _ => iV 0)))]) := hD
  exact z_reti (fun i => match i with | 0 => q0 | 1 => q7 | _ => q15) hx hb hr hlocks rfl hP hD hS dX2_init_20
set_option maxHeartbeats 4000000 in
set_option maxRecDepth 100000 in
theorem c_X6_init (l : Launch) (G : zG) (sz q0 : Nat) : Met l yX6_init (Cond.code yX6_init cX6_init 1 none :: zT) (zRc 1 12 7 689) (zP0 G [.ref q0] [(q0, .inr (6, [.int (iV 0), .int (iV 0), .null, .null, .null, .null, .null, .null, .null]))] sz) (zQi G (fun a : Nat → Nat => a 0 = q0) (fun a : Nat → Nat => zShd G a xX0) [(q0, .inr (6, [.int (iV 0), .int (iV 0), .null, .null, .null, .null, .null, .null, .null]))] sz) 7 689 (va_A [(q0, .inr (6, [.int (iV 0), .int (iV 0), .null, .null, .null, .null, .null, .null, .null]))] sz) := by
  refine Met.ofW (cc := cX6_init) (maxL := 1) (ret := none) (by decide) rfl ?_
  intro p e s m args below meth c s₁ B hml hv
  obtain ⟨rfl, hsz, hP, hK, hD0, hNw⟩ := hv
  have hx := B.exec
  have hb := B.bytes
  have hr := B.returns
  have hts : ∀ w ∈ zT, w.before _ s = true := fun w h => atoms_spec (ws := (Cond.code yX6_init cX6_init 1 none :: zT)) B.pre w (List.mem_cons_of_mem _ h)
  have hown : s.vm.findClass RX6 = some m.cls := findClass_of_methodNamed B.named
  have hlocks := B.notSynchronized
  have hin : meth.name = "<init>" := (name_of_methodNamed B.named B.method).1
  subst hsz
  have hD : va_D (va_A [(q0, .inr (6, [.int (iV 0), .int (iV 0), .null, .null, .null, .null, .null, .null, .null]))] s.heap.size) [(q0, .inr (6, [.int (iV 0), .int (iV 0), .null, .null, .null, .null, .null, .null, .null]))] := hD0.self
  have hA : ∀ q : Nat, s.heap.size ≤ q → va_A [(q0, .inr (6, [.int (iV 0), .int (iV 0), .null, .null, .null, .null, .null, .null, .null]))] s.heap.size q := fun q h => Or.inr h
  have hS : va_S (va_A [(q0, .inr (6, [.int (iV 0), .int (iV 0), .null, .null, .null, .null, .null, .null, .null]))] s.heap.size) s.heap s.heap [] := va_S.rf
  have hP : va_P G.1 vwCl [(q0, .inr (6, [.int (iV 0), .int (iV 0), .null, .null, .null, .null, .null, .null, .null]))] s.heap := hP
  have X := And.intro hx (And.intro hb (And.intro hml (And.intro hown hts)))
  have hl := lv_entry ([.ref q0]) (n := 1) (Nat.le_of_ble_eq_true rfl)
  rw [lg_entry_eq]
  generalize (lg_sl ([.ref q0]) ++ List.replicate (1 - (lg_sl ([.ref q0])).length) Slot.unset).toArray = ls at hl ⊢
  have hl : lv_has ls 1 [(0, .ref q0)] := hl
  refine lv_aload_n hx hb dX6_init_0 rfl (lv_at hl 0 rfl) ?_
  refine W.objInit hx hb hown (hts _ wd_157) (hts _ wd_23) (hts _ wd_24) rfl (by rw [hml]; exact hl.1) rfl dX6_init_1 (Nat.le_of_ble_eq_true rfl) (Nat.le_of_ble_eq_true rfl) ?_
  refine W.eq (g2 := F0 m 4 ls []) rfl ?_
  refine lv_aload_n hx hb dX6_init_4 rfl (lv_at hl 0 rfl) ?_
  refine lv_bipush (v := iV 37) hx hb dX6_init_5 (by decide) ?_
  refine z_newI (N := 37) hx hb hts hK hP hD hS hA ⟨rfl, by decide⟩ (Nat.le_of_ble_eq_true rfl) (Nat.le_of_ble_eq_true rfl) dX6_init_7 (fun q7 H hP hD hS => ?_)
  refine W.widen (k := 1) (n := 37) (Nat.le_of_ble_eq_true rfl) (Nat.le_of_ble_eq_true rfl) ?_
  have hP : va_P G.1 vwCl ([(q0, .inr (6, [.int (iV 0), .int (iV 0), .null, .null, .null, .null, .null, .null, .null]))] ++ [(q7, .inl (G.2.1, 37, .inl (fun _ => iV 0)))]) _ := hP
  have hD : va_D _ ([(q0, .inr (6, [.int (iV 0), .int (iV 0), .null, .null, .null, .null, .null, .null, .null]))] ++ [(q7, .inl (G.2.1, 37, .inl (fun _ => iV 0)))]) := hD
  refine va_putF (D := G.1) (ci := 6) (v := .ref q7) (ty := tyX6 2) (C := RX6) (T := TX6) (N := 9) hx hb hts inX6 tyX6 tyX6_ok nmX6 hown hK hP hD hS 0 rfl rfl 2 (by decide) (hts _ wd_161) (fun _ h9 => h9) rfl hin rfl (tyX6_ok 2 (by decide)) rfl rfl (Nat.le_of_ble_eq_true rfl) dX6_init_9 (fun H locs hP hD hS => ?_)
  have hP : va_P G.1 vwCl ([(q0, .inr (6, [.int (iV 0), .int (iV 0), .ref q7, .null, .null, .null, .null, .null, .null]))] ++ [(q7, .inl (G.2.1, 37, .inl (fun _ => iV 0)))]) _ := hP
  have hD : va_D _ ([(q0, .inr (6, [.int (iV 0), .int (iV 0), .ref q7, .null, .null, .null, .null, .null, .null]))] ++ [(q7, .inl (G.2.1, 37, .inl (fun _ => iV 0)))]) := hD
  refine lv_aload_n hx hb dX6_init_12 rfl (lv_at hl 0 rfl) ?_
  refine lv_bipush (v := iV 37) hx hb dX6_init_13 (by decide) ?_
  refine z_newI (N := 37) hx hb hts hK hP hD hS hA ⟨rfl, by decide⟩ (Nat.le_of_ble_eq_true rfl) (Nat.le_of_ble_eq_true rfl) dX6_init_15 (fun q15 H hP hD hS => ?_)
  refine W.widen (k := 2) (n := 74) (Nat.le_of_ble_eq_true rfl) (Nat.le_of_ble_eq_true rfl) ?_
  have hP : va_P G.1 vwCl (([(q0, .inr (6, [.int (iV 0), .int (iV 0), .ref q7, .null, .null, .null, .null, .null, .null]))] ++ [(q7, .inl (G.2.1, 37, .inl (fun _ => iV 0)))]) ++ [(q15, .inl (G.2.1, 37, .inl (fun _ => iV 0)))]) _ := hP
  have hD : va_D _ (([(q0, .inr (6, [.int (iV 0), .int (iV 0), .ref q7, .null, .null, .null, .null, .null, .null]))] ++ [(q7, .inl (G.2.1, 37, .inl (fun _ => iV 0)))]) ++ [(q15, .inl (G.2.1, 37, .inl (fun _ => iV 0)))]) := hD
  refine va_putF (D := G.1) (ci := 6) (v := .ref q15) (ty := tyX6 3) (C := RX6) (T := TX6) (N := 9) hx hb hts inX6 tyX6 tyX6_ok nmX6 hown hK hP hD hS 0 rfl rfl 3 (by decide) (hts _ wd_162) (fun _ h9 => h9) rfl hin rfl (tyX6_ok 3 (by decide)) rfl rfl (Nat.le_of_ble_eq_true rfl) dX6_init_17 (fun H locs hP hD hS => ?_)
  have hP : va_P G.1 vwCl (([(q0, .inr (6, [.int (iV 0), .int (iV 0), .ref q7, .ref q15, .null, .null, .null, .null, .null]))] ++ [(q7, .inl (G.2.1, 37, .inl (fun _ => iV 0)))]) ++ [(q15, .inl (G.2.1, 37, .inl (fun _ => iV 0)))]) _ := hP
  have hD : va_D _ (([(q0, .inr (6, [.int (iV 0), .int (iV 0), .ref q7, .ref q15, .null, .null, .null, .null, .null]))] ++ [(q7, .inl (G.2.1, 37, .inl (fun _ => iV 0)))]) ++ [(q15, .inl (G.2.1, 37, .inl (fun _ => iV 0)))]) := hD
  refine lv_aload_n hx hb dX6_init_20 rfl (lv_at hl 0 rfl) ?_
  refine lv_bipush (v := iV 38) hx hb dX6_init_21 (by decide) ?_
  refine z_newI (N := 38) hx hb hts hK hP hD hS hA ⟨rfl, by decide⟩ (Nat.le_of_ble_eq_true rfl) (Nat.le_of_ble_eq_true rfl) dX6_init_23 (fun q23 H hP hD hS => ?_)
  refine W.widen (k := 3) (n := 112) (Nat.le_of_ble_eq_true rfl) (Nat.le_of_ble_eq_true rfl) ?_
  have hP : va_P G.1 vwCl ((([(q0, .inr (6, [.int (iV 0), .int (iV 0), .ref q7, .ref q15, .null, .null, .null, .null, .null]))] ++ [(q7, .inl (G.2.1, 37, .inl (fun _ => iV 0)))]) ++ [(q15, .inl (G.2.1, 37, .inl (fun _ => iV 0)))]) ++ [(q23, .inl (G.2.1, 38, .inl (fun _ => iV 0)))]) _ := hP
  have hD : va_D _ ((([(q0, .inr (6, [.int (iV 0), .int (iV 0), .ref q7, .ref q15, .null, .null, .null, .null, .null]))] ++ [(q7, .inl (G.2.1, 37, .inl (fun _ => iV 0)))]) ++ [(q15, .inl (G.2.1, 37, .inl (fun _ => iV 0)))]) ++ [(q23, .inl (G.2.1, 38, .inl (fun _ => iV 0)))]) := hD
  refine va_putF (D := G.1) (ci := 6) (v := .ref q23) (ty := tyX6 4) (C := RX6) (T := TX6) (N := 9) hx hb hts inX6 tyX6 tyX6_ok nmX6 hown hK hP hD hS 0 rfl rfl 4 (by decide) (hts _ wd_163) (fun _ h9 => h9) rfl hin rfl (tyX6_ok 4 (by decide)) rfl rfl (Nat.le_of_ble_eq_true rfl) dX6_init_25 (fun H locs hP hD hS => ?_)
  have hP : va_P G.1 vwCl ((([(q0, .inr (6, [.int (iV 0), .int (iV 0), .ref q7, .ref q15, .ref q23, .null, .null, .null, .null]))] ++ [(q7, .inl (G.2.1, 37, .inl (fun _ => iV 0)))]) ++ [(q15, .inl (G.2.1, 37, .inl (fun _ => iV 0)))]) ++ [(q23, .inl (G.2.1, 38, .inl (fun _ => iV 0)))]) _ := hP
  have hD : va_D _ ((([(q0, .inr (6, [.int (iV 0), .int (iV 0), .ref q7, .ref q15, .ref q23, .null, .null, .null, .null]))] ++ [(q7, .inl (G.2.1, 37, .inl (fun _ => iV 0)))]) ++ [(q15, .inl (G.2.1, 37, .inl (fun _ => iV 0)))]) ++ [(q23, .inl (G.2.1, 38, .inl (fun _ => iV 0)))]) := hD
  refine lv_aload_n hx hb dX6_init_28 rfl (lv_at hl 0 rfl) ?_
  refine lv_bipush (v := iV 38) hx hb dX6_init_29 (by decide) ?_
  refine z_newI (N := 38) hx hb hts hK hP hD hS hA ⟨rfl, by decide⟩ (Nat.le_of_ble_eq_true rfl) (Nat.le_of_ble_eq_true rfl) dX6_init_31 (fun q31 H hP hD hS => ?_)
  refine W.widen (k := 4) (n := 150) (Nat.le_of_ble_eq_true rfl) (Nat.le_of_ble_eq_true rfl) ?_
  have hP : va_P G.1 vwCl (((([(q0, .inr (6, [.int (iV 0), .int (iV 0), .ref q7, .ref q15, .ref q23, .null, .null, .null, .null]))] ++ [(q7, .inl (G.2.1, 37, .inl (fun _ => iV 0)))]) ++ [(q15, .inl (G.2.1, 37, .inl (fun _ => iV 0)))]) ++ [(q23, .inl (G.2.1, 38, .inl (fun _ => iV 0)))]) ++ [(q31, .inl (G.2.1, 38, .inl (fun _ => iV 0)))]) _ := hP
  have hD : va_D _ (((([(q0, .inr (6, [.int (iV 0), .int (iV 0), .ref q7, .ref q15, .ref q23, .null, .null, .null, .null]))] ++ [(q7, .inl (G.2.1, 37, .inl (fun _ => iV 0)))]) ++ [(q15, .inl (G.2.1, 37, .inl (fun _ => iV 0)))]) ++ [(q23, .inl (G.2.1, 38, .inl (fun _ => iV 0)))]) ++ [(q31, .inl (G.2.1, 38, .inl (fun _ => iV 0)))]) := hD
  refine va_putF (D := G.1) (ci := 6) (v := .ref q31) (ty := tyX6 5) (C := RX6) (T := TX6) (N := 9) hx hb hts inX6 tyX6 tyX6_ok nmX6 hown hK hP hD hS 0 rfl rfl 5 (by decide) (hts _ wd_164) (fun _ h9 => h9) rfl hin rfl (tyX6_ok 5 (by decide)) rfl rfl (Nat.le_of_ble_eq_true rfl) dX6_init_33 (fun H locs hP hD hS => ?_)
  have hP : va_P G.1 vwCl (((([(q0, .inr (6, [.int (iV 0), .int (iV 0), .ref q7, .ref q15, .ref q23, .ref q31, .null, .null, .null]))] ++ [(q7, .inl (G.2.1, 37, .inl (fun _ => iV 0)))]) ++ [(q15, .inl (G.2.1, 37, .inl (fun _ => iV 0)))]) ++ [(q23, .inl (G.2.1, 38, .inl (fun _ => iV 0)))]) ++ [(q31, .inl (G.2.1, 38, .inl (fun _ => iV 0)))]) _ := hP
  have hD : va_D _ (((([(q0, .inr (6, [.int (iV 0), .int (iV 0), .ref q7, .ref q15, .ref q23, .ref q31, .null, .null, .null]))] ++ [(q7, .inl (G.2.1, 37, .inl (fun _ => iV 0)))]) ++ [(q15, .inl (G.2.1, 37, .inl (fun _ => iV 0)))]) ++ [(q23, .inl (G.2.1, 38, .inl (fun _ => iV 0)))]) ++ [(q31, .inl (G.2.1, 38, .inl (fun _ => iV 0)))]) := hD
  refine lv_aload_n hx hb dX6_init_36 rfl (lv_at hl 0 rfl) ?_
  refine lv_sipush (v := iV 266) hx hb dX6_init_37 (by decide) ?_
  refine z_newI (N := 266) hx hb hts hK hP hD hS hA ⟨rfl, by decide⟩ (Nat.le_of_ble_eq_true rfl) (Nat.le_of_ble_eq_true rfl) dX6_init_40 (fun q40 H hP hD hS => ?_)
  refine W.widen (k := 5) (n := 416) (Nat.le_of_ble_eq_true rfl) (Nat.le_of_ble_eq_true rfl) ?_
  have hP : va_P G.1 vwCl ((((([(q0, .inr (6, [.int (iV 0), .int (iV 0), .ref q7, .ref q15, .ref q23, .ref q31, .null, .null, .null]))] ++ [(q7, .inl (G.2.1, 37, .inl (fun _ => iV 0)))]) ++ [(q15, .inl (G.2.1, 37, .inl (fun _ => iV 0)))]) ++ [(q23, .inl (G.2.1, 38, .inl (fun _ => iV 0)))]) ++ [(q31, .inl (G.2.1, 38, .inl (fun _ => iV 0)))]) ++ [(q40, .inl (G.2.1, 266, .inl (fun _ => iV 0)))]) _ := hP
  have hD : va_D _ ((((([(q0, .inr (6, [.int (iV 0), .int (iV 0), .ref q7, .ref q15, .ref q23, .ref q31, .null, .null, .null]))] ++ [(q7, .inl (G.2.1, 37, .inl (fun _ => iV 0)))]) ++ [(q15, .inl (G.2.1, 37, .inl (fun _ => iV 0)))]) ++ [(q23, .inl (G.2.1, 38, .inl (fun _ => iV 0)))]) ++ [(q31, .inl (G.2.1, 38, .inl (fun _ => iV 0)))]) ++ [(q40, .inl (G.2.1, 266, .inl (fun _ => iV 0)))]) := hD
  refine va_putF (D := G.1) (ci := 6) (v := .ref q40) (ty := tyX6 6) (C := RX6) (T := TX6) (N := 9) hx hb hts inX6 tyX6 tyX6_ok nmX6 hown hK hP hD hS 0 rfl rfl 6 (by decide) (hts _ wd_165) (fun _ h9 => h9) rfl hin rfl (tyX6_ok 6 (by decide)) rfl rfl (Nat.le_of_ble_eq_true rfl) dX6_init_42 (fun H locs hP hD hS => ?_)
  have hP : va_P G.1 vwCl ((((([(q0, .inr (6, [.int (iV 0), .int (iV 0), .ref q7, .ref q15, .ref q23, .ref q31, .ref q40, .null, .null]))] ++ [(q7, .inl (G.2.1, 37, .inl (fun _ => iV 0)))]) ++ [(q15, .inl (G.2.1, 37, .inl (fun _ => iV 0)))]) ++ [(q23, .inl (G.2.1, 38, .inl (fun _ => iV 0)))]) ++ [(q31, .inl (G.2.1, 38, .inl (fun _ => iV 0)))]) ++ [(q40, .inl (G.2.1, 266, .inl (fun _ => iV 0)))]) _ := hP
  have hD : va_D _ ((((([(q0, .inr (6, [.int (iV 0), .int (iV 0), .ref q7, .ref q15, .ref q23, .ref q31, .ref q40, .null, .null]))] ++ [(q7, .inl (G.2.1, 37, .inl (fun _ => iV 0)))]) ++ [(q15, .inl (G.2.1, 37, .inl (fun _ => iV 0)))]) ++ [(q23, .inl (G.2.1, 38, .inl (fun _ => iV 0)))]) ++ [(q31, .inl (G.2.1, 38, .inl (fun _ => iV 0)))]) ++ [(q40, .inl (G.2.1, 266, .inl (fun _ => iV 0)))]) := hD
  refine lv_aload_n hx hb dX6_init_45 rfl (lv_at hl 0 rfl) ?_
  refine lv_sipush (v := iV 266) hx hb dX6_init_46 (by decide) ?_
  refine z_newI (N := 266) hx hb hts hK hP hD hS hA ⟨rfl, by decide⟩ (Nat.le_of_ble_eq_true rfl) (Nat.le_of_ble_eq_true rfl) dX6_init_49 (fun q49 H hP hD hS => ?_)
  refine W.widen (k := 6) (n := 682) (Nat.le_of_ble_eq_true rfl) (Nat.le_of_ble_eq_true rfl) ?_
  have hP : va_P G.1 vwCl (((((([(q0, .inr (6, [.int (iV 0), .int (iV 0), .ref q7, .ref q15, .ref q23, .ref q31, .ref q40, .null, .null]))] ++ [(q7, .inl (G.2.1, 37, .inl (fun _ => iV 0)))]) ++ [(q15, .inl (G.2.1, 37, .inl (fun _ => iV 0)))]) ++ [(q23, .inl (G.2.1, 38, .inl (fun _ => iV 0)))]) ++ [(q31, .inl (G.2.1, 38, .inl (fun _ => iV 0)))]) ++ [(q40, .inl (G.2.1, 266, .inl (fun _ => iV 0)))]) ++ [(q49, .inl (G.2.1, 266, .inl (fun _ => iV 0)))]) _ := hP
  have hD : va_D _ (((((([(q0, .inr (6, [.int (iV 0), .int (iV 0), .ref q7, .ref q15, .ref q23, .ref q31, .ref q40, .null, .null]))] ++ [(q7, .inl (G.2.1, 37, .inl (fun _ => iV 0)))]) ++ [(q15, .inl (G.2.1, 37, .inl (fun _ => iV 0)))]) ++ [(q23, .inl (G.2.1, 38, .inl (fun _ => iV 0)))]) ++ [(q31, .inl (G.2.1, 38, .inl (fun _ => iV 0)))]) ++ [(q40, .inl (G.2.1, 266, .inl (fun _ => iV 0)))]) ++ [(q49, .inl (G.2.1, 266, .inl (fun _ => iV 0)))]) := hD
  refine va_putF (D := G.1) (ci := 6) (v := .ref q49) (ty := tyX6 7) (C := RX6) (T := TX6) (N := 9) hx hb hts inX6 tyX6 tyX6_ok nmX6 hown hK hP hD hS 0 rfl rfl 7 (by decide) (hts _ wd_166) (fun _ h9 => h9) rfl hin rfl (tyX6_ok 7 (by decide)) rfl rfl (Nat.le_of_ble_eq_true rfl) dX6_init_51 (fun H locs hP hD hS => ?_)
  have hP : va_P G.1 vwCl (((((([(q0, .inr (6, [.int (iV 0), .int (iV 0), .ref q7, .ref q15, .ref q23, .ref q31, .ref q40, .ref q49, .null]))] ++ [(q7, .inl (G.2.1, 37, .inl (fun _ => iV 0)))]) ++ [(q15, .inl (G.2.1, 37, .inl (fun _ => iV 0)))]) ++ [(q23, .inl (G.2.1, 38, .inl (fun _ => iV 0)))]) ++ [(q31, .inl (G.2.1, 38, .inl (fun _ => iV 0)))]) ++ [(q40, .inl (G.2.1, 266, .inl (fun _ => iV 0)))]) ++ [(q49, .inl (G.2.1, 266, .inl (fun _ => iV 0)))]) _ := hP
  have hD : va_D _ (((((([(q0, .inr (6, [.int (iV 0), .int (iV 0), .ref q7, .ref q15, .ref q23, .ref q31, .ref q40, .ref q49, .null]))] ++ [(q7, .inl (G.2.1, 37, .inl (fun _ => iV 0)))]) ++ [(q15, .inl (G.2.1, 37, .inl (fun _ => iV 0)))]) ++ [(q23, .inl (G.2.1, 38, .inl (fun _ => iV 0)))]) ++ [(q31, .inl (G.2.1, 38, .inl (fun _ => iV 0)))]) ++ [(q40, .inl (G.2.1, 266, .inl (fun _ => iV 0)))]) ++ [(q49, .inl (G.2.1, 266, .inl (fun _ => iV 0)))]) := hD
  refine lv_aload_n hx hb dX6_init_54 rfl (lv_at hl 0 rfl) ?_
  refine lv_bipush (v := iV 7) hx hb dX6_init_55 (by decide) ?_
  refine z_newI (N := 7) hx hb hts hK hP hD hS hA ⟨rfl, by decide⟩ (Nat.le_of_ble_eq_true rfl) (Nat.le_of_ble_eq_true rfl) dX6_init_57 (fun q57 H hP hD hS => ?_)
  refine W.widen (k := 7) (n := 689) (Nat.le_of_ble_eq_true rfl) (Nat.le_of_ble_eq_true rfl) ?_
  have hP : va_P G.1 vwCl ((((((([(q0, .inr (6, [.int (iV 0), .int (iV 0), .ref q7, .ref q15, .ref q23, .ref q31, .ref q40, .ref q49, .null]))] ++ [(q7, .inl (G.2.1, 37, .inl (fun _ => iV 0)))]) ++ [(q15, .inl (G.2.1, 37, .inl (fun _ => iV 0)))]) ++ [(q23, .inl (G.2.1, 38, .inl (fun _ => iV 0)))]) ++ [(q31, .inl (G.2.1, 38, .inl (fun _ => iV 0)))]) ++ [(q40, .inl (G.2.1, 266, .inl (fun _ => iV 0)))]) ++ [(q49, .inl (G.2.1, 266, .inl (fun _ => iV 0)))]) ++ [(q57, .inl (G.2.1, 7, .inl (fun _ => iV 0)))]) _ := hP
  have hD : va_D _ ((((((([(q0, .inr (6, [.int (iV 0), .int (iV 0), .ref q7, .ref q15, .ref q23, .ref q31, .ref q40, .ref q49, .null]))] ++ [(q7, .inl (G.2.1, 37, .inl (fun _ => iV 0)))]) ++ [(q15, .inl (G.2.1, 37, .inl (fun _ => iV 0)))]) ++ [(q23, .inl (G.2.1, 38, .inl (fun _ => iV 0)))]) ++ [(q31, .inl (G.2.1, 38, .inl (fun _ => iV 0)))]) ++ [(q40, .inl (G.2.1, 266, .inl (fun _ => iV 0)))]) ++ [(q49, .inl (G.2.1, 266, .inl (fun _ => iV 0)))]) ++ [(q57, .inl (G.2.1, 7, .inl (fun _ => iV 0)))]) := hD
  refine va_putF (D := G.1) (ci := 6) (v := .ref q57) (ty := tyX6 8) (C := RX6) (T := TX6) (N := 9) hx hb hts inX6 tyX6 tyX6_ok nmX6 hown hK hP hD hS 0 rfl rfl 8 (by decide) (hts _ wd_167) (fun _ h9 => h9) rfl hin rfl (tyX6_ok 8 (by decide)) rfl rfl (Nat.le_of_ble_eq_true rfl) dX6_init_59 (fun H locs hP hD hS => ?_)
  have hP : va_P G.1 vwCl ((((((([(q0, .inr (6, [.int (iV 0), .int (iV 0), .ref q7, .ref q15, .ref q23, .ref q31, .ref q40, .ref q49, .ref q57]))] ++ [(q7, .inl (G.2.1, 37, .inl (fun _ => iV 0)))]) ++ [(q15, .inl (G.2.1, 37, .inl (fun _ => iV 0)))]) ++ [(q23, .inl (G.2.1, 38, .inl (fun _ => iV 0)))]) ++ [(q31, .inl (G.2.1, 38, .inl (fun _ => iV 0)))]) ++ [(q40, .inl (G.2.1, 266, .inl (fun _ => iV 0)))]) ++ [(q49, .inl (G.2.1, 266, .inl (fun _ => iV 0)))]) ++ [(q57, .inl (G.2.1, 7, .inl (fun _ => iV 0)))]) _ := hP
  have hD : va_D _ ((((((([(q0, .inr (6, [.int (iV 0), .int (iV 0), .ref q7, .ref q15, .ref q23, .ref q31, .ref q40, .ref q49, .ref q57]))] ++ [(q7, .inl (G.2.1, 37, .inl (fun _ => iV 0)))]) ++ [(q15, .inl (G.2.1, 37, .inl (fun _ => iV 0)))]) ++ [(q23, .inl (G.2.1, 38, .inl (fun _ => iV 0)))]) ++ [(q31, .inl (G.2.1, 38, .inl (fun _ => iV 0)))]) ++ [(q40, .inl (G.2.1, 266, .inl (fun _ => iV 0)))]) ++ [(q49, .inl (G.2.1, 266, .inl (fun _ => iV 0)))]) ++ [(q57, .inl (G.2.1, 7, .inl (fun _ => iV 0)))]) := hD
  exact z_reti (fun i => match i with | 0 => q0 | 1 => q7 | 2 => q15 | 3 => q23 | 4 => q31 | 5 => q40 | 6 => q49 | _ => q57) hx hb hr hlocks rfl hP hD hS dX6_init_62
set_option maxHeartbeats 4000000 in
set_option maxRecDepth 100000 in
theorem c_X4_init (l : Launch) (G : zG) (sz q0 : Nat) : Met l yX4_init (Cond.code yX4_init cX4_init 1 none :: zT) (zRc 2 32 7 252) (zP0 G [.ref q0] [(q0, .inr (4, [.null, .null, .null, .int (iV 0)]))] sz) (zQi G (fun a : Nat → Nat => a 0 = q0) (fun a : Nat → Nat => zPic G a pP0) [(q0, .inr (4, [.null, .null, .null, .int (iV 0)]))] sz) 7 252 (va_A [(q0, .inr (4, [.null, .null, .null, .int (iV 0)]))] sz) := by
  refine Met.ofW (cc := cX4_init) (maxL := 1) (ret := none) (by decide) rfl ?_
  intro p e s m args below meth c s₁ B hml hv
  obtain ⟨rfl, hsz, hP, hK, hD0, hNw⟩ := hv
  have hx := B.exec
  have hb := B.bytes
  have hr := B.returns
  have hts : ∀ w ∈ zT, w.before _ s = true := fun w h => atoms_spec (ws := (Cond.code yX4_init cX4_init 1 none :: zT)) B.pre w (List.mem_cons_of_mem _ h)
  have hown : s.vm.findClass RX4 = some m.cls := findClass_of_methodNamed B.named
  have hlocks := B.notSynchronized
  have hin : meth.name = "<init>" := (name_of_methodNamed B.named B.method).1
  subst hsz
  have hD : va_D (va_A [(q0, .inr (4, [.null, .null, .null, .int (iV 0)]))] s.heap.size) [(q0, .inr (4, [.null, .null, .null, .int (iV 0)]))] := hD0.self
  have hA : ∀ q : Nat, s.heap.size ≤ q → va_A [(q0, .inr (4, [.null, .null, .null, .int (iV 0)]))] s.heap.size q := fun q h => Or.inr h
  have hS : va_S (va_A [(q0, .inr (4, [.null, .null, .null, .int (iV 0)]))] s.heap.size) s.heap s.heap [] := va_S.rf
  have hP : va_P G.1 vwCl [(q0, .inr (4, [.null, .null, .null, .int (iV 0)]))] s.heap := hP
  have X := And.intro hx (And.intro hb (And.intro hml (And.intro hown hts)))
  have hl := lv_entry ([.ref q0]) (n := 1) (Nat.le_of_ble_eq_true rfl)
  rw [lg_entry_eq]
  generalize (lg_sl ([.ref q0]) ++ List.replicate (1 - (lg_sl ([.ref q0])).length) Slot.unset).toArray = ls at hl ⊢
  have hl : lv_has ls 1 [(0, .ref q0)] := hl
  refine lv_aload_n hx hb dX4_init_0 rfl (lv_at hl 0 rfl) ?_
  refine W.objInit hx hb hown (hts _ wd_30) (hts _ wd_23) (hts _ wd_24) rfl (by rw [hml]; exact hl.1) rfl dX4_init_1 (Nat.le_of_ble_eq_true rfl) (Nat.le_of_ble_eq_true rfl) ?_
  refine W.eq (g2 := F0 m 4 ls []) rfl ?_
  refine lv_aload_n hx hb dX4_init_4 rfl (lv_at hl 0 rfl) ?_
  refine va_new (D := G.1) (ci := 0) (fs := [.int (iV 0), .int (iV 0), .null]) (C := RX0) (T := TX0) (N := 3) hx hb hts inX0 tyX0 tyX0_ok hown (hts _ wd_31) (hts _ wd_32) (hts _ wd_3) hK hP hD hS hA rfl (fun j hj => by rcases (show j = 0 ∨ j = 1 ∨ j = 2 by omega) with rfl | rfl | rfl <;> rfl) (Nat.le_of_ble_eq_true rfl) (Nat.le_of_ble_eq_true rfl) dX4_init_5 (fun q5 H hP hD hS => ?_)
  refine W.widen (k := 1) (n := 3) (Nat.le_of_ble_eq_true rfl) (Nat.le_of_ble_eq_true rfl) ?_
  have hP : va_P G.1 vwCl ([(q0, .inr (4, [.null, .null, .null, .int (iV 0)]))] ++ [(q5, .inr (0, [.int (iV 0), .int (iV 0), .null]))]) _ := hP
  have hD : va_D _ ([(q0, .inr (4, [.null, .null, .null, .int (iV 0)]))] ++ [(q5, .inr (0, [.int (iV 0), .int (iV 0), .null]))]) := hD
  refine lv_dup hx hb dX4_init_8 rfl ?_
  have hPc : va_P G.1 vwCl [(q5, .inr (0, [.int (iV 0), .int (iV 0), .null]))] H := va_P_mem.mpr (fun x hx => va_P_mem.mp hP x (List.mem_append_right _ hx))
  have hDc : va_D _ [(q5, .inr (0, [.int (iV 0), .int (iV 0), .null]))] := (va_D_perm List.perm_append_comm hD : va_D _ ([(q5, .inr (0, [.int (iV 0), .int (iV 0), .null]))] ++ [(q0, .inr (4, [.null, .null, .null, .int (iV 0)]))])) |> va_D_left
  refine z_initN (wr := [(q0, .inr (4, [.null, .null, .null, .int (iV 0)]))]) (wc := [(q5, .inr (0, [.int (iV 0), .int (iV 0), .null]))]) X hA hP hD hS hl.1 (c_X0_init l G H.size q5) (hNw.at 1 rfl) ⟨wd_35, wd_3, wd_34⟩ ⟨rfl, by decide, by decide, by decide +kernel⟩ ⟨rfl, rfl, Nat.le_of_ble_eq_true rfl, Nat.le_of_ble_eq_true rfl⟩ ⟨zP0_blind, fun U hU hW => ⟨rfl, by rw [hU], by rw [hU]; exact hPc, va_K.moved hW.alike hK, hDc.weaken (fun _ _ _ _ => trivial), hNw.warm hW⟩⟩ rfl (Nat.le_of_ble_eq_true rfl) dX4_init_9 ⟨Nat.le_of_ble_eq_true rfl, Nat.le_of_ble_eq_true rfl⟩ (fun a9 H locs ha hP hD hS => ?_)
  refine W.widen (k := 2) (n := 84) (Nat.le_of_ble_eq_true rfl) (Nat.le_of_ble_eq_true rfl) ?_
  have hP9 := hP
  have hD9 := hD
  have hS9 := hS
  subst ha
  have hP := hP9
  have hD := hD9
  have hS := hS9
  have hP : va_P G.1 vwCl ([(q0, .inr (4, [.null, .null, .null, .int (iV 0)]))] ++ (zGr G a9)) _ := hP
  have hD : va_D _ ([(q0, .inr (4, [.null, .null, .null, .int (iV 0)]))] ++ (zGr G a9)) := hD
  refine va_putF (D := G.1) (ci := 4) (v := .ref (a9 0)) (ty := tyX4 0) (C := RX4) (T := TX4) (N := 4) hx hb hts inX4 tyX4 tyX4_ok nmX4 hown hK hP hD hS 0 rfl rfl 0 (by decide) (hts _ wd_74) (fun _ h9 => h9) rfl hin rfl (tyX4_ok 0 (by decide)) rfl rfl (Nat.le_of_ble_eq_true rfl) dX4_init_12 (fun H locs hP hD hS => ?_)
  have hP : va_P G.1 vwCl ([(q0, .inr (4, [.ref (a9 0), .null, .null, .int (iV 0)]))] ++ (zGr G a9)) _ := hP
  have hD : va_D _ ([(q0, .inr (4, [.ref (a9 0), .null, .null, .int (iV 0)]))] ++ (zGr G a9)) := hD
  refine lv_aload_n hx hb dX4_init_15 rfl (lv_at hl 0 rfl) ?_
  refine va_new (D := G.1) (ci := 7) (fs := [.int (iV 0), .null, .null, .null]) (C := RX7) (T := TX7) (N := 4) hx hb hts inX7 tyX7 tyX7_ok hown (hts _ wd_52) (hts _ wd_53) (hts _ wd_4) hK hP hD hS hA rfl (fun j hj => by rcases (show j = 0 ∨ j = 1 ∨ j = 2 ∨ j = 3 by omega) with rfl | rfl | rfl | rfl <;> rfl) (Nat.le_of_ble_eq_true rfl) (Nat.le_of_ble_eq_true rfl) dX4_init_16 (fun q16 H hP hD hS => ?_)
  refine W.widen (k := 3) (n := 88) (Nat.le_of_ble_eq_true rfl) (Nat.le_of_ble_eq_true rfl) ?_
  have hP : va_P G.1 vwCl (([(q0, .inr (4, [.ref (a9 0), .null, .null, .int (iV 0)]))] ++ (zGr G a9)) ++ [(q16, .inr (7, [.int (iV 0), .null, .null, .null]))]) _ := hP
  have hD : va_D _ (([(q0, .inr (4, [.ref (a9 0), .null, .null, .int (iV 0)]))] ++ (zGr G a9)) ++ [(q16, .inr (7, [.int (iV 0), .null, .null, .null]))]) := hD
  refine lv_dup hx hb dX4_init_19 rfl ?_
  have hPc : va_P G.1 vwCl [(q16, .inr (7, [.int (iV 0), .null, .null, .null]))] H := va_P_mem.mpr (fun x hx => va_P_mem.mp hP x (List.mem_append_right _ hx))
  have hDc : va_D _ [(q16, .inr (7, [.int (iV 0), .null, .null, .null]))] := (va_D_perm List.perm_append_comm hD : va_D _ ([(q16, .inr (7, [.int (iV 0), .null, .null, .null]))] ++ ([(q0, .inr (4, [.ref (a9 0), .null, .null, .int (iV 0)]))] ++ (zGr G a9)))) |> va_D_left
  refine z_initN (wr := ([(q0, .inr (4, [.ref (a9 0), .null, .null, .int (iV 0)]))] ++ (zGr G a9))) (wc := [(q16, .inr (7, [.int (iV 0), .null, .null, .null]))]) X hA hP hD hS hl.1 (c_X7_init l G H.size q16) (hNw.at 2 rfl) ⟨wd_56, wd_4, wd_55⟩ ⟨rfl, by decide, by decide, by decide +kernel⟩ ⟨rfl, rfl, Nat.le_of_ble_eq_true rfl, Nat.le_of_ble_eq_true rfl⟩ ⟨zP0_blind, fun U hU hW => ⟨rfl, by rw [hU], by rw [hU]; exact hPc, va_K.moved hW.alike hK, hDc.weaken (fun _ _ _ _ => trivial), hNw.warm hW⟩⟩ rfl (Nat.le_of_ble_eq_true rfl) dX4_init_20 ⟨Nat.le_of_ble_eq_true rfl, Nat.le_of_ble_eq_true rfl⟩ (fun a20 H locs ha hP hD hS => ?_)
  refine W.widen (k := 6) (n := 248) (Nat.le_of_ble_eq_true rfl) (Nat.le_of_ble_eq_true rfl) ?_
  have hP9 := hP
  have hD9 := hD
  have hS9 := hS
  subst ha
  have hP := hP9
  have hD := hD9
  have hS := hS9
  have hP : va_P G.1 vwCl (([(q0, .inr (4, [.ref (a9 0), .null, .null, .int (iV 0)]))] ++ (zGr G a9)) ++ (zSh0 G a20)) _ := hP
  have hD : va_D _ (([(q0, .inr (4, [.ref (a9 0), .null, .null, .int (iV 0)]))] ++ (zGr G a9)) ++ (zSh0 G a20)) := hD
  refine va_putF (D := G.1) (ci := 4) (v := .ref (a20 0)) (ty := tyX4 1) (C := RX4) (T := TX4) (N := 4) hx hb hts inX4 tyX4 tyX4_ok nmX4 hown hK hP hD hS 0 rfl rfl 1 (by decide) (hts _ wd_78) (fun _ h9 => h9) rfl hin rfl (tyX4_ok 1 (by decide)) rfl rfl (Nat.le_of_ble_eq_true rfl) dX4_init_23 (fun H locs hP hD hS => ?_)
  have hP : va_P G.1 vwCl (([(q0, .inr (4, [.ref (a9 0), .ref (a20 0), .null, .int (iV 0)]))] ++ (zGr G a9)) ++ (zSh0 G a20)) _ := hP
  have hD : va_D _ (([(q0, .inr (4, [.ref (a9 0), .ref (a20 0), .null, .int (iV 0)]))] ++ (zGr G a9)) ++ (zSh0 G a20)) := hD
  refine lv_aload_n hx hb dX4_init_26 rfl (lv_at hl 0 rfl) ?_
  refine lv_iconst (v := iV 4) hx hb dX4_init_27 (by decide) ?_
  refine z_newI (N := 4) hx hb hts hK hP hD hS hA ⟨rfl, by decide⟩ (Nat.le_of_ble_eq_true rfl) (Nat.le_of_ble_eq_true rfl) dX4_init_28 (fun q28 H hP hD hS => ?_)
  refine W.widen (k := 7) (n := 252) (Nat.le_of_ble_eq_true rfl) (Nat.le_of_ble_eq_true rfl) ?_
  have hP : va_P G.1 vwCl ((([(q0, .inr (4, [.ref (a9 0), .ref (a20 0), .null, .int (iV 0)]))] ++ (zGr G a9)) ++ (zSh0 G a20)) ++ [(q28, .inl (G.2.1, 4, .inl (fun _ => iV 0)))]) _ := hP
  have hD : va_D _ ((([(q0, .inr (4, [.ref (a9 0), .ref (a20 0), .null, .int (iV 0)]))] ++ (zGr G a9)) ++ (zSh0 G a20)) ++ [(q28, .inl (G.2.1, 4, .inl (fun _ => iV 0)))]) := hD
  refine va_putF (D := G.1) (ci := 4) (v := .ref q28) (ty := tyX4 2) (C := RX4) (T := TX4) (N := 4) hx hb hts inX4 tyX4 tyX4_ok nmX4 hown hK hP hD hS 0 rfl rfl 2 (by decide) (hts _ wd_80) (fun _ h9 => h9) rfl hin rfl (tyX4_ok 2 (by decide)) rfl rfl (Nat.le_of_ble_eq_true rfl) dX4_init_30 (fun H locs hP hD hS => ?_)
  have hP : va_P G.1 vwCl ((([(q0, .inr (4, [.ref (a9 0), .ref (a20 0), .ref q28, .int (iV 0)]))] ++ (zGr G a9)) ++ (zSh0 G a20)) ++ [(q28, .inl (G.2.1, 4, .inl (fun _ => iV 0)))]) _ := hP
  have hD : va_D _ ((([(q0, .inr (4, [.ref (a9 0), .ref (a20 0), .ref q28, .int (iV 0)]))] ++ (zGr G a9)) ++ (zSh0 G a20)) ++ [(q28, .inl (G.2.1, 4, .inl (fun _ => iV 0)))]) := hD
  exact z_reti (fun i => match i with | 0 => q0 | 1 => a9 0 | 2 => a9 1 | 3 => a20 0 | 4 => a20 1 | 5 => a20 2 | 6 => a20 3 | _ => q28) hx hb hr hlocks rfl hP hD hS dX4_init_33
