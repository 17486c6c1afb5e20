/-! runs of cells, and calls that take some runs of the world -/
def zPic (G : zG) (a : Nat → Nat) (P : pT) : va_W := [(a 0, .inr (4, [.ref (a 1), .ref (a 3), .ref (a 7), .int (iV (pS P))])), (a 1, .inr (0, [.int (iV (pW P)), .int (iV (pH P)), .ref (a 2)])), (a 2, .inl (G.2.1, 81, .inl (fun k => iV (pG P k)))), (a 3, .inr (7, [.int (iV (pN P)), .ref (a 4), .ref (a 5), .ref (a 6)])), (a 4, .inl (G.2.1, 20, .inl (fun k => iV (pL P k)))), (a 5, .inl (G.2.1, 20, .inl (fun k => iV (pE P k)))), (a 6, .inl (G.2.1, 120, .inl (fun k => iV (pC P k)))), (a 7, .inl (G.2.1, 4, .inl (fun k => iV (pQ P k))))]
theorem z_perm {α : Type} {l1 l2 : List α} (h : ∀ q : α → Bool, l1.countP q = l2.countP q) : l1.Perm l2 := by
  classical
  exact List.perm_iff_count.mpr (fun a => h (fun x => x == a))
theorem va_P_mem {D : va_G} {cl : List vw_C} {w : va_W} {H : Heap} : va_P D cl w H ↔ ∀ q ∈ w, va_at D cl q H := by
  constructor
  · intro h q hq
    obtain ⟨k, hk⟩ := List.getElem?_of_mem hq
    exact h k q hk
  · intro h k q hk
    exact h q (List.mem_of_getElem? hk)
theorem va_P_perm {D : va_G} {cl : List vw_C} {w w2 : va_W} {H : Heap} (hp : w.Perm w2) (h : va_P D cl w H) : va_P D cl w2 H := va_P_mem.mpr (fun q hq => va_P_mem.mp h q (hp.mem_iff.mpr hq))
theorem va_D_nd {A : Nat → Prop} {w : va_W} : va_D A w ↔ (w.map Prod.fst).Nodup ∧ ∀ q ∈ w, A q.1 := by
  constructor
  · rintro ⟨h1, h2⟩
    refine ⟨?_, fun q hq => ?_⟩
    · rw [List.Nodup, List.pairwise_iff_getElem]
      intro i j hi hj hij he
      rw [List.getElem_map, List.getElem_map] at he
      rw [List.length_map] at hi hj
      have := h1 i j w[i] w[j] (List.getElem?_eq_getElem hi) (List.getElem?_eq_getElem hj) he
      omega
    · obtain ⟨k, hk⟩ := List.getElem?_of_mem hq
      exact h2 k q hk
  · rintro ⟨h1, h2⟩
    refine ⟨fun i j p q hi hj he => ?_, fun k q hk => h2 q (List.mem_of_getElem? hk)⟩
    obtain ⟨hi', hi2⟩ := List.getElem?_eq_some_iff.mp hi
    obtain ⟨hj', hj2⟩ := List.getElem?_eq_some_iff.mp hj
    rw [List.Nodup, List.pairwise_iff_getElem] at h1
    rcases Nat.lt_trichotomy i j with h | h | h
    · exact absurd (by rw [List.getElem_map, List.getElem_map, hi2, hj2, he]) (h1 i j (by rw [List.length_map]; exact hi') (by rw [List.length_map]; exact hj') h)
    · exact h
    · exact absurd (by rw [List.getElem_map, List.getElem_map, hi2, hj2, he]) (h1 j i (by rw [List.length_map]; exact hj') (by rw [List.length_map]; exact hi') h)
theorem va_D_perm {A : Nat → Prop} {w w2 : va_W} (hp : w.Perm w2) (h : va_D A w) : va_D A w2 := by
  rw [va_D_nd] at h ⊢
  exact ⟨(hp.map Prod.fst).nodup_iff.mp h.1, fun q hq => h.2 q (hp.mem_iff.mpr hq)⟩
theorem va_D_left {A : Nat → Prop} {w1 w2 : va_W} (h : va_D A (w1 ++ w2)) : va_D A w1 := by
  rw [va_D_nd] at h ⊢
  rw [List.map_append, List.nodup_append] at h
  exact ⟨h.1.1, fun q hq => h.2 q (List.mem_append_left _ hq)⟩
theorem va_P_left {D : va_G} {cl : List vw_C} {w1 w2 : va_W} {H : Heap} (h : va_P D cl (w1 ++ w2) H) : va_P D cl w1 H := va_P_mem.mpr (fun q hq => va_P_mem.mp h q (List.mem_append_left _ hq))
theorem va_free_l {A0 : Nat → Prop} {wc wr : va_W} {H0 H : Heap} {locs : List Loc} (hD : va_D A0 (wc ++ wr)) (hS : va_S A0 H0 H locs) (hA : ∀ q, H0.size ≤ q → A0 q) : ∀ q, va_A wc H.size q → A0 q := by
  intro q h
  rcases h with ⟨k, e, h⟩ | h
  · exact (va_D_nd.mp hD).2 (q, e) (List.mem_append_left _ (List.mem_of_getElem? h))
  · exact hA q (Nat.le_trans hS.1 h)
theorem z_joinp {A0 : Nat → Prop} {D : va_G} {cl : List vw_C} {wc wr w1 : va_W} {H H1 : Heap} (hP : va_P D cl (wc ++ wr) H) (hD : va_D A0 (wc ++ wr)) (c5 : w1.map Prod.fst = wc.map Prod.fst)
    (hk : ∀ q : Nat, q < H.size → ¬ va_A wc H.size q → H1[q]? = H[q]?) (hP1 : va_P D cl w1 H1) : va_P D cl (w1 ++ wr) H1 ∧ va_D A0 (w1 ++ wr) := by
  have hn := va_D_nd.mp hD
  rw [List.map_append] at hn
  refine ⟨va_P_mem.mpr (fun q hq => ?_), va_D_nd.mpr ⟨by rw [List.map_append, c5]; exact hn.1, fun q hq => ?_⟩⟩
  · rcases List.mem_append.mp hq with h | h
    · exact va_P_mem.mp hP1 q h
    · have hat := va_P_mem.mp hP q (List.mem_append_right _ h)
      refine hat.kept (hk q.1 hat.lt (fun hA => ?_))
      rcases hA with ⟨k, e, hA⟩ | hA
      · have h1 : q.1 ∈ wc.map Prod.fst := List.mem_map.mpr ⟨(q.1, e), List.mem_of_getElem? hA, rfl⟩
        have h2 : q.1 ∈ wr.map Prod.fst := List.mem_map.mpr ⟨q, h, rfl⟩
        exact (List.nodup_append.mp hn.1).2.2 _ h1 _ h2 rfl
      · have := hat.lt; omega
  · rcases List.mem_append.mp hq with h | h
    · have h1 : q.1 ∈ w1.map Prod.fst := List.mem_map.mpr ⟨q, h, rfl⟩
      rw [c5] at h1
      obtain ⟨z, hz, he⟩ := List.mem_map.mp h1
      rw [← he]
      exact hn.2 z (List.mem_append_left _ hz)
    · exact hn.2 q (List.mem_append_right _ h)
section ZP
variable {p : Program} {l : Launch} {e : Env} {R : Room} {s : State} {m : MethodId} {args : Array Value} {below : List Frame} {meth : Method} {c : Code} {H : Heap} {locs : List Loc} {cells slots : Nat} {Q : State → Prop}
variable {cc : ByteArray} {pc : Nat} {ls : Array Slot} {rest : List Value} {G : zG} {A : Nat → Prop}
theorem z_callVp {own C : String} {index : Nat} {y : MethodName} {bytes : ByteArray} {maxL nL n : Nat} {ret : Option FieldType} {rm : Room} {As st : List Value} {wc w wr : va_W} {E : Int} {b : Nat} {ci : Nat} {fs : List Value} {T : u_T} {N : Nat}
    (X : p.tables.exec = Jvm.exec ∧ c.code = cc ∧ c.maxLocals = nL ∧ s.vm.findClass own = some m.cls ∧ (∀ w ∈ zT, w.before args s = true) ∧ zK G s ∧ zSt A s s.heap ∧ ∀ q, s.heap.size ≤ q → A q)
    (hP : va_P G.1 vwCl w H) (hS : va_S A s.heap H locs) (hls : ls.size = nL)
    (hM : Met l y (Cond.code y bytes maxL ret :: zT) rm (zPr G (.ref b :: As) wc H.size) (zQr E H.size) 0 0 (zF H.size))
    (hlink : Cond.methodLink own index y ∈ zT) (hm : zM C y bytes maxL ret n)
    (hR : rm.cells = 0 ∧ rm.slots = 0 ∧ rm.frames + 1 ≤ R.frames ∧ 8 + (maxL + 11) + rm.locals ≤ R.locals)
    (hp1 : w.Perm (wc ++ wr)) (q0 : Nat) (hr1 : wc[q0]? = some (b, .inr (ci, fs))) (hr2 : vwCl[ci]? = some (C, T, N))
    (hn : As.length = n) (hst : st = As.reverse ++ .ref b :: rest) (hrest : (rest.map fun v => v.category).sum ≤ 8)
    (hdg : decode cc pc = .ok (.invokevirtual index, 3)) (hcs : cells ≤ R.cells ∧ slots ≤ R.slots)
    (kk : ∀ (H1 : Heap) (locs1 : List Loc), va_P G.1 vwCl w H1 → va_S A s.heap H1 locs1 → W p l e R s m args below meth c H1 locs1 cells slots Q (F0 m (pc + 3) ls (.int (iV E) :: rest))) : W p l e R s m args below meth c H locs cells slots Q (F0 m pc ls st) := by
  subst hst
  obtain ⟨hx, hb, hml, hown, hts, hK, hSt, hA⟩ := X
  have hPp := va_P_perm hp1 hP
  have hPc := va_P_left hPp
  have hF : ∀ q, zF H.size q → A q := fun q h => hA q (Nat.le_trans hS.1 h)
  refine va_calli (va_runV (As := As) (rest := rest) ⟨hx, hb, hml, hown, hts⟩ hM (zcwV hts hlink hm hR.1 hR.2.1 hR.2.2) ⟨zPr_blind, va_recv hK hPc (ci := ci) (q0 := q0) hr2 hr1, fun U hU hW => ⟨rfl, by rw [hU], by rw [hU]; exact hPc, va_K.moved hW.alike hK, hSt.call hS (fun q h => hF q h) hU hW⟩⟩ rfl hn hls rfl (lv_room hrest) hdg hcs) hS (fun q _ h => hF q h) hF (fun r u t H1 locs1 ht hvm hw hB hz hk hS1 => ?_)
  have hr : r = iV E := hw
  subst hr
  exact kk H1 locs1 (hP.kept (fun k q hq => hk q.1 (hP k q hq).lt (by have := (hP k q hq).lt; show ¬ (H.size ≤ q.1); omega))) hS1
theorem z_callVwp {own C : String} {index : Nat} {y : MethodName} {bytes : ByteArray} {maxL nL n : Nat} {ret : Option FieldType} {rm : Room} {As st : List Value} {wc w wr : va_W} {w1 w2 : va_W} {E : Int} {b : Nat} {ci : Nat} {fs : List Value} {T : u_T} {N : Nat}
    (X : p.tables.exec = Jvm.exec ∧ c.code = cc ∧ c.maxLocals = nL ∧ s.vm.findClass own = some m.cls ∧ (∀ w ∈ zT, w.before args s = true) ∧ zK G s ∧ zSt A s s.heap ∧ ∀ q, s.heap.size ≤ q → A q)
    (hP : va_P G.1 vwCl w H) (hD : va_D A w) (hS : va_S A s.heap H locs) (hls : ls.size = nL)
    (hM : Met l y (Cond.code y bytes maxL ret :: zT) rm (zPw G (.ref b :: As) wc H.size) (zQw G E wc w1 H.size) 0 0 (va_A wc H.size))
    (hlink : Cond.methodLink own index y ∈ zT) (hm : zM C y bytes maxL ret n)
    (hR : rm.cells = 0 ∧ rm.slots = 0 ∧ rm.frames + 1 ≤ R.frames ∧ 8 + (maxL + 11) + rm.locals ≤ R.locals)
    (hp1 : w.Perm (wc ++ wr)) (hp2 : (w1 ++ wr).Perm w2) (c5 : w1.map Prod.fst = wc.map Prod.fst) (q0 : Nat) (hr1 : wc[q0]? = some (b, .inr (ci, fs))) (hr2 : vwCl[ci]? = some (C, T, N))
    (hn : As.length = n) (hst : st = As.reverse ++ .ref b :: rest) (hrest : (rest.map fun v => v.category).sum ≤ 8)
    (hdg : decode cc pc = .ok (.invokevirtual index, 3)) (hcs : cells ≤ R.cells ∧ slots ≤ R.slots)
    (kk : ∀ (H1 : Heap) (locs1 : List Loc), va_P G.1 vwCl w2 H1 → va_D A w2 → va_S A s.heap H1 locs1 → W p l e R s m args below meth c H1 locs1 cells slots Q (F0 m (pc + 3) ls (.int (iV E) :: rest))) : W p l e R s m args below meth c H locs cells slots Q (F0 m pc ls st) := by
  subst hst
  obtain ⟨hx, hb, hml, hown, hts, hK, hSt, hA⟩ := X
  have hPp := va_P_perm hp1 hP
  have hPc := va_P_left hPp
  have hDp := va_D_perm hp1 hD
  have hDc := va_D_left hDp
  have hF := va_free_l hDp hS hA
  refine va_calli (va_runV (As := As) (rest := rest) ⟨hx, hb, hml, hown, hts⟩ hM (zcwV hts hlink hm hR.1 hR.2.1 hR.2.2) ⟨zPw_blind, va_recv hK hPc (ci := ci) (q0 := q0) hr2 hr1, fun U hU hW => ⟨rfl, by rw [hU], by rw [hU]; exact hPc, va_K.moved hW.alike hK, hSt.call hS hF hU hW, hDc.weaken (fun _ _ _ _ => trivial)⟩⟩ rfl hn hls rfl (lv_room hrest) hdg hcs) hS (fun q _ h => hF q h) hF (fun r u t H1 locs1 ht hvm hw hB hz hk hS1 => ?_)
  have hr : r = iV E := hw
  subst hr
  rw [ht] at hB
  obtain ⟨hP2, hD2⟩ := z_joinp hPp hDp c5 hk hB
  exact kk H1 locs1 (va_P_perm hp2 hP2) (va_D_perm hp2 hD2) hS1
theorem z_callVwvp {own C : String} {index : Nat} {y : MethodName} {bytes : ByteArray} {maxL nL n : Nat} {ret : Option FieldType} {rm : Room} {As st : List Value} {wc w wr : va_W} {w1 w2 : va_W} {b : Nat} {ci : Nat} {fs : List Value} {T : u_T} {N : Nat}
    (X : p.tables.exec = Jvm.exec ∧ c.code = cc ∧ c.maxLocals = nL ∧ s.vm.findClass own = some m.cls ∧ (∀ w ∈ zT, w.before args s = true) ∧ zK G s ∧ zSt A s s.heap ∧ ∀ q, s.heap.size ≤ q → A q)
    (hP : va_P G.1 vwCl w H) (hD : va_D A w) (hS : va_S A s.heap H locs) (hls : ls.size = nL)
    (hM : Met l y (Cond.code y bytes maxL ret :: zT) rm (zPw G (.ref b :: As) wc H.size) (zQv G wc w1 H.size) 0 0 (va_A wc H.size))
    (hlink : Cond.methodLink own index y ∈ zT) (hm : zM C y bytes maxL ret n)
    (hR : rm.cells = 0 ∧ rm.slots = 0 ∧ rm.frames + 1 ≤ R.frames ∧ 8 + (maxL + 11) + rm.locals ≤ R.locals)
    (hp1 : w.Perm (wc ++ wr)) (hp2 : (w1 ++ wr).Perm w2) (c5 : w1.map Prod.fst = wc.map Prod.fst) (q0 : Nat) (hr1 : wc[q0]? = some (b, .inr (ci, fs))) (hr2 : vwCl[ci]? = some (C, T, N))
    (hn : As.length = n) (hst : st = As.reverse ++ .ref b :: rest) (hrest : (rest.map fun v => v.category).sum ≤ 8)
    (hdg : decode cc pc = .ok (.invokevirtual index, 3)) (hcs : cells ≤ R.cells ∧ slots ≤ R.slots)
    (kk : ∀ (H1 : Heap) (locs1 : List Loc), va_P G.1 vwCl w2 H1 → va_D A w2 → va_S A s.heap H1 locs1 → W p l e R s m args below meth c H1 locs1 cells slots Q (F0 m (pc + 3) ls rest)) : W p l e R s m args below meth c H locs cells slots Q (F0 m pc ls st) := by
  subst hst
  obtain ⟨hx, hb, hml, hown, hts, hK, hSt, hA⟩ := X
  have hPp := va_P_perm hp1 hP
  have hPc := va_P_left hPp
  have hDp := va_D_perm hp1 hD
  have hDc := va_D_left hDp
  have hF := va_free_l hDp hS hA
  refine va_callv (va_runV (As := As) (rest := rest) ⟨hx, hb, hml, hown, hts⟩ hM (zcwV hts hlink hm hR.1 hR.2.1 hR.2.2) ⟨zPw_blind, va_recv hK hPc (ci := ci) (q0 := q0) hr2 hr1, fun U hU hW => ⟨rfl, by rw [hU], by rw [hU]; exact hPc, va_K.moved hW.alike hK, hSt.call hS hF hU hW, hDc.weaken (fun _ _ _ _ => trivial)⟩⟩ rfl hn hls rfl (lv_room hrest) hdg hcs) hS (fun q _ h => hF q h) hF (fun u t H1 locs1 ht hvm hw hB hz hk hS1 => ?_)
  rw [ht] at hB
  obtain ⟨hP2, hD2⟩ := z_joinp hPp hDp c5 hk hB
  exact kk H1 locs1 (va_P_perm hp2 hP2) (va_D_perm hp2 hD2) hS1
end ZP
