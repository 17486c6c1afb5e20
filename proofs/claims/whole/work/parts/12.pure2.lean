theorem zCp_eq (f g : Nat → Int) (a b n : Nat) : va_cpy (fun k => iV (f k)) (fun k => iV (g k)) a b n = fun k => iV (zCp f g a b n k) := by
  funext k
  unfold va_cpy zCp
  split <;> rfl
section ZCP
variable {p : Program} {l : Launch} {e : Env} {R : Room} {s : State} {m : MethodId} {args : Array Value} {below : List Frame} {meth : Method} {c : Code} {H : Heap} {locs : List Loc} {cells slots : Nat} {Q : State → Prop}
variable {cc : ByteArray} {pc : Nat} {ls : Array Slot} {rest : List Value} {G : zG} {A : Nat → Prop} {w : va_W} {a : Nat} {H0 : Heap}
theorem z_copyi {own : String} {index : Nat} (hexec : p.tables.exec = Jvm.exec) (hb : c.code = cc) (hml : c.maxLocals = ls.size) (hown : s.vm.findClass own = some m.cls) (hlink : (Cond.methodLink own index arraycopyName).before args s = true) (hnat : (Cond.native arraycopyName).before args s = true) (hstat : (Cond.static arraycopyName).before args s = true) (hini : (Cond.initialized "java/lang/System").before args s = true)
    (hK : zK G s) (hP : va_P G.1 vwCl w H) (hD : va_D A w) (hS : va_S A H0 H locs) (q0 q1 : Nat) {a0 n0 n1 : Nat} {f g : Nat → Int} (ha0 : w[q0]? = some (a0, .inl (G.2.1, n0, .inl (fun k => iV (f k))))) (ha1 : w[q1]? = some (a, .inl (G.2.1, n1, .inl (fun k => iV (g k)))))
    {sp dp n : Int} (h1 : 0 ≤ sp ∧ 0 ≤ dp ∧ 0 ≤ n ∧ sp + n ≤ n0 ∧ dp + n ≤ n1) (h2 : n0 < 2147483648 ∧ n1 < 2147483648)
    (hframes : 1 ≤ R.frames) (hlocals : (rest.map fun v => v.category).sum + (nativeFrameWords "java/lang/System" "arraycopy" 5 + 11) ≤ R.locals) (hdg : decode cc pc = .ok (.invokestatic index, 3))
    (kk : ∀ (H1 : Heap) (locs1 : List Loc), va_P G.1 vwCl (w.set q1 (a, .inl (G.2.1, n1, .inl (fun k => iV (zCp f g sp.toNat dp.toNat n.toNat k))))) H1 → va_D A (w.set q1 (a, .inl (G.2.1, n1, .inl (fun k => iV (zCp f g sp.toNat dp.toNat n.toNat k))))) → va_S A H0 H1 locs1 → W p l e R s m args below meth c H1 locs1 cells slots Q (F0 m (pc + 3) ls rest)) : W p l e R s m args below meth c H locs cells slots Q (F0 m pc ls (.int (iV n) :: .int (iV dp) :: .ref a :: .int (iV sp) :: .ref a0 :: rest)) := by
  have r1 : iR sp := ⟨by omega, by omega⟩
  have r2 : iR dp := ⟨by omega, by omega⟩
  have r3 : iR n := ⟨by omega, by omega⟩
  have nn : ∀ {z : Int}, iR z → 0 ≤ z → ¬ iV z < 0 := fun {z} h h0 q => by
    have : iV z < iV 0 := q
    rw [iV_lt h zr0] at this
    omega
  refine va_copyi hexec hb hml hown hlink hnat hstat hini hK hP hD hS q0 q1 0 0 ha0 ha1 rfl rfl rfl (nn r1 h1.1) (nn r2 h1.2.1) (nn r3 h1.2.2.1) (by rw [iV_nat r1, iV_nat r3]; omega) (by rw [iV_nat r2, iV_nat r3]; omega) (fun i _ => rfl) hframes hlocals hdg ?_
  rw [iV_nat r1, iV_nat r2, iV_nat r3, zCp_eq]
  exact kk
end ZCP
/-! the strokes, in whole numbers -/
def sOK (n : Int) (lF cF : Nat → Int) : Prop := 0 ≤ n ∧ n ≤ 20 ∧ (∀ k : Nat, 0 ≤ lF k ∧ lF k ≤ 6) ∧ ∀ k : Nat, 0 ≤ cF k ∧ cF k < 81
/-- the cells of the strokes, six to a stroke -/
def sT (cF : Nat → Int) : Nat → Nat → Int := fun s k => cF (6 * s + k)
def sBy (a c : Int) : Prop := zabs (a % 9 - c % 9) ≤ 1 ∧ zabs (a / 9 - c / 9) ≤ 1
def sNear (lF : Nat → Int) (tF : Nat → Nat → Int) (s : Nat) (c : Int) : Prop := ∃ k : Nat, (Nat.cast k : Int) < lF s ∧ sBy (tF s k) c
def sOff (n : Int) (lF : Nat → Int) (tF : Nat → Nat → Int) (c : Int) : Prop := ∀ s : Nat, (Nat.cast s : Int) < n → ¬ sNear lF tF s c
def sAt (lF cF : Nat → Int) (s k : Int) : Int := if 0 ≤ k ∧ k < lF s.toNat then cF (s * 6 + k).toNat else -1
theorem sAt_in {lF cF : Nat → Int} {s : Int} {n : Nat} (hs : 0 ≤ s) (h : (Nat.cast n : Int) < lF s.toNat) : sAt lF cF s (Nat.cast n : Int) = cF (6 * s.toNat + n) := by
  unfold sAt
  rw [if_pos ⟨by omega, h⟩]
  congr 1
  omega
def sHas (lF : Nat → Int) (tF : Nat → Nat → Int) (s : Nat) (c : Int) : Prop := ∃ k : Nat, (Nat.cast k : Int) < lF s ∧ tF s k = c
noncomputable def sOwn (lF : Nat → Int) (tF : Nat → Nat → Int) (c : Int) : Nat → Nat → Int
  | 0, _ => -1
  | m + 1, s => if bP (sHas lF tF s c) = 1 then (Nat.cast s : Int) else sOwn lF tF c m (s + 1)
theorem sOwn_t {lF : Nat → Int} {tF : Nat → Nat → Int} {c : Int} {m s : Nat} (hm : 0 < m) (h : sHas lF tF s c) : sOwn lF tF c m s = (Nat.cast s : Int) := by
  obtain ⟨k, rfl⟩ : ∃ k, m = k + 1 := ⟨m - 1, by omega⟩
  simp only [sOwn]
  rw [if_pos (bP_t h)]
theorem sOwn_f {lF : Nat → Int} {tF : Nat → Nat → Int} {c : Int} {m s : Nat} (hm : 0 < m) (h : ¬ sHas lF tF s c) : sOwn lF tF c m s = sOwn lF tF c (m - 1) (s + 1) := by
  obtain ⟨k, rfl⟩ : ∃ k, m = k + 1 := ⟨m - 1, by omega⟩
  simp only [sOwn]
  rw [if_neg (by rw [bP_f h]; omega)]
  rfl
noncomputable def sEnd (n : Int) (lF : Nat → Int) (tF : Nat → Nat → Int) (nx len : Int) : Int := if nx = -1 then 1 else if bP (sOff n lF tF nx) = 0 then 2 else if len = 6 then 3 else 0
theorem sEnd_r (n : Int) (lF : Nat → Int) (tF : Nat → Nat → Int) (nx len : Int) : 0 ≤ sEnd n lF tF nx len ∧ sEnd n lF tF nx len ≤ 3 := by
  unfold sEnd
  split
  · omega
  · split
    · omega
    · split <;> omega
theorem all_s {P : Nat → Prop} {n : Nat} (h : ∀ k, k < n → P k) (h2 : P n) : ∀ k, k < n + 1 → P k := by
  intro d hd
  rcases Nat.lt_succ_iff_lt_or_eq.mp hd with q | q
  · exact h d q
  · rw [q]; exact h2
/-- the first n of f, then g -/
def zTake (n : Nat) (f g : Nat → Int) : Nat → Int := fun k => if k < n then f k else g k
theorem zTake_0 (f g : Nat → Int) : zTake 0 f g = g := by funext k; simp [zTake]
theorem zTake_s (f g : Nat → Int) (n : Nat) : uI (zTake n f g) n (f n) = zTake (n + 1) f g := by
  funext k
  unfold uI zTake
  by_cases h : k = n
  · subst h; rw [if_pos rfl, if_pos (by omega)]
  · rw [if_neg h]
    by_cases h2 : k < n
    · rw [if_pos h2, if_pos (by omega)]
    · rw [if_neg h2, if_neg (by omega)]
theorem zTake_c (f g : Nat → Int) (n w : Nat) : zCp f (zTake n f g) n n w = zTake (n + w) f g := by
  funext k
  unfold zCp zTake
  by_cases h : n ≤ k ∧ k < n + w
  · rw [if_pos h, if_pos h.2]; congr 1; omega
  · rw [if_neg h]
    by_cases h2 : k < n
    · rw [if_pos h2, if_pos (by omega)]
    · rw [if_neg h2, if_neg (by omega)]
/-- one out of a row of groups of w: those behind it one on -/
def zSh (w a n : Nat) (f : Nat → Int) : Nat → Int := fun k => if w * a ≤ k ∧ k < w * (a + n) then f (k + w) else f k
theorem zSh_0 (w a : Nat) (f : Nat → Int) : zSh w a 0 f = f := by
  funext k
  unfold zSh
  rw [if_neg (by rw [Nat.add_zero]; omega)]
theorem zSh_u (a n : Nat) (f : Nat → Int) : uI (zSh 1 a n f) (a + n) (zSh 1 a n f (a + n + 1)) = zSh 1 a (n + 1) f := by
  funext k
  unfold uI zSh
  by_cases h : k = a + n
  · subst h; rw [if_pos rfl, if_neg (by omega), if_pos (by omega)]
  · rw [if_neg h]
    by_cases h2 : 1 * a ≤ k ∧ k < 1 * (a + n)
    · rw [if_pos h2, if_pos (by omega)]
    · rw [if_neg h2, if_neg (by omega)]
theorem zSh_c (a n : Nat) (f : Nat → Int) : zCp (zSh 6 a n f) (zSh 6 a n f) (6 * (a + n + 1)) (6 * (a + n)) 6 = zSh 6 a (n + 1) f := by
  funext k
  unfold zCp zSh
  by_cases h : 6 * (a + n) ≤ k ∧ k < 6 * (a + n) + 6
  · rw [if_pos h, if_neg (by omega), if_pos (by omega)]; congr 1; omega
  · rw [if_neg h]
    by_cases h2 : 6 * a ≤ k ∧ k < 6 * (a + n)
    · rw [if_pos h2, if_pos (by omega)]
    · rw [if_neg h2, if_neg (by omega)]
/-- the strokes as numbers: how many, lengths, ends, cells -/
abbrev sS : Type := Int × (Nat → Int) × (Nat → Int) × (Nat → Int)
def sDel (S : sS) (s : Nat) : sS := (S.1 - 1, zSh 1 s (S.1.toNat - 1 - s) S.2.1, zSh 1 s (S.1.toNat - 1 - s) S.2.2.1, zSh 6 s (S.1.toNat - 1 - s) S.2.2.2)
noncomputable def sRm (c : Int) : Nat → sS → sS
  | 0, S => S
  | m + 1, S => sRm c m (if bP (sNear S.2.1 (sT S.2.2.2) m c) = 1 then sDel S m else S)
theorem sRm_t {c : Int} {m : Nat} {n : Int} {lF eF cF : Nat → Int} (h : sNear lF (sT cF) m c) : sRm c (m + 1) (n, lF, eF, cF) = sRm c m (sDel (n, lF, eF, cF) m) := by
  simp only [sRm]
  rw [if_pos (bP_t h)]
theorem sRm_f {c : Int} {m : Nat} {n : Int} {lF eF cF : Nat → Int} (h : ¬ sNear lF (sT cF) m c) : sRm c (m + 1) (n, lF, eF, cF) = sRm c m (n, lF, eF, cF) := by
  simp only [sRm]
  rw [if_neg (by rw [bP_f h]; omega)]
theorem zSh_r {w a n : Nat} {f : Nat → Int} {lo hi : Int} (h : ∀ k : Nat, lo ≤ f k ∧ f k ≤ hi) : ∀ k : Nat, lo ≤ zSh w a n f k ∧ zSh w a n f k ≤ hi := by
  intro k
  unfold zSh
  split
  · exact h _
  · exact h _
theorem sOK_del {n : Int} {lF cF : Nat → Int} {a m : Nat} (h : sOK n lF cF) (hn : 0 < n) : sOK (n - 1) (zSh 1 a m lF) (zSh 6 a m cF) := by
  obtain ⟨h1, h2, h3, h4⟩ := h
  refine ⟨by omega, by omega, zSh_r h3, fun k => ?_⟩
  have := zSh_r (w := 6) (a := a) (n := m) (lo := 0) (hi := 80) (fun k => ⟨(h4 k).1, by have := (h4 k).2; omega⟩) k
  omega
/-- a stroke's way down from a cell, and how it ends: so many cells so far -/
noncomputable def sGo (n : Int) (lF : Nat → Int) (tF : Nat → Nat → Int) (nx : Int → Int) : Nat → Nat → Int → Nat × Int
  | 0, j, _ => (j, 0)
  | f + 1, j, c => if sEnd n lF tF (nx c) (Nat.cast (j + 1) : Int) = 0 then sGo n lF tF nx f (j + 1) (nx c) else (j + 1, sEnd n lF tF (nx c) (Nat.cast (j + 1) : Int))
def gWk (nx : Int → Int) (c : Int) : Nat → Int
  | 0 => c
  | k + 1 => nx (gWk nx c k)
/-- the cells of one more stroke behind the others -/
def sPut (cF : Nat → Int) (a j : Nat) (f : Nat → Int) : Nat → Int := fun k => if a ≤ k ∧ k < a + j then f (k - a) else cF k
theorem sPut_0 (cF : Nat → Int) (a : Nat) (f : Nat → Int) : sPut cF a 0 f = cF := by funext k; unfold sPut; rw [if_neg (by omega)]
theorem sPut_s (cF : Nat → Int) (a j : Nat) (f : Nat → Int) : uI (sPut cF a j f) (a + j) (f j) = sPut cF a (j + 1) f := by
  funext k
  unfold uI sPut
  by_cases h : k = a + j
  · subst h; rw [if_pos rfl, if_pos (by omega)]; congr 1; omega
  · rw [if_neg h]
    by_cases h2 : a ≤ k ∧ k < a + j
    · rw [if_pos h2, if_pos (by omega)]
    · rw [if_neg h2, if_neg (by omega)]
theorem sNear_put {lF cF f : Nat → Int} {n : Int} {j s : Nat} {c : Int} (hl : ∀ k, lF k ≤ 6) (hs : (Nat.cast s : Int) < n) : sNear lF (sT (sPut cF (6 * n.toNat) j f)) s c ↔ sNear lF (sT cF) s c := by
  unfold sNear sT sPut
  constructor
  · rintro ⟨k, h1, h2⟩
    have := hl s
    rw [if_neg (by omega)] at h2
    exact ⟨k, h1, h2⟩
  · rintro ⟨k, h1, h2⟩
    have := hl s
    refine ⟨k, h1, ?_⟩
    rw [if_neg (by omega)]
    exact h2
theorem sOff_put {lF cF f : Nat → Int} {n : Int} {j : Nat} {c : Int} (hl : ∀ k, lF k ≤ 6) : sOff n lF (sT (sPut cF (6 * n.toNat) j f)) c ↔ sOff n lF (sT cF) c := by
  unfold sOff
  exact ⟨fun h s hs q => h s hs ((sNear_put hl hs).mpr q), fun h s hs q => h s hs ((sNear_put hl hs).mp q)⟩
theorem sEnd_put {lF cF f : Nat → Int} {n : Int} {j : Nat} {c len : Int} (hl : ∀ k, lF k ≤ 6) : sEnd n lF (sT (sPut cF (6 * n.toNat) j f)) c len = sEnd n lF (sT cF) c len := by
  unfold sEnd
  rw [bP_c (sOff_put hl)]
theorem sGo_s {n : Int} {lF : Nat → Int} {tF : Nat → Nat → Int} {nx : Int → Int} {j : Nat} {c : Int} (hj : j < 6) : sGo n lF tF nx (6 - j) j c = if sEnd n lF tF (nx c) (Nat.cast (j + 1) : Int) = 0 then sGo n lF tF nx (6 - (j + 1)) (j + 1) (nx c) else (j + 1, sEnd n lF tF (nx c) (Nat.cast (j + 1) : Int)) := by
  have : 6 - j = (6 - (j + 1)) + 1 := by omega
  rw [this]; rfl
theorem sEnd_6 {n : Int} {lF : Nat → Int} {tF : Nat → Nat → Int} {nx : Int} : ¬ sEnd n lF tF nx 6 = 0 := by
  unfold sEnd
  split
  · omega
  · split
    · omega
    · rw [if_pos rfl]; omega
theorem cst6 (n : Nat) : ((Nat.cast n : Int) * 6).toNat = 6 * n := by omega
theorem sOK_take {n n2 : Int} {lF lF2 cF cF2 : Nat → Int} (h : sOK n lF cF) (h2 : sOK n2 lF2 cF2) (a b : Nat) : sOK n (zTake a lF2 lF) (zTake b cF2 cF) := by
  obtain ⟨h1, h3, h4, h5⟩ := h
  obtain ⟨-, -, k4, k5⟩ := h2
  refine ⟨h1, h3, fun k => ?_, fun k => ?_⟩
  · unfold zTake; split
    · exact k4 k
    · exact h4 k
  · unfold zTake; split
    · exact k5 k
    · exact h5 k
theorem sOK_sh {n : Int} {lF cF : Nat → Int} (h : sOK n lF cF) (a m : Nat) : sOK n (zSh 1 a m lF) (zSh 6 a m cF) := by
  obtain ⟨h1, h2, h3, h4⟩ := h
  refine ⟨h1, h2, zSh_r h3, fun k => ?_⟩
  have := zSh_r (w := 6) (a := a) (n := m) (lo := 0) (hi := 80) (fun k => ⟨(h4 k).1, by have := (h4 k).2; omega⟩) k
  omega
theorem sRm_f2 {c : Int} {m : Nat} {n : Int} {lF eF cF : Nat → Int} (hm : 0 < m) (h : ¬ sNear lF (sT cF) (m - 1) c) : sRm c m (n, lF, eF, cF) = sRm c (m - 1) (n, lF, eF, cF) := by
  obtain ⟨k, rfl⟩ : ∃ k, m = k + 1 := ⟨m - 1, by omega⟩
  exact sRm_f h
theorem sRm_t2 {c : Int} {m : Nat} {n : Int} {lF eF cF : Nat → Int} (hm : 0 < m) (h : sNear lF (sT cF) (m - 1) c) : sRm c m (n, lF, eF, cF) = sRm c (m - 1) (n - 1, zSh 1 ((Nat.cast m : Int) - 1).toNat (n.toNat - 1 - ((Nat.cast m : Int) - 1).toNat) lF, zSh 1 ((Nat.cast m : Int) - 1).toNat (n.toNat - 1 - ((Nat.cast m : Int) - 1).toNat) eF, zSh 6 ((Nat.cast m : Int) - 1).toNat (n.toNat - 1 - ((Nat.cast m : Int) - 1).toNat) cF) := by
  obtain ⟨k, rfl⟩ : ∃ k, m = k + 1 := ⟨m - 1, by omega⟩
  rw [sRm_t (m := k) h, show ((Nat.cast (k + 1) : Int) - 1).toNat = k by omega]
  rfl
theorem sOK_put {n : Int} {lF cF f : Nat → Int} (h : sOK n lF cF) {a j : Nat} (hf : ∀ i : Nat, i < j → 0 ≤ f i ∧ f i < 81) : sOK n lF (sPut cF a j f) := by
  obtain ⟨h1, h2, h3, h4⟩ := h
  refine ⟨h1, h2, h3, fun k => ?_⟩
  unfold sPut
  split
  · exact hf _ (by omega)
  · exact h4 k
theorem sEnd_0 {n : Int} {lF : Nat → Int} {tF : Nat → Nat → Int} {nx len : Int} (h : sEnd n lF tF nx len = 0) : ¬ nx = -1 ∧ ¬ len = 6 := by
  unfold sEnd at h
  split at h
  · omega
  · split at h
    · omega
    · split at h
      · omega
      · exact ⟨by assumption, by assumption⟩
