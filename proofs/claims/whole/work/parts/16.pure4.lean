/-! the lights -/
def tNear (a b : Int) : Prop := (b - a) % 8 ≤ 1 ∨ (b - a) % 8 = 7
abbrev lT : Type := Int × (Nat → Int)
def lSum (kF : Nat → Int) (a b c d : Int) : Int := kF a.toNat + kF (8 + b).toNat + kF (16 + c).toNat + kF (24 + d).toNat
def lKeep (kF : Nat → Int) (S : lT) (a b c d : Int) : lT := if lSum kF a b c d ≤ S.1 then S else (lSum kF a b c d, uI (uI (uI (uI S.2 0 a) 1 b) 2 c) 3 d)
/-- what is left of the row of fourth lights, from n on -/
noncomputable def lR4 (kF : Nat → Int) (a b c : Int) : Nat → Nat → lT → lT
  | 0, _, S => S
  | f + 1, n, S => lR4 kF a b c f (n + 1) (if bP (tNear a c ∧ tNear b (Nat.cast n : Int) ∧ tNear c (Nat.cast n : Int)) = 1 then lKeep kF S a b c (Nat.cast n : Int) else S)
noncomputable def lR3 (kF : Nat → Int) (a b : Int) : Nat → Nat → lT → lT
  | 0, _, S => S
  | f + 1, n, S => lR3 kF a b f (n + 1) (lR4 kF a b (Nat.cast n : Int) 8 0 S)
noncomputable def lR2 (kF : Nat → Int) (a : Int) : Nat → Nat → lT → lT
  | 0, _, S => S
  | f + 1, n, S => lR2 kF a f (n + 1) (if bP (tNear a (Nat.cast n : Int)) = 1 then lR3 kF a (Nat.cast n : Int) 8 0 S else S)
noncomputable def lR1 (kF : Nat → Int) : Nat → Nat → lT → lT
  | 0, _, S => S
  | f + 1, n, S => lR1 kF f (n + 1) (lR2 kF (Nat.cast n : Int) 8 0 S)
theorem fuel_s {N n : Nat} (h : n < N) : N - n = (N - (n + 1)) + 1 := by omega
theorem lKeep_t {kF : Nat → Int} {s : Int} {f : Nat → Int} {a b c d : Int} (h : lSum kF a b c d ≤ s) : lKeep kF (s, f) a b c d = (s, f) := by unfold lKeep; rw [if_pos h]
theorem lKeep_f {kF : Nat → Int} {s : Int} {f : Nat → Int} {a b c d : Int} (h : ¬ lSum kF a b c d ≤ s) : lKeep kF (s, f) a b c d = (lSum kF a b c d, uI (uI (uI (uI f 0 a) 1 b) 2 c) 3 d) := by unfold lKeep; rw [if_neg h]
theorem lR4_t {kF : Nat → Int} {a b c : Int} {n : Nat} {S : lT} (hn : n < 8) (h : tNear a c ∧ tNear b (Nat.cast n : Int) ∧ tNear c (Nat.cast n : Int)) : lR4 kF a b c (8 - n) n S = lR4 kF a b c (8 - (n + 1)) (n + 1) (lKeep kF S a b c (Nat.cast n : Int)) := by
  rw [fuel_s hn]; simp only [lR4]; rw [if_pos (bP_t h)]
theorem lR4_f {kF : Nat → Int} {a b c : Int} {n : Nat} {S : lT} (hn : n < 8) (h : ¬ (tNear a c ∧ tNear b (Nat.cast n : Int) ∧ tNear c (Nat.cast n : Int))) : lR4 kF a b c (8 - n) n S = lR4 kF a b c (8 - (n + 1)) (n + 1) S := by
  rw [fuel_s hn]; simp only [lR4]; rw [if_neg (by rw [bP_f h]; omega)]
theorem lR3_s {kF : Nat → Int} {a b : Int} {n : Nat} {S : lT} (hn : n < 8) : lR3 kF a b (8 - n) n S = lR3 kF a b (8 - (n + 1)) (n + 1) (lR4 kF a b (Nat.cast n : Int) 8 0 S) := by
  rw [fuel_s hn]; simp only [lR3]
theorem lR2_t {kF : Nat → Int} {a : Int} {n : Nat} {S : lT} (hn : n < 8) (h : tNear a (Nat.cast n : Int)) : lR2 kF a (8 - n) n S = lR2 kF a (8 - (n + 1)) (n + 1) (lR3 kF a (Nat.cast n : Int) 8 0 S) := by
  rw [fuel_s hn]; simp only [lR2]; rw [if_pos (bP_t h)]
theorem lR2_f {kF : Nat → Int} {a : Int} {n : Nat} {S : lT} (hn : n < 8) (h : ¬ tNear a (Nat.cast n : Int)) : lR2 kF a (8 - n) n S = lR2 kF a (8 - (n + 1)) (n + 1) S := by
  rw [fuel_s hn]; simp only [lR2]; rw [if_neg (by rw [bP_f h]; omega)]
theorem lR1_s {kF : Nat → Int} {n : Nat} {S : lT} (hn : n < 8) : lR1 kF (8 - n) n S = lR1 kF (8 - (n + 1)) (n + 1) (lR2 kF (Nat.cast n : Int) 8 0 S) := by
  rw [fuel_s hn]; simp only [lR1]
def lOK (S : lT) : Prop := -1 ≤ S.1 ∧ S.1 ≤ 144
theorem lSum_r {kF : Nat → Int} (h : ∀ k : Nat, -36 ≤ kF k ∧ kF k ≤ 36) (a b c d : Int) : -144 ≤ lSum kF a b c d ∧ lSum kF a b c d ≤ 144 := by
  have h1 := h a.toNat
  have h2 := h (8 + b).toNat
  have h3 := h (16 + c).toNat
  have h4 := h (24 + d).toNat
  unfold lSum; omega
theorem lKeep_ok {kF : Nat → Int} (hk : ∀ k : Nat, -36 ≤ kF k ∧ kF k ≤ 36) {S : lT} (h : lOK S) (a b c d : Int) : lOK (lKeep kF S a b c d) := by
  have := lSum_r hk a b c d
  unfold lOK at *
  unfold lKeep
  split
  · exact h
  · simp only; omega
theorem lR4_ok {kF : Nat → Int} (hk : ∀ k : Nat, -36 ≤ kF k ∧ kF k ≤ 36) {a b c : Int} (f n : Nat) {S : lT} (h : lOK S) : lOK (lR4 kF a b c f n S) := by
  induction f generalizing n S with
  | zero => exact h
  | succ f ih =>
    simp only [lR4]
    split
    · exact ih _ (lKeep_ok hk h _ _ _ _)
    · exact ih _ h
theorem lR3_ok {kF : Nat → Int} (hk : ∀ k : Nat, -36 ≤ kF k ∧ kF k ≤ 36) {a b : Int} (f n : Nat) {S : lT} (h : lOK S) : lOK (lR3 kF a b f n S) := by
  induction f generalizing n S with
  | zero => exact h
  | succ f ih => exact ih _ (lR4_ok hk _ _ h)
theorem lR2_ok {kF : Nat → Int} (hk : ∀ k : Nat, -36 ≤ kF k ∧ kF k ≤ 36) {a : Int} (f n : Nat) {S : lT} (h : lOK S) : lOK (lR2 kF a f n S) := by
  induction f generalizing n S with
  | zero => exact h
  | succ f ih =>
    simp only [lR2]
    split
    · exact ih _ (lR3_ok hk _ _ h)
    · exact ih _ h
theorem lR1_ok {kF : Nat → Int} (hk : ∀ k : Nat, -36 ≤ kF k ∧ kF k ≤ 36) (f n : Nat) {S : lT} (h : lOK S) : lOK (lR1 kF f n S) := by
  induction f generalizing n S with
  | zero => exact h
  | succ f ih => exact ih _ (lR2_ok hk _ _ h)
noncomputable def gK (W H : Int) (g : Nat → Int) : Nat → Int := fun k => gContrast W H g ((Nat.cast k : Int) / 8) ((Nat.cast k : Int) % 8)
theorem gK_r {W H : Int} {g : Nat → Int} (h : gOK W H g) (k : Nat) : -36 ≤ gK W H g k ∧ gK W H g k ≤ 36 := gContrast_r h _ _
theorem gK_s {W H : Int} {g f : Nat → Int} {q d : Nat} (hd : d < 8) : uI (zTake (8 * q + d) (gK W H g) f) ((Nat.cast q : Int) * 8 + (Nat.cast d : Int)).toNat (gContrast W H g (Nat.cast q : Int) (Nat.cast d : Int)) = zTake (8 * q + (d + 1)) (gK W H g) f := by
  have h1 : ((Nat.cast q : Int) * 8 + (Nat.cast d : Int)).toNat = 8 * q + d := by omega
  have h2 : gContrast W H g (Nat.cast q : Int) (Nat.cast d : Int) = gK W H g (8 * q + d) := by
    unfold gK
    rw [show (Nat.cast (8 * q + d) : Int) / 8 = (Nat.cast q : Int) by omega, show (Nat.cast (8 * q + d) : Int) % 8 = (Nat.cast d : Int) by omega]
  rw [h1, h2, zTake_s]
  rfl
theorem zTake_r {f g : Nat → Int} {lo hi : Int} (hf : ∀ k : Nat, lo ≤ f k ∧ f k ≤ hi) (hg : ∀ k : Nat, lo ≤ g k ∧ g k ≤ hi) (n : Nat) : ∀ k : Nat, lo ≤ zTake n f g k ∧ zTake n f g k ≤ hi := by
  intro k
  unfold zTake
  split
  · exact hf k
  · exact hg k
/-! the levels -/
def gUp (W H : Int) (g : Nat → Int) (v c : Int) : Prop := gIn W H c ∧ v ≤ gAt g (c % 9) (c / 9)
abbrev wT : Type := Int × (Nat → Int) × (Nat → Int)
noncomputable def wD (W H : Int) (g : Nat → Int) (v : Int) (i n : Nat) (S : wT) : wT :=
  let o := gNb W H (S.2.2 i) (2 * (Nat.cast n : Int))
  if bP (gUp W H g v o) = 1 ∧ S.2.1 o.toNat = 0 ∧ S.1 < 81 then (S.1 + 1, uI S.2.1 o.toNat 1, uI S.2.2 S.1.toNat o) else S
noncomputable def wI4 (W H : Int) (g : Nat → Int) (v : Int) (i : Nat) : Nat → Nat → wT → wT
  | 0, _, S => S
  | f + 1, n, S => wI4 W H g v i f (n + 1) (wD W H g v i n S)
noncomputable def wOut (W H : Int) (g : Nat → Int) (v : Int) : Nat → Nat → wT → wT
  | 0, _, S => S
  | f + 1, i, S => if (Nat.cast i : Int) < S.1 then wOut W H g v f (i + 1) (wI4 W H g v i 4 0 S) else S
noncomputable def wPiece (W H : Int) (g : Nat → Int) (v c : Int) (sF pF : Nat → Int) : wT := wOut W H g v 81 0 (1, uI sF c.toNat 1, uI pF 0 c)
def wOK (S : wT) : Prop := 0 ≤ S.1 ∧ S.1 ≤ 81 ∧ (∀ k : Nat, 0 ≤ S.2.1 k ∧ S.2.1 k ≤ 1) ∧ ∀ k : Nat, 0 ≤ S.2.2 k ∧ S.2.2 k < 81
theorem uI_r {f : Nat → Int} {i : Nat} {v lo hi : Int} (hf : ∀ k : Nat, lo ≤ f k ∧ f k ≤ hi) (hv : lo ≤ v ∧ v ≤ hi) : ∀ k : Nat, lo ≤ uI f i v k ∧ uI f i v k ≤ hi := by
  intro k
  unfold uI
  split
  · exact hv
  · exact hf k
theorem uI_r' {f : Nat → Int} {i : Nat} {v lo hi : Int} (hf : ∀ k : Nat, lo ≤ f k ∧ f k < hi) (hv : lo ≤ v ∧ v < hi) : ∀ k : Nat, lo ≤ uI f i v k ∧ uI f i v k < hi := by
  intro k
  unfold uI
  split
  · exact hv
  · exact hf k
theorem wOK_u {f : Int} {sF pF : Nat → Int} {o : Int} (h : wOK (f, sF, pF)) (hf : f < 81) (ho : 0 ≤ o ∧ o < 81) : wOK (f + 1, uI sF o.toNat 1, uI pF f.toNat o) := by
  obtain ⟨h1, h2, h3, h4⟩ := h
  simp only at h1 h2
  exact ⟨by simp only; omega, by simp only; omega, uI_r h3 (by omega), uI_r' h4 ho⟩
theorem wOK_0 {sF pF : Nat → Int} {c : Int} (h3 : ∀ k : Nat, 0 ≤ sF k ∧ sF k ≤ 1) (h4 : ∀ k : Nat, 0 ≤ pF k ∧ pF k < 81) (hc : 0 ≤ c ∧ c < 81) : wOK (1, uI sF c.toNat 1, uI pF 0 c) := ⟨by simp only; omega, by simp only; omega, uI_r h3 (by omega), uI_r' h4 hc⟩
theorem wD_t {W H : Int} {g : Nat → Int} {v : Int} {i n : Nat} {f : Int} {sF pF : Nat → Int} {o : Int} (ho : o = gNb W H (pF i) (2 * (Nat.cast n : Int))) (h1 : gUp W H g v o) (h2 : sF o.toNat = 0) (h3 : f < 81) : wD W H g v i n (f, sF, pF) = (f + 1, uI sF o.toNat 1, uI pF f.toNat o) := by
  unfold wD
  simp only
  rw [← ho, if_pos ⟨bP_t h1, h2, h3⟩]
theorem wD_f {W H : Int} {g : Nat → Int} {v : Int} {i n : Nat} {f : Int} {sF pF : Nat → Int} {o : Int} (ho : o = gNb W H (pF i) (2 * (Nat.cast n : Int))) (h : ¬ (gUp W H g v o ∧ sF o.toNat = 0 ∧ f < 81)) : wD W H g v i n (f, sF, pF) = (f, sF, pF) := by
  unfold wD
  simp only
  rw [← ho, if_neg (fun q => h ⟨bP_1 (by rw [q.1]; omega), q.2⟩)]
theorem wI4_s {W H : Int} {g : Nat → Int} {v : Int} {i n : Nat} {S : wT} (hn : n < 4) : wI4 W H g v i (4 - n) n S = wI4 W H g v i (4 - (n + 1)) (n + 1) (wD W H g v i n S) := by
  rw [fuel_s hn]; simp only [wI4]
theorem wOut_t {W H : Int} {g : Nat → Int} {v : Int} {i : Nat} {f : Int} {sF pF : Nat → Int} (hi : i < 81) (h : (Nat.cast i : Int) < f) : wOut W H g v (81 - i) i (f, sF, pF) = wOut W H g v (81 - (i + 1)) (i + 1) (wI4 W H g v i 4 0 (f, sF, pF)) := by
  rw [fuel_s hi]; simp only [wOut]; rw [if_pos h]
theorem wOut_f {W H : Int} {g : Nat → Int} {v : Int} {i : Nat} {f : Int} {sF pF : Nat → Int} (h : ¬ ((Nat.cast i : Int) < f ∧ i < 81)) : wOut W H g v (81 - i) i (f, sF, pF) = (f, sF, pF) := by
  by_cases hi : i < 81
  · rw [fuel_s hi]; simp only [wOut]; rw [if_neg (fun q => h ⟨q, hi⟩)]
  · rw [show 81 - i = 0 by omega]; rfl
theorem wD_ok {W H : Int} {g : Nat → Int} (hG : gOK W H g) {v : Int} {i n : Nat} {S : wT} (h : wOK S) : wOK (wD W H g v i n S) := by
  obtain ⟨f, sF, pF⟩ := S
  unfold wD
  simp only
  split
  · rename_i q
    have hu := bP_1 (q := gUp W H g v (gNb W H (pF i) (2 * (Nat.cast n : Int)))) (by rw [q.1]; omega)
    have := gNb_r hG (pF i) (2 * (Nat.cast n : Int))
    exact wOK_u h q.2.2 ⟨hu.1.1, by omega⟩
  · exact h
theorem wI4_ok {W H : Int} {g : Nat → Int} (hG : gOK W H g) {v : Int} {i : Nat} (f n : Nat) {S : wT} (h : wOK S) : wOK (wI4 W H g v i f n S) := by
  induction f generalizing n S with
  | zero => exact h
  | succ f ih => exact ih _ (wD_ok hG h)
theorem wOut_ok {W H : Int} {g : Nat → Int} (hG : gOK W H g) {v : Int} (f i : Nat) {S : wT} (h : wOK S) : wOK (wOut W H g v f i S) := by
  induction f generalizing i S with
  | zero => exact h
  | succ f ih =>
    simp only [wOut]
    split
    · exact ih _ (wI4_ok hG _ _ h)
    · exact h
noncomputable def vLow (W H : Int) (g : Nat → Int) (v c : Int) : Nat → Int := sumN (fun k => bP (¬ gNb W H c (2 * (Nat.cast k : Int)) = -1 ∧ ¬ gUp W H g v (gNb W H c (2 * (Nat.cast k : Int)))))
noncomputable def vLine (W H : Int) (g : Nat → Int) (v : Int) : Nat → Int := sumN (fun k => if bP (gUp W H g v (Nat.cast k : Int)) = 1 then vLow W H g v (Nat.cast k : Int) 4 else 0)
/-- hills counted so far, what was seen, the last piece -/
noncomputable def wH (W H : Int) (g : Nat → Int) (v : Int) : Nat → Nat → wT → wT
  | 0, _, S => S
  | f + 1, n, S => wH W H g v f (n + 1) (if bP (gUp W H g v (Nat.cast n : Int)) = 1 ∧ S.2.1 n = 0 then (S.1 + 1, (wPiece W H g v (Nat.cast n : Int) S.2.1 S.2.2).2) else S)
theorem wH_t {W H : Int} {g : Nat → Int} {v : Int} {n : Nat} {f : Int} {sF pF : Nat → Int} (hn : n < 81) (h1 : gUp W H g v (Nat.cast n : Int)) (h2 : sF n = 0) : wH W H g v (81 - n) n (f, sF, pF) = wH W H g v (81 - (n + 1)) (n + 1) (f + 1, (wPiece W H g v (Nat.cast n : Int) sF pF).2.1, (wPiece W H g v (Nat.cast n : Int) sF pF).2.2) := by
  rw [fuel_s hn]; simp only [wH]; rw [if_pos ⟨bP_t h1, h2⟩]
theorem wH_f {W H : Int} {g : Nat → Int} {v : Int} {n : Nat} {f : Int} {sF pF : Nat → Int} (hn : n < 81) (h : ¬ (gUp W H g v (Nat.cast n : Int) ∧ sF n = 0)) : wH W H g v (81 - n) n (f, sF, pF) = wH W H g v (81 - (n + 1)) (n + 1) (f, sF, pF) := by
  rw [fuel_s hn]; simp only [wH]; rw [if_neg (fun q => h ⟨bP_1 (by rw [q.1]; omega), q.2⟩)]
theorem wPiece_ok {W H : Int} {g : Nat → Int} (hG : gOK W H g) {v c : Int} {sF pF : Nat → Int} (h3 : ∀ k : Nat, 0 ≤ sF k ∧ sF k ≤ 1) (h4 : ∀ k : Nat, 0 ≤ pF k ∧ pF k < 81) (hc : 0 ≤ c ∧ c < 81) : wOK (wPiece W H g v c sF pF) := wOut_ok hG _ _ (wOK_0 h3 h4 hc)
