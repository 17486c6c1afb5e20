/-! the shades, in whole numbers -/
/-- how often each tone (18 more) stands among the first n cells -/
noncomputable def xTal (P : pT) (t0 : Nat → Int) (n : Nat) : Nat → Int := fun k => if k < 37 then sumN (fun c => bP (gIn (pW P) (pH P) (Nat.cast c : Int) ∧ pTone P ((Nat.cast c : Int) % 9) ((Nat.cast c : Int) / 9) + 18 = (Nat.cast k : Int))) n else t0 k
theorem xTal_0 (P : pT) (t0 : Nat → Int) : zFill 37 0 t0 = xTal P t0 0 := by
  funext k
  unfold zFill xTal
  rfl
theorem xTal_t {P : pT} {t0 : Nat → Int} {n : Nat} (hin : gIn (pW P) (pH P) (Nat.cast n : Int)) (h0 : 0 ≤ pTone P ((Nat.cast n : Int) % 9) ((Nat.cast n : Int) / 9) + 18) (h1 : pTone P ((Nat.cast n : Int) % 9) ((Nat.cast n : Int) / 9) + 18 < 37) : uI (xTal P t0 n) (pTone P ((Nat.cast n : Int) % 9) ((Nat.cast n : Int) / 9) + 18).toNat (xTal P t0 n (pTone P ((Nat.cast n : Int) % 9) ((Nat.cast n : Int) / 9) + 18).toNat + 1) = xTal P t0 (n + 1) := by
  funext k
  unfold uI
  by_cases hk : k = (pTone P ((Nat.cast n : Int) % 9) ((Nat.cast n : Int) / 9) + 18).toNat
  · rw [if_pos hk, ← hk]
    unfold xTal
    rw [if_pos (by omega), if_pos (by omega)]
    exact sumN_t (P := fun c => gIn (pW P) (pH P) (Nat.cast c : Int) ∧ pTone P ((Nat.cast c : Int) % 9) ((Nat.cast c : Int) / 9) + 18 = (Nat.cast k : Int)) ⟨hin, by omega⟩
  · rw [if_neg hk]
    unfold xTal
    by_cases h : k < 37
    · rw [if_pos h, if_pos h]
      exact sumN_f (P := fun c => gIn (pW P) (pH P) (Nat.cast c : Int) ∧ pTone P ((Nat.cast c : Int) % 9) ((Nat.cast c : Int) / 9) + 18 = (Nat.cast k : Int)) (fun q => by have := q.2; omega)
    · rw [if_neg h, if_neg h]
theorem xTal_f {P : pT} {t0 : Nat → Int} {n : Nat} (hin : ¬ gIn (pW P) (pH P) (Nat.cast n : Int)) : xTal P t0 n = xTal P t0 (n + 1) := by
  funext k
  unfold xTal
  by_cases h : k < 37
  · rw [if_pos h, if_pos h]
    exact sumN_f (P := fun c => gIn (pW P) (pH P) (Nat.cast c : Int) ∧ pTone P ((Nat.cast c : Int) % 9) ((Nat.cast c : Int) / 9) + 18 = (Nat.cast k : Int)) (fun q => hin q.1)
  · rw [if_neg h, if_neg h]
theorem xTal_r {P : pT} {t0 : Nat → Int} {n k : Nat} (h : k < 37) : 0 ≤ xTal P t0 n k ∧ xTal P t0 n k ≤ n := by
  unfold xTal
  rw [if_pos h]
  exact sumN_r (P := fun c => gIn (pW P) (pH P) (Nat.cast c : Int) ∧ pTone P ((Nat.cast c : Int) % 9) ((Nat.cast c : Int) / 9) + 18 = (Nat.cast k : Int)) n
/-- the unlike tones in a row: how many, the tones, cells ahead, tones' sum ahead -/
abbrev xT : Type := Int × (Nat → Int) × (Nat → Int) × (Nat → Int)
def xStep (tF : Nat → Int) (n : Nat) (S : xT) : xT := if tF n ≤ 0 then S else (S.1 + 1, uI S.2.1 S.1.toNat ((Nat.cast n : Int) - 18), uI S.2.2.1 (S.1 + 1).toNat (S.2.2.1 S.1.toNat + tF n), uI S.2.2.2 (S.1 + 1).toNat (S.2.2.2 S.1.toNat + tF n * ((Nat.cast n : Int) - 18)))
def xLine (tF : Nat → Int) (S0 : xT) : Nat → xT
  | 0 => S0
  | n + 1 => xStep tF n (xLine tF S0 n)
theorem xStep_t {tF : Nat → Int} {n : Nat} {S : xT} (h : tF n ≤ 0) : xStep tF n S = S := by unfold xStep; rw [if_pos h]
theorem xStep_f {tF : Nat → Int} {n : Nat} {S : xT} (h : ¬ tF n ≤ 0) : xStep tF n S = (S.1 + 1, uI S.2.1 S.1.toNat ((Nat.cast n : Int) - 18), uI S.2.2.1 (S.1 + 1).toNat (S.2.2.1 S.1.toNat + tF n), uI S.2.2.2 (S.1 + 1).toNat (S.2.2.2 S.1.toNat + tF n * ((Nat.cast n : Int) - 18))) := by unfold xStep; rw [if_neg h]
theorem xLine_u {tF : Nat → Int} {S0 : xT} (h0 : S0.1 = 0) (n : Nat) : 0 ≤ (xLine tF S0 n).1 ∧ (xLine tF S0 n).1 ≤ n := by
  induction n with
  | zero => simp only [xLine]; omega
  | succ n ih =>
    simp only [xLine]
    unfold xStep
    split
    · omega
    · simp only; omega
/-- the place of the middle -/
def xM (ca : Nat → Int) (a b : Nat) (hf : Int) : Nat → Nat → Nat
  | 0, q => q
  | f + 1, q => if ca (q + 1) - ca a < hf then xM ca a b hf f (q + 1) else q
def xHalf (ca : Nat → Int) (a b : Nat) : Int := (ca b - ca a + 1) / 2
def xMidF (ca : Nat → Int) (a b q : Nat) : Nat := xM ca a b (xHalf ca a b) (b - 1 - q) q
theorem xM_r (ca : Nat → Int) (a b : Nat) (hf : Int) (f q : Nat) : q ≤ xM ca a b hf f q ∧ xM ca a b hf f q ≤ q + f := by
  induction f generalizing q with
  | zero => simp [xM]
  | succ f ih =>
    simp only [xM]
    split
    · have := ih (q + 1); omega
    · omega
theorem xM_s {ca : Nat → Int} {a b : Nat} {hf : Int} {q : Nat} (hq : q < b - 1) : xM ca a b hf (b - 1 - q) q = if ca (q + 1) - ca a < hf then xM ca a b hf (b - 1 - (q + 1)) (q + 1) else q := by
  rw [show b - 1 - q = (b - 1 - (q + 1)) + 1 by omega]; rfl
def xErr (tn ca sa : Nat → Int) (a b m : Nat) : Int := tn m * (ca m - ca a) - (sa m - sa a) + (sa b - sa m - tn m * (ca b - ca m))
/-- the least error from a place on, and where the next group begins: ends a + 1 .. a + n tried -/
def xFo (E D : Nat → Int) (a : Nat) (nx : Int) : Nat → Int × Int
  | 0 => (1000000, nx)
  | n + 1 => if (xFo E D a nx n).1 ≤ E (a + 1 + n) + D (a + 1 + n) then xFo E D a nx n else (E (a + 1 + n) + D (a + 1 + n), (Nat.cast (a + 1 + n) : Int))
theorem xFo_1 (E D : Nat → Int) (a : Nat) (nx ny : Int) (n : Nat) : (xFo E D a nx n).1 = (xFo E D a ny n).1 := by
  induction n with
  | zero => rfl
  | succ n ih =>
    simp only [xFo]
    rw [ih]
    split
    · exact ih
    · rfl
def xGrp (n u : Int) : Int := max 0 (min (min n u) 6)
/-- the row of least errors and next beginnings while the ends a + 1 .. are tried: n ends done, of the next one the groups below k -/
def xLe (E : Nat → Int) (D : Nat → Nat → Int) (lF : Nat → Int) (a n k : Nat) : Nat → Int := fun j => if j < 266 ∧ j % 38 = a then (if j / 38 = 0 then 1000000 else (xFo E (D (j / 38 - 1)) a 0 (if j / 38 < k then n + 1 else n)).1) else lF j
def xNe (E : Nat → Int) (D : Nat → Nat → Int) (nF : Nat → Int) (a n k : Nat) : Nat → Int := fun j => if j < 266 ∧ j % 38 = a ∧ 0 < j / 38 then (xFo E (D (j / 38 - 1)) a (nF j) (if j / 38 < k then n + 1 else n)).2 else nF j
def xFl (lF : Nat → Int) (a k : Nat) : Nat → Int := fun j => if j < 266 ∧ j % 38 = a ∧ j / 38 < k then 1000000 else lF j
theorem xFl_0 (lF : Nat → Int) (a : Nat) : xFl lF a 0 = lF := by funext j; unfold xFl; rw [if_neg (by omega)]
theorem xFl_s (lF : Nat → Int) (a k : Nat) (ha : a < 38) (hk : k < 7) : uI (xFl lF a k) (38 * k + a) 1000000 = xFl lF a (k + 1) := by
  funext j
  unfold uI xFl
  by_cases h : j = 38 * k + a
  · rw [if_pos h, if_pos (by omega)]
  · rw [if_neg h]
    by_cases h2 : j < 266 ∧ j % 38 = a ∧ j / 38 < k
    · rw [if_pos h2, if_pos (by omega)]
    · rw [if_neg h2, if_neg (by omega)]
theorem xLe_0 (E : Nat → Int) (D : Nat → Nat → Int) (lF : Nat → Int) (a : Nat) : xFl lF a 7 = xLe E D lF a 0 1 := by
  funext j
  unfold xFl xLe
  by_cases h : j < 266 ∧ j % 38 = a
  · rw [if_pos (by omega), if_pos h]
    by_cases h0 : j / 38 = 0
    · rw [if_pos h0]
    · rw [if_neg h0, if_neg (by omega)]; rfl
  · rw [if_neg (by omega), if_neg h]
theorem xNe_0 (E : Nat → Int) (D : Nat → Nat → Int) (nF : Nat → Int) (a : Nat) : nF = xNe E D nF a 0 1 := by
  funext j
  unfold xNe
  split
  · rw [if_neg (by omega)]; rfl
  · rfl
theorem xLe_n (E : Nat → Int) (D : Nat → Nat → Int) (lF : Nat → Int) (a n : Nat) : xLe E D lF a n 7 = xLe E D lF a (n + 1) 1 := by
  funext j
  unfold xLe
  by_cases h : j < 266 ∧ j % 38 = a
  · rw [if_pos h, if_pos h]
    by_cases h0 : j / 38 = 0
    · rw [if_pos h0, if_pos h0]
    · rw [if_neg h0, if_neg h0, if_pos (by omega), if_neg (by omega)]
  · rw [if_neg h, if_neg h]
theorem xNe_n (E : Nat → Int) (D : Nat → Nat → Int) (nF : Nat → Int) (a n : Nat) : xNe E D nF a n 7 = xNe E D nF a (n + 1) 1 := by
  funext j
  unfold xNe
  by_cases h : j < 266 ∧ j % 38 = a ∧ 0 < j / 38
  · rw [if_pos h, if_pos h, if_pos (by omega), if_neg (by omega)]
  · rw [if_neg h, if_neg h]
theorem xLe_at {E : Nat → Int} {D : Nat → Nat → Int} {lF : Nat → Int} {a n k : Nat} (ha : a < 38) (hk : 0 < k ∧ k < 7) : xLe E D lF a n k (38 * k + a) = (xFo E (D (k - 1)) a 0 n).1 := by
  unfold xLe
  rw [if_pos (by omega), if_neg (by omega), if_neg (by omega), show (38 * k + a) / 38 = k by omega]
theorem xLe_ab {E : Nat → Int} {D : Nat → Nat → Int} {lF : Nat → Int} {a n k kk b : Nat} (hb : a < b ∧ b < 38) : xLe E D lF a n k (38 * kk + b) = lF (38 * kk + b) := by
  unfold xLe
  rw [if_neg (by omega)]
theorem xLe_f {E : Nat → Int} {D : Nat → Nat → Int} {lF : Nat → Int} {a n k : Nat} (ha : a < 38) (hk : 0 < k ∧ k < 7) (h : (xFo E (D (k - 1)) a 0 n).1 ≤ E (a + 1 + n) + D (k - 1) (a + 1 + n)) : xLe E D lF a n k = xLe E D lF a n (k + 1) := by
  funext j
  unfold xLe
  by_cases hj : j < 266 ∧ j % 38 = a
  · rw [if_pos hj, if_pos hj]
    by_cases h0 : j / 38 = 0
    · rw [if_pos h0, if_pos h0]
    · rw [if_neg h0, if_neg h0]
      by_cases h1 : j / 38 = k
      · rw [h1, if_neg (by omega), if_pos (by omega)]
        simp only [xFo]
        rw [if_pos h]
      · by_cases h2 : j / 38 < k
        · rw [if_pos h2, if_pos (by omega)]
        · rw [if_neg h2, if_neg (by omega)]
  · rw [if_neg hj, if_neg hj]
theorem xNe_f {E : Nat → Int} {D : Nat → Nat → Int} {nF : Nat → Int} {a n k : Nat} (ha : a < 38) (hk : 0 < k ∧ k < 7) (h : (xFo E (D (k - 1)) a 0 n).1 ≤ E (a + 1 + n) + D (k - 1) (a + 1 + n)) : xNe E D nF a n k = xNe E D nF a n (k + 1) := by
  funext j
  unfold xNe
  by_cases hj : j < 266 ∧ j % 38 = a ∧ 0 < j / 38
  · rw [if_pos hj, if_pos hj]
    by_cases h1 : j / 38 = k
    · rw [h1, if_neg (by omega), if_pos (by omega)]
      simp only [xFo]
      rw [if_pos (by rw [xFo_1 E (D (k - 1)) a (nF j) 0 n]; exact h)]
    · by_cases h2 : j / 38 < k
      · rw [if_pos h2, if_pos (by omega)]
      · rw [if_neg h2, if_neg (by omega)]
  · rw [if_neg hj, if_neg hj]
theorem xLe_t {E : Nat → Int} {D : Nat → Nat → Int} {lF : Nat → Int} {a n k : Nat} (ha : a < 38) (hk : 0 < k ∧ k < 7) (h : ¬ (xFo E (D (k - 1)) a 0 n).1 ≤ E (a + 1 + n) + D (k - 1) (a + 1 + n)) : uI (xLe E D lF a n k) (38 * k + a) (E (a + 1 + n) + D (k - 1) (a + 1 + n)) = xLe E D lF a n (k + 1) := by
  funext j
  unfold uI
  by_cases hj0 : j = 38 * k + a
  · rw [if_pos hj0]
    unfold xLe
    rw [if_pos (by omega), if_neg (by omega), if_pos (by omega), show j / 38 = k by omega]
    simp only [xFo]
    rw [if_neg h]
  · rw [if_neg hj0]
    unfold xLe
    by_cases hj : j < 266 ∧ j % 38 = a
    · rw [if_pos hj, if_pos hj]
      by_cases h0 : j / 38 = 0
      · rw [if_pos h0, if_pos h0]
      · rw [if_neg h0, if_neg h0]
        by_cases h2 : j / 38 < k
        · rw [if_pos h2, if_pos (by omega)]
        · rw [if_neg h2, if_neg (by omega)]
    · rw [if_neg hj, if_neg hj]
theorem xNe_t {E : Nat → Int} {D : Nat → Nat → Int} {nF : Nat → Int} {a n k : Nat} (ha : a < 38) (hk : 0 < k ∧ k < 7) (h : ¬ (xFo E (D (k - 1)) a 0 n).1 ≤ E (a + 1 + n) + D (k - 1) (a + 1 + n)) : uI (xNe E D nF a n k) (38 * k + a) (Nat.cast (a + 1 + n) : Int) = xNe E D nF a n (k + 1) := by
  funext j
  unfold uI
  by_cases hj0 : j = 38 * k + a
  · rw [if_pos hj0]
    unfold xNe
    rw [if_pos (by omega), if_pos (by omega), show j / 38 = k by omega]
    simp only [xFo]
    rw [if_neg (by rw [xFo_1 E (D (k - 1)) a (nF j) 0 n]; exact h)]
  · rw [if_neg hj0]
    unfold xNe
    by_cases hj : j < 266 ∧ j % 38 = a ∧ 0 < j / 38
    · rw [if_pos hj, if_pos hj]
      by_cases h2 : j / 38 < k
      · rw [if_pos h2, if_pos (by omega)]
      · rw [if_neg h2, if_neg (by omega)]
    · rw [if_neg hj, if_neg hj]
theorem xFo_r {E D : Nat → Int} {a : Nat} {nx : Int} {n : Nat} (h : ∀ b : Nat, a < b → b ≤ a + n → -100000 ≤ E b + D b) : -100000 ≤ (xFo E D a nx n).1 ∧ (xFo E D a nx n).1 ≤ 1000000 := by
  induction n with
  | zero => simp [xFo]
  | succ n ih =>
    have h1 := ih (fun b h1 h2 => h b h1 (by omega))
    have h2 := h (a + 1 + n) (by omega) (by omega)
    simp only [xFo]
    split
    · exact h1
    · simp only; omega
theorem xFo_nx {E D : Nat → Int} {a : Nat} {nx : Int} {n : Nat} (h : 0 ≤ nx ∧ nx ≤ 37) (ha : a + n ≤ 37) : 0 ≤ (xFo E D a nx n).2 ∧ (xFo E D a nx n).2 ≤ 37 := by
  induction n with
  | zero => exact h
  | succ n ih =>
    have := ih (by omega)
    simp only [xFo]
    split
    · exact this
    · simp only; omega
/-- a group's error, its middle sought from the beginning -/
def xE (tn ca sa : Nat → Int) (a b : Nat) : Int := xErr tn ca sa a b (xMidF ca a b a)
/-- the middle moves on only: sought from the last one's middle it is the same -/
theorem xM_skip {ca : Nat → Int} {a b : Nat} {hf : Int} {q r : Nat} (hq : q ≤ r) (hr : r ≤ b - 1) (h : ∀ i : Nat, q ≤ i → i < r → ca (i + 1) - ca a < hf) : xM ca a b hf (b - 1 - q) q = xM ca a b hf (b - 1 - r) r := by
  obtain ⟨d, rfl⟩ : ∃ d, r = q + d := ⟨r - q, by omega⟩
  induction d generalizing q with
  | zero => rfl
  | succ d ih =>
    rw [xM_s (by omega), if_pos (h q (Nat.le_refl q) (by omega))]
    rw [ih (q := q + 1) (by omega) (by omega) (fun i h1 h2 => h i (by omega) (by omega))]
    rw [show q + 1 + d = q + (d + 1) by omega]
theorem xM_all {ca : Nat → Int} {a b : Nat} {hf : Int} (f q : Nat) : ∀ i : Nat, q ≤ i → i < xM ca a b hf f q → ca (i + 1) - ca a < hf := by
  induction f generalizing q with
  | zero => intro i h1 h2; simp only [xM] at h2; omega
  | succ f ih =>
    intro i h1 h2
    simp only [xM] at h2
    split at h2
    · rename_i hq
      by_cases hi : i = q
      · rw [hi]; exact hq
      · exact ih (q + 1) i (by omega) h2
    · omega
theorem xMid_on {ca : Nat → Int} {a b : Nat} (hab : a < b) (hm : ca b ≤ ca (b + 1)) : xMidF ca a (b + 1) (xMidF ca a b a) = xMidF ca a (b + 1) a := by
  have hr := xM_r ca a b (xHalf ca a b) (b - 1 - a) a
  unfold xMidF at *
  symm
  refine xM_skip hr.1 (by omega) (fun i h1 h2 => ?_)
  have := xM_all (b - 1 - a) a i h1 h2
  unfold xHalf at *
  omega
/-- least errors by groups and place, of u unlike tones -/
def xDL (E : Nat → Nat → Int) (u : Nat) : Nat → Nat → Int
  | 0, f => if f = u then 0 else 1000000
  | k + 1, f => (xFo (E f) (xDL E u k) f 0 (u - f)).1
/-- the rows behind all places from m on -/
def xLs (E : Nat → Nat → Int) (u : Nat) (lF : Nat → Int) (m : Nat) : Nat → Int := fun j => if j < 266 ∧ m ≤ j % 38 ∧ j % 38 ≤ u then xDL E u (j / 38) (j % 38) else lF j
def xNs (E : Nat → Nat → Int) (u : Nat) (nF : Nat → Int) (m : Nat) : Nat → Int := fun j => if j < 266 ∧ m ≤ j % 38 ∧ j % 38 < u ∧ 0 < j / 38 then (xFo (E (j % 38)) (xDL E u (j / 38 - 1)) (j % 38) (nF j) (u - j % 38)).2 else nF j
def xUl (u : Nat) (lF : Nat → Int) (k : Nat) : Nat → Int := fun j => if j < 266 ∧ j % 38 = u ∧ j / 38 < k then (if j / 38 = 0 then 0 else 1000000) else lF j
theorem xFo_c {E D D2 : Nat → Int} {a : Nat} {nx : Int} {n : Nat} (h : ∀ b : Nat, a < b → b ≤ a + n → D b = D2 b) : xFo E D a nx n = xFo E D2 a nx n := by
  induction n with
  | zero => rfl
  | succ n ih =>
    simp only [xFo]
    rw [ih (fun b h1 h2 => h b h1 (by omega)), h (a + 1 + n) (by omega) (by omega)]
theorem xFo_p {E D : Nat → Int} {a : Nat} {nx : Int} {n : Nat} (h : ∀ b : Nat, a < b → b ≤ a + n → 0 ≤ E b + D b) : 0 ≤ (xFo E D a nx n).1 ∧ (xFo E D a nx n).1 ≤ 1000000 := by
  induction n with
  | zero => simp [xFo]
  | succ n ih =>
    have h1 := ih (fun b h1 h2 => h b h1 (by omega))
    have h2 := h (a + 1 + n) (by omega) (by omega)
    simp only [xFo]
    split
    · exact h1
    · simp only; omega
theorem xDL_r {E : Nat → Nat → Int} {u : Nat} (hE : ∀ a b : Nat, a < b → b ≤ u → 0 ≤ E a b) (k : Nat) : ∀ f : Nat, f ≤ u → 0 ≤ xDL E u k f ∧ xDL E u k f ≤ 1000000 := by
  induction k with
  | zero => intro f _; simp only [xDL]; split <;> omega
  | succ k ih =>
    intro f hf
    simp only [xDL]
    exact xFo_p (fun b h1 h2 => by have h3 := hE f b h1 (by omega); have h4 := (ih b (by omega)).1; omega)
theorem xUl_0 (u : Nat) (lF : Nat → Int) : xUl u lF 0 = lF := by funext j; unfold xUl; rw [if_neg (by omega)]
theorem xUl_s (u : Nat) (lF : Nat → Int) (k : Nat) (hu : u < 38) (hk : k < 7) : uI (xUl u lF k) (38 * k + u) (if k = 0 then 0 else 1000000) = xUl u lF (k + 1) := by
  funext j
  unfold uI xUl
  by_cases h : j = 38 * k + u
  · rw [if_pos h, if_pos (show j < 266 ∧ j % 38 = u ∧ j / 38 < k + 1 by omega), show j / 38 = k by omega]
  · rw [if_neg h]
    by_cases h2 : j < 266 ∧ j % 38 = u ∧ j / 38 < k
    · rw [if_pos h2, if_pos (show j < 266 ∧ j % 38 = u ∧ j / 38 < k + 1 by omega)]
    · rw [if_neg h2, if_neg (show ¬ (j < 266 ∧ j % 38 = u ∧ j / 38 < k + 1) by omega)]
theorem xLs_u (E : Nat → Nat → Int) (u : Nat) (lF : Nat → Int) : xUl u lF 7 = xLs E u lF u := by
  funext j
  unfold xUl xLs
  by_cases h : j < 266 ∧ j % 38 = u
  · rw [if_pos (show j < 266 ∧ j % 38 = u ∧ j / 38 < 7 by omega), if_pos (show j < 266 ∧ u ≤ j % 38 ∧ j % 38 ≤ u by omega), h.2]
    cases hk : j / 38 with
    | zero => simp [xDL]
    | succ k => simp [xDL, xFo]
  · rw [if_neg (show ¬ (j < 266 ∧ j % 38 = u ∧ j / 38 < 7) by omega), if_neg (show ¬ (j < 266 ∧ u ≤ j % 38 ∧ j % 38 ≤ u) by omega)]
theorem xNs_u (E : Nat → Nat → Int) (u : Nat) (nF : Nat → Int) : nF = xNs E u nF u := by
  funext j
  unfold xNs
  rw [if_neg (by omega)]
theorem xLs_at {E : Nat → Nat → Int} {u m : Nat} {lF : Nat → Int} {k b : Nat} (hk : k < 7) (hb : m ≤ b ∧ b ≤ u) (hu : u < 38) : xLs E u lF m (38 * k + b) = xDL E u k b := by
  unfold xLs
  rw [if_pos (by omega), show (38 * k + b) / 38 = k by omega, show (38 * k + b) % 38 = b by omega]
theorem xLs_s {E : Nat → Nat → Int} {u m : Nat} {lF : Nat → Int} (hm : m < u) (hu : u < 38) : xLe (E m) (fun k b => xLs E u lF (m + 1) (38 * k + b)) (xLs E u lF (m + 1)) m (u - m) 1 = xLs E u lF m := by
  funext j
  unfold xLe
  by_cases h : j < 266 ∧ j % 38 = m
  · rw [if_pos h]
    have hs : xLs E u lF m j = xDL E u (j / 38) (j % 38) := by unfold xLs; rw [if_pos (by omega)]
    rw [hs, h.2]
    cases hk : j / 38 with
    | zero => rw [if_pos rfl]; simp only [xDL]; rw [if_neg (by omega)]
    | succ k =>
      rw [if_neg (by omega), if_neg (by omega)]
      simp only [xDL, Nat.add_sub_cancel]
      rw [xFo_c (D2 := xDL E u k) (fun b h1 h2 => xLs_at (by omega) (by omega) hu)]
  · rw [if_neg h]
    unfold xLs
    by_cases h2 : j < 266 ∧ m + 1 ≤ j % 38 ∧ j % 38 ≤ u
    · rw [if_pos h2, if_pos (by omega)]
    · rw [if_neg h2, if_neg (by omega)]
theorem xNs_s {E : Nat → Nat → Int} {u m : Nat} {lF nF : Nat → Int} (hm : m < u) (hu : u < 38) : xNe (E m) (fun k b => xLs E u lF (m + 1) (38 * k + b)) (xNs E u nF (m + 1)) m (u - m) 1 = xNs E u nF m := by
  funext j
  unfold xNe
  by_cases h : j < 266 ∧ j % 38 = m ∧ 0 < j / 38
  · rw [if_pos h, if_neg (by omega)]
    have h1 : xNs E u nF (m + 1) j = nF j := by unfold xNs; rw [if_neg (by omega)]
    have h2 : xNs E u nF m j = (xFo (E (j % 38)) (xDL E u (j / 38 - 1)) (j % 38) (nF j) (u - j % 38)).2 := by unfold xNs; rw [if_pos (by omega)]
    rw [h1, h2, h.2.1, xFo_c (D2 := xDL E u (j / 38 - 1)) (fun b h1 h2 => xLs_at (by omega) (by omega) hu)]
  · rw [if_neg h]
    unfold xNs
    by_cases h2 : j < 266 ∧ m + 1 ≤ j % 38 ∧ j % 38 < u ∧ 0 < j / 38
    · rw [if_pos h2, if_pos (by omega)]
    · rw [if_neg h2, if_neg (by omega)]
/-- where the groups begin -/
def xAt (nF : Nat → Int) (n : Int) : Nat → Int
  | 0 => 0
  | g + 1 => nF ((n - (Nat.cast g : Int)) * 38 + xAt nF n g).toNat
theorem xAt_r {nF : Nat → Int} (h : ∀ j : Nat, 0 ≤ nF j ∧ nF j ≤ 37) (n : Int) (g : Nat) : 0 ≤ xAt nF n g ∧ xAt nF n g ≤ 37 := by
  cases g with
  | zero => simp [xAt]
  | succ g => exact h _
def xGo (tn bg : Nat → Int) (t : Int) : Nat → Int
  | 0 => 0
  | n + 1 => if t < tn (bg n).toNat then xGo tn bg t n else (Nat.cast n : Int)
theorem xNe_r {E : Nat → Int} {D : Nat → Nat → Int} {nF : Nat → Int} {a n k : Nat} (h : ∀ j : Nat, 0 ≤ nF j ∧ nF j ≤ 37) (ha : a + n + 1 ≤ 37 ∨ (k ≤ 1 ∧ a + n ≤ 37)) : ∀ j : Nat, 0 ≤ xNe E D nF a n k j ∧ xNe E D nF a n k j ≤ 37 := by
  intro j
  unfold xNe
  split
  · refine xFo_nx (h j) ?_
    split <;> omega
  · exact h j
theorem xNs_r {E : Nat → Nat → Int} {u m : Nat} {nF : Nat → Int} (h : ∀ j : Nat, 0 ≤ nF j ∧ nF j ≤ 37) (hu : u ≤ 37) : ∀ j : Nat, 0 ≤ xNs E u nF m j ∧ xNs E u nF m j ≤ 37 := by
  intro j
  unfold xNs
  split
  · exact xFo_nx (h j) (by omega)
  · exact h j
theorem idx38 (k a : Nat) : ((Nat.cast k : Int) * 38 + (Nat.cast a : Int)).toNat = 38 * k + a := by omega
theorem xGrp_r (n u : Int) : 0 ≤ xGrp n u ∧ xGrp n u ≤ 6 := by unfold xGrp; omega
theorem xMidF_c (ca : Nat → Int) (a b : Nat) (h : a < b) : a ≤ xMidF ca a b a ∧ xMidF ca a b a < b := by
  have := xM_r ca a b (xHalf ca a b) (b - 1 - a) a
  unfold xMidF
  omega
theorem xMidF_b (ca : Nat → Int) (fr to al : Int) (h : 0 ≤ fr ∧ fr ≤ al) (h2 : al < to) : al ≤ (Nat.cast (xMidF ca fr.toNat to.toNat al.toNat) : Int) ∧ (Nat.cast (xMidF ca fr.toNat to.toNat al.toNat) : Int) < to := by
  have := xM_r ca fr.toNat to.toNat (xHalf ca fr.toNat to.toNat) (to.toNat - 1 - al.toNat) al.toNat
  unfold xMidF
  omega
theorem xMid_nx {ca : Nat → Int} {a n : Nat} (hm : ca (a + n) ≤ ca (a + n + 1)) : xMidF ca a (a + 1 + n) (if n = 0 then a else xMidF ca a (a + n) a) = xMidF ca a (a + 1 + n) a := by
  by_cases h : n = 0
  · rw [if_pos h]
  · rw [if_neg h, show a + 1 + n = (a + n) + 1 by omega]
    exact xMid_on (by omega) hm
theorem xMid_b (ca : Nat → Int) (a n : Nat) : a ≤ (if n = 0 then a else xMidF ca a (a + n) a) ∧ (if n = 0 then a else xMidF ca a (a + n) a) ≤ a + n ∧ (0 < n → (if n = 0 then a else xMidF ca a (a + n) a) < a + n) := by
  by_cases h : n = 0
  · rw [if_pos h]; omega
  · rw [if_neg h]
    have := xMidF_c ca a (a + n) (by omega)
    omega
/-- what the row of tones keeps -/
def xGood (T : xT) : Prop := 0 ≤ T.1 ∧ T.1 ≤ 37 ∧ (∀ k : Nat, (Nat.cast k : Int) ≤ T.1 → 0 ≤ T.2.2.1 k ∧ T.2.2.1 k ≤ 81) ∧ (∀ i j : Nat, i ≤ j → (Nat.cast j : Int) ≤ T.1 → T.2.2.1 i ≤ T.2.2.1 j) ∧ ∀ a b : Nat, a < b → (Nat.cast b : Int) ≤ T.1 → 0 ≤ xE T.2.1 T.2.2.1 T.2.2.2 a b ∧ xE T.2.1 T.2.2.1 T.2.2.2 a b ≤ 100000
