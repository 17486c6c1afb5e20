/-! the reference's shades -/
noncomputable abbrev mTone (nw : Nat → Int) (x y : Int) : Int := gTone (nw 0) (nw 1) (nG nw) x y (nQ nw (gQ (nw 0) (nw 1) x y).toNat)
abbrev mTp (nw : Nat → Int) (n c : Nat) : Prop := mTone nw ((Nat.cast c : Int) % 9) ((Nat.cast c : Int) / 9) + 18 = (Nat.cast n : Int)
theorem mTp_i {nw : Nat → Int} {n c : Nat} (h : mTone nw ((Nat.cast c : Int) % 9) ((Nat.cast c : Int) / 9) = (Nat.cast n : Int) - 18) : mTp nw n c := by show _ + 18 = _; omega
theorem mTp_e {nw : Nat → Int} {n c : Nat} (h : mTp nw n c) : mTone nw ((Nat.cast c : Int) % 9) ((Nat.cast c : Int) / 9) = (Nat.cast n : Int) - 18 := by
  have h2 : mTone nw ((Nat.cast c : Int) % 9) ((Nat.cast c : Int) / 9) + 18 = (Nat.cast n : Int) := h
  omega
/-- how often a tone (18 more) stands among the cells -/
noncomputable def mTal (nw : Nat → Int) (n : Nat) : Int := sumN (fun c => bP (gIn (nw 0) (nw 1) (Nat.cast c : Int) ∧ mTp nw n c)) 81
theorem mTal_r (nw : Nat → Int) (n : Nat) : 0 ≤ mTal nw n ∧ mTal nw n ≤ 81 := by
  have := sumN_r (P := fun c => gIn (nw 0) (nw 1) (Nat.cast c : Int) ∧ mTp nw n c) 81
  unfold mTal; omega
abbrev mT3 : Type := Int × (Nat → Int) × (Nat → Int)
def mGs (tF : Nat → Int) (n : Nat) (S : mT3) : mT3 := if tF n ≤ 0 then S else (S.1 + 1, uI S.2.1 S.1.toNat ((Nat.cast n : Int) - 18), uI S.2.2 S.1.toNat (tF n))
def mGa (tF : Nat → Int) (S0 : mT3) : Nat → mT3
  | 0 => S0
  | n + 1 => mGs tF n (mGa tF S0 n)
theorem mGa_t {tF : Nat → Int} {S0 : mT3} {n : Nat} (h : tF n ≤ 0) : mGa tF S0 (n + 1) = mGa tF S0 n := by simp only [mGa]; unfold mGs; rw [if_pos h]
theorem mGa_f {tF : Nat → Int} {S0 : mT3} {n : Nat} (h : ¬ tF n ≤ 0) : mGa tF S0 (n + 1) = ((mGa tF S0 n).1 + 1, uI (mGa tF S0 n).2.1 (mGa tF S0 n).1.toNat ((Nat.cast n : Int) - 18), uI (mGa tF S0 n).2.2 (mGa tF S0 n).1.toNat (tF n)) := by simp only [mGa]; unfold mGs; rw [if_neg h]
theorem mGa_u {tF : Nat → Int} {S0 : mT3} (h0 : S0.1 = 0) (n : Nat) : 0 ≤ (mGa tF S0 n).1 ∧ (mGa tF S0 n).1 ≤ n := by
  induction n with
  | zero => simp only [mGa]; omega
  | succ n ih =>
    simp only [mGa]
    unfold mGs
    split
    · omega
    · simp only; omega
/-- tones and how often each, as they stand in a row: how many there are, each once or more, 81 in all; the tones rise -/
def oOK (tm : Int) (tn of : Nat → Int) : Prop := (0 ≤ tm ∧ tm ≤ 37) ∧ (∀ k : Nat, (Nat.cast k : Int) < tm → 1 ≤ of k ∧ of k ≤ 81) ∧ (∀ k : Nat, (Nat.cast k : Int) ≤ tm → 0 ≤ sumN of k ∧ sumN of k ≤ 81) ∧ (∀ k : Nat, (Nat.cast k : Int) < tm → -18 ≤ tn k ∧ tn k ≤ 18) ∧ ∀ i j : Nat, i < j → (Nat.cast j : Int) < tm → tn i < tn j
theorem sumN_mono {tm : Int} {of : Nat → Int} (h : ∀ k : Nat, (Nat.cast k : Int) < tm → 1 ≤ of k ∧ of k ≤ 81) {i : Nat} (d : Nat) (hd : (Nat.cast (i + d) : Int) ≤ tm) : sumN of i + (Nat.cast d : Int) ≤ sumN of (i + d) := by
  induction d with
  | zero => simp
  | succ d ih =>
    have h1 := ih (by omega)
    have h2 := h (i + d) (by omega)
    rw [show i + (d + 1) = (i + d) + 1 by omega]
    simp only [sumN]
    omega
theorem sumN_lt {tm : Int} {of : Nat → Int} (h : ∀ k : Nat, (Nat.cast k : Int) < tm → 1 ≤ of k ∧ of k ≤ 81) {i j : Nat} (hij : i ≤ j) (hj : (Nat.cast j : Int) ≤ tm) : sumN of i + ((Nat.cast j : Int) - (Nat.cast i : Int)) ≤ sumN of j := by
  have := sumN_mono (tm := tm) (of := of) h (i := i) (j - i) (by omega)
  rw [show i + (j - i) = j by omega] at this
  omega
theorem xM_2 {ca : Nat → Int} {a b : Nat} {hf : Int} {q : Nat} (hq : q < b - 1) (h : ca (q + 1) - ca a < hf) : xM ca a b hf (b - 1 - q) q = xM ca a b hf (b - 1 - (q + 1)) (q + 1) := by
  rw [xM_s hq, if_pos h]
theorem xM_3 {ca : Nat → Int} {a b : Nat} {hf : Int} {q : Nat} (hq : q ≤ b - 1) (h : q < b - 1 → ¬ ca (q + 1) - ca a < hf) : xM ca a b hf (b - 1 - q) q = q := by
  by_cases h2 : q < b - 1
  · rw [xM_s h2, if_neg (h h2)]
  · rw [show b - 1 - q = 0 by omega]; rfl
/-- errors from a mark, n tones from a on -/
def mErr (tn of : Nat → Int) (mk : Int) (a : Nat) : Nat → Int
  | 0 => 0
  | n + 1 => mErr tn of mk a n + of (a + n) * zabs (tn (a + n) - mk)
abbrev mTs (tn of : Nat → Int) : Nat → Int := fun k => of k * tn k
theorem mErr_lo {tn of : Nat → Int} {mk : Int} {a : Nat} (n : Nat) (h : ∀ k : Nat, a ≤ k → k < a + n → tn k ≤ mk) : mErr tn of mk a n = mk * (sumN of (a + n) - sumN of a) - (sumN (mTs tn of) (a + n) - sumN (mTs tn of) a) := by
  induction n with
  | zero => simp [mErr]
  | succ n ih =>
    have h1 := ih (fun k q1 q2 => h k q1 (by omega))
    have h2 := h (a + n) (by omega) (by omega)
    simp only [mErr]
    rw [h1, show a + (n + 1) = (a + n) + 1 by omega]
    simp only [sumN]
    have e : of (a + n) * zabs (tn (a + n) - mk) = mk * of (a + n) - of (a + n) * tn (a + n) := by
      unfold zabs
      by_cases q : 0 ≤ tn (a + n) - mk
      · have q2 : tn (a + n) = mk := by omega
        rw [if_pos q, q2, Int.sub_self, Int.mul_zero, Int.mul_comm mk]; omega
      · rw [if_neg q, Int.neg_sub, Int.mul_sub, Int.mul_comm mk]
    have e2 : mTs tn of (a + n) = of (a + n) * tn (a + n) := rfl
    rw [e, e2, Int.mul_sub, Int.mul_sub, Int.mul_add]
    omega
theorem mErr_hi {tn of : Nat → Int} {mk : Int} {a m : Nat} (n : Nat) (h : ∀ k : Nat, a + m ≤ k → k < a + m + n → mk ≤ tn k) : mErr tn of mk a (m + n) = mErr tn of mk a m + (sumN (mTs tn of) (a + m + n) - sumN (mTs tn of) (a + m) - mk * (sumN of (a + m + n) - sumN of (a + m))) := by
  induction n with
  | zero => simp
  | succ n ih =>
    have h1 := ih (fun k q1 q2 => h k q1 (by omega))
    have h2 := h (a + m + n) (by omega) (by omega)
    rw [show m + (n + 1) = (m + n) + 1 by omega]
    simp only [mErr]
    rw [h1, show a + m + (n + 1) = (a + m + n) + 1 by omega, show a + (m + n) = a + m + n by omega]
    simp only [sumN]
    have e : of (a + m + n) * zabs (tn (a + m + n) - mk) = of (a + m + n) * tn (a + m + n) - mk * of (a + m + n) := by
      unfold zabs
      rw [if_pos (by omega), Int.mul_sub, Int.mul_comm mk]
    have e2 : mTs tn of (a + m + n) = of (a + m + n) * tn (a + m + n) := rfl
    rw [e, e2, Int.mul_sub, Int.mul_sub, Int.mul_add]
    omega
theorem mErr_x {tm : Int} {tn of : Nat → Int} (h : oOK tm tn of) {a b : Nat} (hab : a < b) (hb : (Nat.cast b : Int) ≤ tm) : mErr tn of (tn (xMidF (sumN of) a b a)) a (b - a) = xE tn (sumN of) (sumN (mTs tn of)) a b := by
  obtain ⟨-, -, -, -, hs⟩ := h
  have hm := xMidF_c (sumN of) a b hab
  unfold xE xErr
  generalize xMidF (sumN of) a b a = m at hm ⊢
  have e1 := mErr_lo (tn := tn) (of := of) (mk := tn m) (a := a) (m - a) (fun k q1 q2 => by
    have := hs k m (by omega) (by omega); omega)
  have e2 := mErr_hi (tn := tn) (of := of) (mk := tn m) (a := a) (m := m - a) (b - m) (fun k q1 q2 => by
    by_cases q : m = k
    · rw [q]; omega
    · have := hs m k (by omega) (by omega); omega)
  rw [show m - a + (b - m) = b - a by omega, e1, show a + (m - a) + (b - m) = b by omega, show a + (m - a) = m by omega] at e2
  rw [e2]
theorem mErr_p {tm : Int} {tn of : Nat → Int} {mk : Int} {a : Nat} (h : ∀ k : Nat, (Nat.cast k : Int) < tm → 1 ≤ of k ∧ of k ≤ 81) (ht : ∀ k : Nat, (Nat.cast k : Int) < tm → -18 ≤ tn k ∧ tn k ≤ 18) (hm : -18 ≤ mk ∧ mk ≤ 18) (n : Nat) (hn : (Nat.cast (a + n) : Int) ≤ tm) : 0 ≤ mErr tn of mk a n ∧ mErr tn of mk a n ≤ 36 * (sumN of (a + n) - sumN of a) := by
  induction n with
  | zero => simp [mErr]
  | succ n ih =>
    have h1 := ih (by omega)
    have h2 := h (a + n) (by omega)
    have h3 := ht (a + n) (by omega)
    have h4 := zabs_r (tn (a + n) - mk)
    have h5 : 0 ≤ of (a + n) * zabs (tn (a + n) - mk) := Int.mul_nonneg (by omega) h4.1
    have h6 : of (a + n) * zabs (tn (a + n) - mk) ≤ of (a + n) * 36 := Int.mul_le_mul_of_nonneg_left (by omega) (by omega)
    simp only [mErr]
    rw [show a + (n + 1) = (a + n) + 1 by omega]
    simp only [sumN]
    omega
/-- a group's error is a number, and not too great -/
theorem oOK_E {tm : Int} {tn of : Nat → Int} (h : oOK tm tn of) (a b : Nat) (hab : a < b) (hb : (Nat.cast b : Int) ≤ tm) : 0 ≤ xE tn (sumN of) (sumN (mTs tn of)) a b ∧ xE tn (sumN of) (sumN (mTs tn of)) a b ≤ 100000 := by
  rw [← mErr_x h hab hb]
  obtain ⟨-, h1, h2, h3, -⟩ := h
  have hm := xMidF_c (sumN of) a b hab
  have := mErr_p (a := a) h1 h3 (h3 (xMidF (sumN of) a b a) (by omega)) (b - a) (by omega)
  have q1 := h2 b hb
  have q2 := h2 a (by omega)
  rw [show a + (b - a) = b by omega] at this
  omega
/-! the reference's table of errors: 41 to a row; rows ahead of g are whole, of row g the places from m on -/
def mLs (E : Nat → Nat → Int) (u : Nat) (lF : Nat → Int) (g m : Nat) : Nat → Int := fun j => if j < 287 ∧ j % 41 ≤ u ∧ (j / 41 < g ∨ (j / 41 = g ∧ m ≤ j % 41)) then xDL E u (j / 41) (j % 41) else lF j
def mNs (E : Nat → Nat → Int) (u : Nat) (nF : Nat → Int) (g m : Nat) : Nat → Int := fun j => if j < 287 ∧ j % 41 < u ∧ 0 < j / 41 ∧ (j / 41 < g ∨ (j / 41 = g ∧ m ≤ j % 41)) then (xFo (E (j % 41)) (xDL E u (j / 41 - 1)) (j % 41) (nF j) (u - j % 41)).2 else nF j
def mL0 (u : Nat) (lF : Nat → Int) (n : Nat) : Nat → Int := fun j => if j < n then (if j = u then 0 else 1000000) else lF j
theorem mL0_0 (u : Nat) (lF : Nat → Int) : mL0 u lF 0 = lF := by funext j; unfold mL0; rw [if_neg (by omega)]
theorem mL0_s (u : Nat) (lF : Nat → Int) (n : Nat) : uI (mL0 u lF n) n (if n = u then 0 else 1000000) = mL0 u lF (n + 1) := by
  funext j
  unfold uI mL0
  by_cases h : j = n
  · subst h; rw [if_pos rfl, if_pos (show j < j + 1 by omega)]
  · rw [if_neg h]
    by_cases h2 : j < n
    · rw [if_pos h2, if_pos (show j < n + 1 by omega)]
    · rw [if_neg h2, if_neg (show ¬ j < n + 1 by omega)]
theorem mL0_e (E : Nat → Nat → Int) {u : Nat} (lF : Nat → Int) (hu : u ≤ 40) : mL0 u lF (u + 1) = mLs E u lF 1 (u + 1) := by
  funext j
  unfold mL0 mLs
  by_cases h : j < u + 1
  · rw [if_pos h, if_pos (show j < 287 ∧ j % 41 ≤ u ∧ (j / 41 < 1 ∨ (j / 41 = 1 ∧ u + 1 ≤ j % 41)) by omega), show j / 41 = 0 by omega, show j % 41 = j by omega]
    rfl
  · rw [if_neg h, if_neg (show ¬ (j < 287 ∧ j % 41 ≤ u ∧ (j / 41 < 1 ∨ (j / 41 = 1 ∧ u + 1 ≤ j % 41))) by omega)]
theorem mNs_0 (E : Nat → Nat → Int) (u : Nat) (nF : Nat → Int) : nF = mNs E u nF 1 (u + 1) := by
  funext j
  unfold mNs
  rw [if_neg (by omega)]
theorem mLs_at {E : Nat → Nat → Int} {u : Nat} {lF : Nat → Int} {g m k b : Nat} (hk : k < g) (hg : g ≤ 7) (hb : b ≤ u) (hu : u ≤ 40) : mLs E u lF g m (41 * k + b) = xDL E u k b := by
  unfold mLs
  rw [if_pos (show 41 * k + b < 287 ∧ (41 * k + b) % 41 ≤ u ∧ ((41 * k + b) / 41 < g ∨ ((41 * k + b) / 41 = g ∧ m ≤ (41 * k + b) % 41)) by omega), show (41 * k + b) / 41 = k by omega, show (41 * k + b) % 41 = b by omega]
theorem mLs_u {E : Nat → Nat → Int} {u : Nat} {lF : Nat → Int} {g : Nat} (hg : 0 < g ∧ g ≤ 6) (hu : u ≤ 40) : uI (mLs E u lF g (u + 1)) (41 * g + u) 1000000 = mLs E u lF g u := by
  funext j
  unfold uI
  by_cases h : j = 41 * g + u
  · rw [if_pos h]
    unfold mLs
    rw [if_pos (show j < 287 ∧ j % 41 ≤ u ∧ (j / 41 < g ∨ (j / 41 = g ∧ u ≤ j % 41)) by omega), show j / 41 = g by omega, show j % 41 = u by omega]
    obtain ⟨k, rfl⟩ : ∃ k, g = k + 1 := ⟨g - 1, by omega⟩
    simp [xDL, xFo]
  · rw [if_neg h]
    unfold mLs
    by_cases h2 : j < 287 ∧ j % 41 ≤ u ∧ (j / 41 < g ∨ (j / 41 = g ∧ u + 1 ≤ j % 41))
    · rw [if_pos h2, if_pos (show j < 287 ∧ j % 41 ≤ u ∧ (j / 41 < g ∨ (j / 41 = g ∧ u ≤ j % 41)) by omega)]
    · rw [if_neg h2, if_neg (show ¬ (j < 287 ∧ j % 41 ≤ u ∧ (j / 41 < g ∨ (j / 41 = g ∧ u ≤ j % 41))) by omega)]
theorem mNs_u {E : Nat → Nat → Int} {u : Nat} {nF : Nat → Int} {g : Nat} : mNs E u nF g (u + 1) = mNs E u nF g u := by
  funext j
  unfold mNs
  by_cases h2 : j < 287 ∧ j % 41 < u ∧ 0 < j / 41 ∧ (j / 41 < g ∨ (j / 41 = g ∧ u + 1 ≤ j % 41))
  · rw [if_pos h2, if_pos (show j < 287 ∧ j % 41 < u ∧ 0 < j / 41 ∧ (j / 41 < g ∨ (j / 41 = g ∧ u ≤ j % 41)) by omega)]
  · rw [if_neg h2, if_neg (show ¬ (j < 287 ∧ j % 41 < u ∧ 0 < j / 41 ∧ (j / 41 < g ∨ (j / 41 = g ∧ u ≤ j % 41))) by omega)]
theorem mLs_g {E : Nat → Nat → Int} {u : Nat} {lF : Nat → Int} {g : Nat} : mLs E u lF g 0 = mLs E u lF (g + 1) (u + 1) := by
  funext j
  unfold mLs
  by_cases h2 : j < 287 ∧ j % 41 ≤ u ∧ (j / 41 < g ∨ (j / 41 = g ∧ 0 ≤ j % 41))
  · rw [if_pos h2, if_pos (show j < 287 ∧ j % 41 ≤ u ∧ (j / 41 < g + 1 ∨ (j / 41 = g + 1 ∧ u + 1 ≤ j % 41)) by omega)]
  · rw [if_neg h2, if_neg (show ¬ (j < 287 ∧ j % 41 ≤ u ∧ (j / 41 < g + 1 ∨ (j / 41 = g + 1 ∧ u + 1 ≤ j % 41))) by omega)]
theorem mNs_g {E : Nat → Nat → Int} {u : Nat} {nF : Nat → Int} {g : Nat} : mNs E u nF g 0 = mNs E u nF (g + 1) (u + 1) := by
  funext j
  unfold mNs
  by_cases h2 : j < 287 ∧ j % 41 < u ∧ 0 < j / 41 ∧ (j / 41 < g ∨ (j / 41 = g ∧ 0 ≤ j % 41))
  · rw [if_pos h2, if_pos (show j < 287 ∧ j % 41 < u ∧ 0 < j / 41 ∧ (j / 41 < g + 1 ∨ (j / 41 = g + 1 ∧ u + 1 ≤ j % 41)) by omega)]
  · rw [if_neg h2, if_neg (show ¬ (j < 287 ∧ j % 41 < u ∧ 0 < j / 41 ∧ (j / 41 < g + 1 ∨ (j / 41 = g + 1 ∧ u + 1 ≤ j % 41))) by omega)]
/-- while the ends from m on are tried at the place m - 1 of row g: n of them -/
abbrev mFo (E : Nat → Nat → Int) (u g f : Nat) (nx : Int) (n : Nat) : Int × Int := xFo (E f) (xDL E u (g - 1)) f nx n
theorem mLs_f {E : Nat → Nat → Int} {u : Nat} {lF : Nat → Int} {g f : Nat} (hg : 0 < g ∧ g ≤ 6) (hf : f < u) (hu : u ≤ 40) : uI (mLs E u lF g (f + 1)) (41 * g + f) (mFo E u g f 0 (u - f)).1 = mLs E u lF g f := by
  funext j
  unfold uI
  by_cases h : j = 41 * g + f
  · rw [if_pos h]
    unfold mLs
    rw [if_pos (show j < 287 ∧ j % 41 ≤ u ∧ (j / 41 < g ∨ (j / 41 = g ∧ f ≤ j % 41)) by omega), show j / 41 = g by omega, show j % 41 = f by omega]
    obtain ⟨k, rfl⟩ : ∃ k, g = k + 1 := ⟨g - 1, by omega⟩
    rfl
  · rw [if_neg h]
    unfold mLs
    by_cases h2 : j < 287 ∧ j % 41 ≤ u ∧ (j / 41 < g ∨ (j / 41 = g ∧ f + 1 ≤ j % 41))
    · rw [if_pos h2, if_pos (show j < 287 ∧ j % 41 ≤ u ∧ (j / 41 < g ∨ (j / 41 = g ∧ f ≤ j % 41)) by omega)]
    · rw [if_neg h2, if_neg (show ¬ (j < 287 ∧ j % 41 ≤ u ∧ (j / 41 < g ∨ (j / 41 = g ∧ f ≤ j % 41))) by omega)]
theorem mNs_f {E : Nat → Nat → Int} {u : Nat} {nF : Nat → Int} {g f : Nat} (hg : 0 < g ∧ g ≤ 6) (hf : f < u) (hu : u ≤ 40) : uI (mNs E u nF g (f + 1)) (41 * g + f) (mFo E u g f (nF (41 * g + f)) (u - f)).2 = mNs E u nF g f := by
  funext j
  unfold uI
  by_cases h : j = 41 * g + f
  · rw [if_pos h]
    unfold mNs
    rw [if_pos (show j < 287 ∧ j % 41 < u ∧ 0 < j / 41 ∧ (j / 41 < g ∨ (j / 41 = g ∧ f ≤ j % 41)) by omega), show j / 41 = g by omega, show j % 41 = f by omega, h]
  · rw [if_neg h]
    unfold mNs
    by_cases h2 : j < 287 ∧ j % 41 < u ∧ 0 < j / 41 ∧ (j / 41 < g ∨ (j / 41 = g ∧ f + 1 ≤ j % 41))
    · rw [if_pos h2, if_pos (show j < 287 ∧ j % 41 < u ∧ 0 < j / 41 ∧ (j / 41 < g ∨ (j / 41 = g ∧ f ≤ j % 41)) by omega)]
    · rw [if_neg h2, if_neg (show ¬ (j < 287 ∧ j % 41 < u ∧ 0 < j / 41 ∧ (j / 41 < g ∨ (j / 41 = g ∧ f ≤ j % 41))) by omega)]
theorem mNs_n {E : Nat → Nat → Int} {u : Nat} {nF : Nat → Int} {g f : Nat} (hf : f ≤ 40) : mNs E u nF g (f + 1) (41 * g + f) = nF (41 * g + f) := by
  unfold mNs
  rw [if_neg (by omega)]
theorem uI_uI (f : Nat → Int) (i : Nat) (a b : Int) : uI (uI f i a) i b = uI f i b := by
  funext k
  unfold uI
  by_cases h : k = i
  · rw [if_pos h, if_pos h]
  · rw [if_neg h, if_neg h, if_neg h]
theorem uI_own (f : Nat → Int) (i : Nat) : uI f i (f i) = f := by
  funext k
  unfold uI
  by_cases h : k = i
  · rw [if_pos h, h]
  · rw [if_neg h]
/-- what the reference adds: nothing to a row that never comes -/
def mSu (r e : Int) : Int := if r < 1000000 then r + e else 1000000
theorem mSu_lt {r e cur : Int} (hc : cur ≤ 1000000) (he : 0 ≤ e) : mSu r e < cur ↔ ¬ cur ≤ e + r := by
  unfold mSu
  split <;> omega
theorem mSu_r {r e : Int} (hr : 0 ≤ r ∧ r ≤ 1000000) (he : 0 ≤ e ∧ e ≤ 100000) : 0 ≤ mSu r e ∧ mSu r e ≤ 1100000 := by
  unfold mSu
  split <;> omega
theorem mFo_r {E : Nat → Nat → Int} {u g f : Nat} {nx : Int} (hE : ∀ a b : Nat, a < b → b ≤ u → 0 ≤ E a b) {n : Nat} (hn : f + n ≤ u) : 0 ≤ (mFo E u g f nx n).1 ∧ (mFo E u g f nx n).1 ≤ 1000000 :=
  xFo_p (fun b h1 h2 => by have h3 := hE f b h1 (by omega); have h4 := (xDL_r hE (g - 1) b (by omega)).1; omega)
theorem mFo_t1 {E : Nat → Nat → Int} {u g f n b : Nat} (hb : b = f + 1 + n) (h0 : 0 ≤ E f b) (hc : (mFo E u g f 0 n).1 ≤ 1000000) (h : ¬ (mFo E u g f 0 n).1 ≤ mSu (xDL E u (g - 1) b) (E f b)) : mSu (xDL E u (g - 1) b) (E f b) = (mFo E u g f 0 (n + 1)).1 ∧ ∀ nx : Int, (Nat.cast b : Int) = (mFo E u g f nx (n + 1)).2 := by
  subst hb
  have h1 := (mSu_lt (r := xDL E u (g - 1) (f + 1 + n)) hc h0).mp (by omega)
  have h2 : xDL E u (g - 1) (f + 1 + n) < 1000000 := by unfold mSu at h; split at h <;> omega
  have e : ∀ nx : Int, xFo (E f) (xDL E u (g - 1)) f nx (n + 1) = (E f (f + 1 + n) + xDL E u (g - 1) (f + 1 + n), (Nat.cast (f + 1 + n) : Int)) := fun nx => by
    simp only [xFo]
    rw [if_neg (by rw [xFo_1 (E f) (xDL E u (g - 1)) f nx 0 n]; exact h1)]
  refine ⟨?_, fun nx => ?_⟩
  · show _ = (xFo (E f) (xDL E u (g - 1)) f 0 (n + 1)).1
    rw [e 0]
    unfold mSu
    rw [if_pos h2]
    exact Int.add_comm _ _
  · show _ = (xFo (E f) (xDL E u (g - 1)) f nx (n + 1)).2
    rw [e nx]
theorem mFo_f1 {E : Nat → Nat → Int} {u g f n b : Nat} (hb : b = f + 1 + n) (h0 : 0 ≤ E f b) (hc : (mFo E u g f 0 n).1 ≤ 1000000) (h : (mFo E u g f 0 n).1 ≤ mSu (xDL E u (g - 1) b) (E f b)) (nx : Int) : mFo E u g f nx n = mFo E u g f nx (n + 1) := by
  subst hb
  have h1 := Classical.not_not.mp (fun q => absurd h (by have := (mSu_lt (r := xDL E u (g - 1) (f + 1 + n)) hc h0).mpr q; omega))
  show _ = xFo (E f) (xDL E u (g - 1)) f nx (n + 1)
  simp only [xFo]
  rw [if_pos (by rw [xFo_1 (E f) (xDL E u (g - 1)) f nx 0 n]; exact h1)]
/-- where the groups begin, by the reference's row -/
def mAt (nF : Nat → Int) (n : Int) : Nat → Int
  | 0 => 0
  | g + 1 => nF (41 * (n - (Nat.cast g : Int)) + mAt nF n g).toNat
/-- the first group whose last tone isn't ahead of a tone -/
def mSd (tn at_ : Nat → Int) (t : Int) : Nat → Nat → Int
  | 0, k => (Nat.cast k : Int)
  | f + 1, k => if t ≤ tn (at_ (k + 1) - 1).toNat then (Nat.cast k : Int) else mSd tn at_ t f (k + 1)
theorem mSd_t {tn at_ : Nat → Int} {t : Int} {N k : Nat} (hk : k < N) (h : t ≤ tn (at_ (k + 1) - 1).toNat) : mSd tn at_ t (N - k) k = (Nat.cast k : Int) := by
  rw [fuel_s hk]; simp only [mSd]; rw [if_pos h]
theorem mSd_f {tn at_ : Nat → Int} {t : Int} {N k : Nat} (hk : k < N) (h : ¬ t ≤ tn (at_ (k + 1) - 1).toNat) : mSd tn at_ t (N - k) k = mSd tn at_ t (N - (k + 1)) (k + 1) := by
  rw [fuel_s hk]; simp only [mSd]; rw [if_neg h]
/-! heights at or above a level: the reference's side -/
def mUp (nw : Nat → Int) (v x y : Int) : Prop := hXY (nw 0) (nw 1) x y ∧ v ≤ gAt (nG nw) x y
abbrev mS2 : Type := Int × (Nat → Int)
abbrev hX (t : Nat) : Int := (Nat.cast (t / 4) : Int) % 9 + zR (2 * (t % 4))
abbrev hY (t : Nat) : Int := (Nat.cast (t / 4) : Int) / 9 + zB (2 * (t % 4))
abbrev mRxP (nw : Nat → Int) (v : Int) (t : Nat) (h : Nat → Int) : Prop := ¬ h (t / 4) = -4 ∧ mUp nw v (hX t) (hY t) ∧ h (9 * hY t + hX t).toNat < h (t / 4)
theorem mRx_i {nw : Nat → Int} {v : Int} {t k : Nat} {h : Nat → Int} (ht : t / 4 = k) (h1 : ¬ h k = -4) (h2 : mUp nw v (hX t) (hY t)) (h3 : h (9 * hY t + hX t).toNat < h k) : mRxP nw v t h := by subst ht; exact ⟨h1, h2, h3⟩
theorem mRx_e {nw : Nat → Int} {v : Int} {t k : Nat} {h : Nat → Int} (ht : t / 4 = k) (q : mRxP nw v t h) : ¬ h k = -4 ∧ mUp nw v (hX t) (hY t) ∧ h (9 * hY t + hX t).toNat < h k := by subst ht; exact q
theorem hX_r {t : Nat} : -1 ≤ hX t ∧ hX t ≤ 9 := by
  have := zR_r (2 * (t % 4))
  show -1 ≤ (Nat.cast (t / 4) : Int) % 9 + zR (2 * (t % 4)) ∧ (Nat.cast (t / 4) : Int) % 9 + zR (2 * (t % 4)) ≤ 9
  omega
theorem hY_r {t : Nat} (ht : t < 324) : -1 ≤ hY t ∧ hY t ≤ 9 := by
  have := zB_r (2 * (t % 4))
  show -1 ≤ (Nat.cast (t / 4) : Int) / 9 + zB (2 * (t % 4)) ∧ (Nat.cast (t / 4) : Int) / 9 + zB (2 * (t % 4)) ≤ 9
  omega
theorem hX_is {cq dq : Nat} (hd : dq < 4) : (Nat.cast cq : Int) % 9 + zR (2 * (Nat.cast dq : Int)).toNat = hX (4 * cq + dq) := by
  show _ = (Nat.cast ((4 * cq + dq) / 4) : Int) % 9 + zR (2 * ((4 * cq + dq) % 4))
  rw [show (4 * cq + dq) / 4 = cq by omega, show (4 * cq + dq) % 4 = dq by omega, show (2 * (Nat.cast dq : Int)).toNat = 2 * dq by omega]
theorem hY_is {cq dq : Nat} (hd : dq < 4) : (Nat.cast cq : Int) / 9 + zB (2 * (Nat.cast dq : Int)).toNat = hY (4 * cq + dq) := by
  show _ = (Nat.cast ((4 * cq + dq) / 4) : Int) / 9 + zB (2 * ((4 * cq + dq) % 4))
  rw [show (4 * cq + dq) / 4 = cq by omega, show (4 * cq + dq) % 4 = dq by omega, show (2 * (Nat.cast dq : Int)).toNat = 2 * dq by omega]
/-- one step of a pass: the cell t / 4, its neighbour t % 4 -/
noncomputable def mRx (nw : Nat → Int) (v : Int) (t : Nat) (S : mS2) : mS2 := if bP (mRxP nw v t S.2) = 1 then (1, uI S.2 (t / 4) (S.2 (9 * hY t + hX t).toNat)) else S
noncomputable def mPs (nw : Nat → Int) (v : Int) (S : mS2) : Nat → mS2
  | 0 => S
  | n + 1 => mRx nw v n (mPs nw v S n)
noncomputable def mWl (nw : Nat → Int) (v : Int) : Nat → (Nat → Int) → (Nat → Int)
  | 0, h => h
  | f + 1, h => if (mPs nw v (0, h) 324).1 = 0 then (mPs nw v (0, h) 324).2 else mWl nw v f (mPs nw v (0, h) 324).2
theorem mPs_t {nw : Nat → Int} {v : Int} {S : mS2} {n : Nat} (h : mRxP nw v n (mPs nw v S n).2) : mPs nw v S (n + 1) = (1, uI (mPs nw v S n).2 (n / 4) ((mPs nw v S n).2 (9 * hY n + hX n).toNat)) := by simp only [mPs]; unfold mRx; rw [if_pos (bP_t h)]
theorem mPs_f {nw : Nat → Int} {v : Int} {S : mS2} {n : Nat} (h : ¬ mRxP nw v n (mPs nw v S n).2) : mPs nw v S (n + 1) = mPs nw v S n := by simp only [mPs]; unfold mRx; rw [if_neg (by rw [bP_f h]; omega)]
/-- the labels: -4, or a cell's number -/
def hOK (h : Nat → Int) : Prop := ∀ k : Nat, k < 81 → -4 ≤ h k ∧ h k ≤ 80
theorem mUp_81 {nw : Nat → Int} (hM : mOK nw) {v x y : Int} (h : mUp nw v x y) : 0 ≤ 9 * y + x ∧ 9 * y + x < 81 := by
  have := hM.1.2.1
  have := hM.1.2.2.2.1
  have := h.1
  omega
theorem mPs_ok {nw : Nat → Int} (hM : mOK nw) {v : Int} {S : mS2} (h : hOK S.2) (h1 : 0 ≤ S.1 ∧ S.1 ≤ 1) (n : Nat) : hOK (mPs nw v S n).2 ∧ 0 ≤ (mPs nw v S n).1 ∧ (mPs nw v S n).1 ≤ 1 := by
  induction n with
  | zero => exact ⟨h, h1⟩
  | succ n ih =>
    by_cases q : mRxP nw v n (mPs nw v S n).2
    · rw [mPs_t q]
      refine ⟨fun k hk => ?_, by simp only; omega, by simp only; omega⟩
      simp only
      unfold uI
      split
      · have := mUp_81 hM q.2.1
        exact ih.1 _ (by omega)
      · exact ih.1 k hk
    · rw [mPs_f q]; exact ih
/-- what falls: the labels together -/
def hSm (h : Nat → Int) : Int := sumN (fun k => h k + 4) 81
theorem sumN_uI {f : Nat → Int} {i : Nat} {v : Int} (n : Nat) : sumN (uI f i v) n = sumN f n + (if i < n then v - f i else 0) := by
  induction n with
  | zero => simp [sumN]
  | succ n ih =>
    simp only [sumN]
    rw [ih]
    unfold uI
    by_cases h : n = i
    · subst h
      rw [if_neg (by omega), if_pos rfl, if_pos (by omega)]; omega
    · rw [if_neg h]
      by_cases h2 : i < n
      · rw [if_pos h2, if_pos (by omega)]; omega
      · rw [if_neg h2, if_neg (by omega)]; omega
theorem sumN_c {f g : Nat → Int} {n : Nat} (h : ∀ k : Nat, k < n → f k = g k) : sumN f n = sumN g n := by
  induction n with
  | zero => rfl
  | succ n ih =>
    simp only [sumN]
    rw [ih (fun k hk => h k (by omega)), h n (by omega)]
theorem hSm_u {h : Nat → Int} {i : Nat} {v : Int} (hi : i < 81) : hSm (uI h i v) = hSm h + (v - h i) := by
  unfold hSm
  have e : sumN (fun k => uI h i v k + 4) 81 = sumN (uI (fun k => h k + 4) i (v + 4)) 81 := sumN_c (fun k _ => by
    unfold uI; split <;> rfl)
  rw [e, sumN_uI, if_pos hi]
  omega
theorem hSm_0 {h : Nat → Int} (hk : hOK h) : 0 ≤ hSm h ∧ hSm h ≤ 6804 := by
  have : ∀ n : Nat, n ≤ 81 → 0 ≤ sumN (fun k => h k + 4) n ∧ sumN (fun k => h k + 4) n ≤ 84 * (Nat.cast n : Int) := by
    intro n
    induction n with
    | zero => intro _; simp [sumN]
    | succ n ih =>
      intro hn
      have a := ih (by omega)
      have b := hk n (by omega)
      simp only [sumN]
      omega
  have := this 81 (Nat.le_refl 81)
  unfold hSm
  omega
theorem mPs_sm {nw : Nat → Int} {v : Int} {h : Nat → Int} (n : Nat) (hn : n ≤ 324) : ((mPs nw v (0, h) n).1 = 0 → (mPs nw v (0, h) n).2 = h) ∧ ((mPs nw v (0, h) n).1 = 0 ∨ ((mPs nw v (0, h) n).1 = 1 ∧ hSm (mPs nw v (0, h) n).2 < hSm h)) ∧ hSm (mPs nw v (0, h) n).2 ≤ hSm h := by
  induction n with
  | zero => exact ⟨fun _ => rfl, Or.inl rfl, Int.le_refl _⟩
  | succ n ih =>
    obtain ⟨a, b, d⟩ := ih (by omega)
    by_cases q : mRxP nw v n (mPs nw v (0, h) n).2
    · rw [mPs_t q]
      have e := hSm_u (h := (mPs nw v (0, h) n).2) (i := n / 4) (v := (mPs nw v (0, h) n).2 (9 * hY n + hX n).toNat) (by omega)
      have q3 := q.2.2
      refine ⟨fun r => ?_, Or.inr ⟨rfl, ?_⟩, ?_⟩
      · simp only at r; omega
      · simp only; omega
      · simp only; omega
    · rw [mPs_f q]; exact ⟨a, b, d⟩
theorem mWl_0 {nw : Nat → Int} {v : Int} {h : Nat → Int} {f : Nat} (hf : 0 < f) (h0 : (mPs nw v (0, h) 324).1 = 0) : mWl nw v f h = (mPs nw v (0, h) 324).2 := by
  obtain ⟨k, rfl⟩ : ∃ k, f = k + 1 := ⟨f - 1, by omega⟩
  simp only [mWl]; rw [if_pos h0]
theorem mWl_s {nw : Nat → Int} {v : Int} {h : Nat → Int} {f : Nat} (hf : 0 < f) (h0 : ¬ (mPs nw v (0, h) 324).1 = 0) : mWl nw v f h = mWl nw v (f - 1) (mPs nw v (0, h) 324).2 := by
  obtain ⟨k, rfl⟩ : ∃ k, f = k + 1 := ⟨f - 1, by omega⟩
  simp only [mWl]; rw [if_neg h0]; rfl
noncomputable def mHf (nw : Nat → Int) (v : Int) (hf : Nat → Int) (n : Nat) : Nat → Int := fun k => if k < n then (if bP (mUp nw v ((Nat.cast k : Int) % 9) ((Nat.cast k : Int) / 9)) = 1 then (Nat.cast k : Int) else -4) else hf k
theorem mHf_0 (nw : Nat → Int) (v : Int) (hf : Nat → Int) : mHf nw v hf 0 = hf := by funext k; unfold mHf; rw [if_neg (by omega)]
theorem mHf_s {nw : Nat → Int} {v : Int} {hf : Nat → Int} {n : Nat} {z : Int} (hz : z = if bP (mUp nw v ((Nat.cast n : Int) % 9) ((Nat.cast n : Int) / 9)) = 1 then (Nat.cast n : Int) else -4) : uI (mHf nw v hf n) n z = mHf nw v hf (n + 1) := by
  funext k
  unfold uI mHf
  by_cases h : k = n
  · subst h; rw [if_pos rfl, if_pos (show k < k + 1 by omega), hz]
  · rw [if_neg h]
    by_cases h2 : k < n
    · rw [if_pos h2, if_pos (show k < n + 1 by omega)]
    · rw [if_neg h2, if_neg (show ¬ k < n + 1 by omega)]
theorem mHf_ok (nw : Nat → Int) (v : Int) (hf : Nat → Int) : hOK (mHf nw v hf 81) := fun k hk => by
  unfold mHf
  rw [if_pos hk]
  split <;> omega
/-- all that a level has: labels at the end, the line, the cells -/
noncomputable def mLn (nw : Nat → Int) (v : Int) (k : Nat) : Int := bP (hXY (nw 0) (nw 1) ((Nat.cast k : Int) % 9) ((Nat.cast k : Int) / 9) ∧ hXY (nw 0) (nw 1) ((Nat.cast k : Int) % 9 + 1) ((Nat.cast k : Int) / 9) ∧ ¬ (mUp nw v ((Nat.cast k : Int) % 9) ((Nat.cast k : Int) / 9) ↔ mUp nw v ((Nat.cast k : Int) % 9 + 1) ((Nat.cast k : Int) / 9)))
noncomputable def mLd (nw : Nat → Int) (v : Int) (k : Nat) : Int := bP (hXY (nw 0) (nw 1) ((Nat.cast k : Int) % 9) ((Nat.cast k : Int) / 9) ∧ hXY (nw 0) (nw 1) ((Nat.cast k : Int) % 9) ((Nat.cast k : Int) / 9 + 1) ∧ ¬ (mUp nw v ((Nat.cast k : Int) % 9) ((Nat.cast k : Int) / 9) ↔ mUp nw v ((Nat.cast k : Int) % 9) ((Nat.cast k : Int) / 9 + 1)))
noncomputable def mLin (nw : Nat → Int) (v : Int) : Nat → Int := sumN (fun k => mLn nw v k + mLd nw v k)
noncomputable def mMny (nw : Nat → Int) (v : Int) : Nat → Int := sumN (fun k => bP (mUp nw v ((Nat.cast k : Int) % 9) ((Nat.cast k : Int) / 9)))
theorem bP_ne {p q : Prop} (h : ¬ bP p = bP q) : ¬ (p ↔ q) := fun r => h (bP_c r)
noncomputable def mLv (nw hf rD : Nat → Int) (v wh : Int) : Int × (Nat → Int) := if (1 ≤ v ∧ v ≤ 9) ∧ 0 ≤ wh ∧ wh ≤ 2 then (if wh = 0 then (sumN (fun k => bP (rD k = (Nat.cast k : Int))) 81, rD) else if wh = 1 then (mLin nw v 81, hf) else (mMny nw v 81, hf)) else (-1, hf)
