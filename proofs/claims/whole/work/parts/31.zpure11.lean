/-! ways down, lights, heights told anew: the reference's side -/
theorem gDn_pos {W H : Int} {g : Nat → Int} (x y : Int) (n : Nat) : (gDn W H g x y n).1 = -1 ∨ ∃ k : Nat, k < n ∧ (gDn W H g x y n).1 = (Nat.cast k : Int) ∧ 0 < gFall W H g x y k := by
  have h2 : 0 ≤ (gDn W H g x y n).2 := by
    induction n with
    | zero => simp [gDn]
    | succ n ih =>
      simp only [gDn]
      split
      · simp only; omega
      · exact ih
  induction n with
  | zero => exact Or.inl rfl
  | succ n ih =>
    have h3 : 0 ≤ (gDn W H g x y n).2 := by
      clear ih h2
      induction n with
      | zero => simp [gDn]
      | succ n ih =>
        simp only [gDn]
        split
        · simp only; omega
        · exact ih
    by_cases q : (gDn W H g x y n).2 < gFall W H g x y n
    · right
      refine ⟨n, by omega, ?_, by omega⟩
      simp only [gDn]; rw [if_pos q]
    · have e : gDn W H g x y (n + 1) = gDn W H g x y n := by simp only [gDn]; rw [if_neg q]
      rw [e]
      rcases ih h3 with a | ⟨k, a, b, c⟩
      · exact Or.inl a
      · exact Or.inr ⟨k, by omega, b, c⟩
/-- down is a cell that is there, and lower -/
theorem gDown_lo {W H : Int} {g : Nat → Int} {x y : Int} (h : ¬ gDown W H g x y = -1) : hXY W H (x + zR (gDown W H g x y).toNat) (y + zB (gDown W H g x y).toNat) ∧ gAt g (x + zR (gDown W H g x y).toNat) (y + zB (gDown W H g x y).toNat) < gAt g x y := by
  rcases gDn_pos (W := W) (H := H) (g := g) x y 8 with a | ⟨k, a, b, c⟩
  · exact absurd a h
  · have e : (gDown W H g x y).toNat = k := by unfold gDown; rw [b]; omega
    rw [e]
    unfold gFall at c
    have c2 : gB W H g x y (Nat.cast k : Int) < gAt g x y := by
      split at c <;> omega
    unfold gB at c2
    rw [cst0] at c2
    split at c2
    · exact ⟨by assumption, c2⟩
    · omega
theorem gNext_xy {W H : Int} {g : Nat → Int} {x y : Int} (hx : 0 ≤ x ∧ x < 9) (h : ¬ gDown W H g x y = -1) : gNext W H g (9 * y + x) = 9 * (y + zB (gDown W H g x y).toNat) + (x + zR (gDown W H g x y).toNat) := by
  unfold gNext gNb
  rw [c9m hx, c9d hx, if_neg h, if_pos (gDown_lo h).1]
theorem gNext_no {W H : Int} {g : Nat → Int} {x y : Int} (hx : 0 ≤ x ∧ x < 9) (h : gDown W H g x y = -1) : gNext W H g (9 * y + x) = -1 := by
  unfold gNext
  rw [c9m hx, c9d hx, if_pos h]
theorem gNext_nn {W H : Int} {g : Nat → Int} {x y : Int} (hG : gOK W H g) (hx : 0 ≤ x ∧ x < 9) (h : ¬ gDown W H g x y = -1) : ¬ gNext W H g (9 * y + x) = -1 := by
  have := (gDown_lo h).1
  rw [gNext_xy hx h]
  omega
def mFl (nw : Nat → Int) (pt fr x y z : Int) : Int × Int × Int := if hXY (nw 0) (nw 1) x y ∧ 0 ≤ z ∧ z ≤ 1 then ((if z = 0 then gPitF (nw 0) (nw 1) (nG nw) 81 (9 * y + x) else gStF (nw 0) (nw 1) (nG nw) 81 (9 * y + x)), gPitF (nw 0) (nw 1) (nG nw) 81 (9 * y + x), gStF (nw 0) (nw 1) (nG nw) 81 (9 * y + x)) else (-1, pt, fr)
theorem mFl_t {nw : Nat → Int} {pt fr x y z : Int} (h : hXY (nw 0) (nw 1) x y ∧ 0 ≤ z ∧ z ≤ 1) : mFl nw pt fr x y z = ((if z = 0 then gPitF (nw 0) (nw 1) (nG nw) 81 (9 * y + x) else gStF (nw 0) (nw 1) (nG nw) 81 (9 * y + x)), gPitF (nw 0) (nw 1) (nG nw) 81 (9 * y + x), gStF (nw 0) (nw 1) (nG nw) 81 (9 * y + x)) := by unfold mFl; rw [if_pos h]
theorem mFl_f {nw : Nat → Int} {pt fr x y z : Int} (h : ¬ (hXY (nw 0) (nw 1) x y ∧ 0 ≤ z ∧ z ≤ 1)) : mFl nw pt fr x y z = (-1, pt, fr) := by unfold mFl; rw [if_neg h]
/-- the last pit and way that were sought, of the first n cells -/
def mPf (W H : Int) (g : Nat → Int) (pt fr : Int) : Nat → Int × Int
  | 0 => (pt, fr)
  | n + 1 => if gIn W H (Nat.cast n : Int) then (gPitF W H g 81 (9 * ((Nat.cast n : Int) / 9) + (Nat.cast n : Int) % 9), gStF W H g 81 (9 * ((Nat.cast n : Int) / 9) + (Nat.cast n : Int) % 9)) else mPf W H g pt fr n
theorem mPf_t {W H : Int} {g : Nat → Int} {pt fr : Int} {n : Nat} (h : gIn W H (Nat.cast n : Int)) : mPf W H g pt fr (n + 1) = (gPitF W H g 81 (9 * ((Nat.cast n : Int) / 9) + (Nat.cast n : Int) % 9), gStF W H g 81 (9 * ((Nat.cast n : Int) / 9) + (Nat.cast n : Int) % 9)) := by simp only [mPf]; rw [if_pos h]
theorem mPf_f {W H : Int} {g : Nat → Int} {pt fr : Int} {n : Nat} (h : ¬ gIn W H (Nat.cast n : Int)) : mPf W H g pt fr (n + 1) = mPf W H g pt fr n := by simp only [mPf]; rw [if_neg h]
theorem sumN_tail {f : Nat → Int} {n : Nat} (d : Nat) (h : ∀ k : Nat, n ≤ k → k < n + d → f k = 0) : sumN f n = sumN f (n + d) := by
  induction d with
  | zero => rfl
  | succ d ih =>
    rw [ih (fun k h1 h2 => h k h1 (by omega)), show n + (d + 1) = (n + d) + 1 by omega]
    simp only [sumN]
    rw [h (n + d) (by omega) (by omega)]
    omega
noncomputable def mBa (nw : Nat → Int) (pt fr x y : Int) : Int × Int × Int := if hXY (nw 0) (nw 1) x y then (sumN (fun k => bP (gIn (nw 0) (nw 1) (Nat.cast k : Int) ∧ gPitF (nw 0) (nw 1) (nG nw) 81 (Nat.cast k : Int) = 9 * y + x)) 81, mPf (nw 0) (nw 1) (nG nw) pt fr (9 * nw 1).toNat) else (-1, pt, fr)
theorem mBa_t {nw : Nat → Int} {pt fr x y : Int} (h : hXY (nw 0) (nw 1) x y) : mBa nw pt fr x y = (sumN (fun k => bP (gIn (nw 0) (nw 1) (Nat.cast k : Int) ∧ gPitF (nw 0) (nw 1) (nG nw) 81 (Nat.cast k : Int) = 9 * y + x)) 81, mPf (nw 0) (nw 1) (nG nw) pt fr (9 * nw 1).toNat) := by unfold mBa; rw [if_pos h]
theorem mBa_f {nw : Nat → Int} {pt fr x y : Int} (h : ¬ hXY (nw 0) (nw 1) x y) : mBa nw pt fr x y = (-1, pt, fr) := by unfold mBa; rw [if_neg h]
theorem c9i (n : Int) (h : 0 ≤ n) : 9 * (n / 9) + n % 9 = n := by omega
theorem sum_9H {W H : Int} {P : Nat → Prop} (hH : 0 ≤ H ∧ H ≤ 9) {n : Nat} (hn : (Nat.cast n : Int) = 9 * H) : sumN (fun k => bP (gIn W H (Nat.cast k : Int) ∧ P k)) n = sumN (fun k => bP (gIn W H (Nat.cast k : Int) ∧ P k)) 81 := by
  have := sumN_tail (f := fun k => bP (gIn W H (Nat.cast k : Int) ∧ P k)) (n := n) (81 - n) (fun k h1 h2 => bP_f (fun q => by have := q.1; omega))
  rw [this, show n + (81 - n) = 81 by omega]
/-! contrasts -/
def gCoM (W H : Int) (q : Int) (tn : Int → Int → Int) : Nat → Int × Int
  | 0 => (1000, -1000)
  | n + 1 => if gIn W H (Nat.cast n : Int) ∧ gQ W H ((Nat.cast n : Int) % 9) ((Nat.cast n : Int) / 9) = q then (min (gCoM W H q tn n).1 (tn ((Nat.cast n : Int) % 9) ((Nat.cast n : Int) / 9)), max (gCoM W H q tn n).2 (tn ((Nat.cast n : Int) % 9) ((Nat.cast n : Int) / 9))) else gCoM W H q tn n
theorem gCoM_t {W H q : Int} {tn : Int → Int → Int} {n : Nat} (h : gIn W H (Nat.cast n : Int) ∧ gQ W H ((Nat.cast n : Int) % 9) ((Nat.cast n : Int) / 9) = q) : gCoM W H q tn (n + 1) = (min (gCoM W H q tn n).1 (tn ((Nat.cast n : Int) % 9) ((Nat.cast n : Int) / 9)), max (gCoM W H q tn n).2 (tn ((Nat.cast n : Int) % 9) ((Nat.cast n : Int) / 9))) := by simp only [gCoM]; rw [if_pos h]
theorem gCoM_f {W H q : Int} {tn : Int → Int → Int} {n : Nat} (h : ¬ (gIn W H (Nat.cast n : Int) ∧ gQ W H ((Nat.cast n : Int) % 9) ((Nat.cast n : Int) / 9) = q)) : gCoM W H q tn (n + 1) = gCoM W H q tn n := by simp only [gCoM]; rw [if_neg h]
theorem gCoM_r {W H q : Int} {tn : Int → Int → Int} (h : ∀ x y, -18 ≤ tn x y ∧ tn x y ≤ 18) (n : Nat) : -18 ≤ (gCoM W H q tn n).1 ∧ (gCoM W H q tn n).1 ≤ 1000 ∧ -1000 ≤ (gCoM W H q tn n).2 ∧ (gCoM W H q tn n).2 ≤ 18 := by
  induction n with
  | zero => simp [gCoM]
  | succ n ih =>
    have := h ((Nat.cast n : Int) % 9) ((Nat.cast n : Int) / 9)
    simp only [gCoM]
    split
    · simp only; omega
    · exact ih
theorem gCoM_c {W H q d : Int} {g : Nat → Int} {tn : Int → Int → Int} (h : ∀ x y, -18 ≤ tn x y ∧ tn x y ≤ 18) (n : Nat) : (gCoM W H q tn n = gCo W H g q d tn n ∧ (gCoM W H q tn n).1 ≤ (gCoM W H q tn n).2) ∨ (gCoM W H q tn n = (1000, -1000) ∧ gCo W H g q d tn n = (18, -18) ∧ ∀ k : Nat, k < n → ¬ (gIn W H (Nat.cast k : Int) ∧ gQ W H ((Nat.cast k : Int) % 9) ((Nat.cast k : Int) / 9) = q)) := by
  induction n with
  | zero => exact Or.inr ⟨rfl, rfl, fun k hk => absurd hk (Nat.not_lt_zero k)⟩
  | succ n ih =>
    have ht := h ((Nat.cast n : Int) % 9) ((Nat.cast n : Int) / 9)
    by_cases c : gIn W H (Nat.cast n : Int) ∧ gQ W H ((Nat.cast n : Int) % 9) ((Nat.cast n : Int) / 9) = q
    · left
      rw [gCoM_t c]
      have e : gCo W H g q d tn (n + 1) = (min (gCo W H g q d tn n).1 (tn ((Nat.cast n : Int) % 9) ((Nat.cast n : Int) / 9)), max (gCo W H g q d tn n).2 (tn ((Nat.cast n : Int) % 9) ((Nat.cast n : Int) / 9))) := by
        simp only [gCo]; rw [if_pos c]
      rw [e]
      rcases ih with ⟨a, b⟩ | ⟨a, b, -⟩
      · rw [a] at b ⊢
        refine ⟨rfl, ?_⟩
        simp only; omega
      · rw [a, b]
        simp only
        refine ⟨Prod.ext ?_ ?_, ?_⟩ <;> (try simp only) <;> omega
    · have e : gCo W H g q d tn (n + 1) = gCo W H g q d tn n := by simp only [gCo]; rw [if_neg c]
      rw [gCoM_f c, e]
      rcases ih with a | ⟨a, b, k⟩
      · exact Or.inl a
      · exact Or.inr ⟨a, b, all_s k c⟩
theorem gCoM_9H {W H q : Int} {tn : Int → Int → Int} {n : Nat} (hn : (Nat.cast n : Int) = 9 * H) (d : Nat) : gCoM W H q tn n = gCoM W H q tn (n + d) := by
  induction d with
  | zero => rfl
  | succ d ih =>
    rw [ih, show n + (d + 1) = (n + d) + 1 by omega, gCoM_f (n := n + d) (fun q => by have := q.1; omega)]
theorem gContrast_m {W H : Int} {g : Nat → Int} (hG : gOK W H g) (h3 : 3 ≤ W ∧ 3 ≤ H) {q d : Int} (hq : 0 ≤ q ∧ q < 4) {n : Nat} (hn : (Nat.cast n : Int) = 9 * H) : (gCoM W H q (fun x y => gTone W H g x y d) n).2 - (gCoM W H q (fun x y => gTone W H g x y d) n).1 = gContrast W H g q d ∧ 0 ≤ gContrast W H g q d := by
  obtain ⟨a1, a2, a3, a4, -⟩ := id hG
  have e := gCoM_9H (W := W) (q := q) (tn := fun x y => gTone W H g x y d) hn (81 - n)
  rw [show n + (81 - n) = 81 by omega] at e
  rw [e]
  rcases gCoM_c (W := W) (H := H) (q := q) (d := d) (g := g) (tn := fun x y => gTone W H g x y d) (fun x y => gTone_r hG x y d) 81 with ⟨a, b⟩ | ⟨-, -, k⟩
  · unfold gContrast
    rw [← a]
    exact ⟨rfl, by omega⟩
  · exfalso
    have hx : ∃ x y : Int, hXY W H x y ∧ gQ W H x y = q := by
      have : q = 0 ∨ q = 1 ∨ q = 2 ∨ q = 3 := by omega
      rcases this with h | h | h | h
      · exact ⟨0, 0, by omega, by unfold gQ; rw [if_pos (by omega), if_pos (by omega)]; omega⟩
      · exact ⟨W - 1, 0, by omega, by unfold gQ; rw [if_pos (by omega), if_neg (by omega)]; omega⟩
      · exact ⟨0, H - 1, by omega, by unfold gQ; rw [if_neg (by omega), if_pos (by omega)]; omega⟩
      · exact ⟨W - 1, H - 1, by omega, by unfold gQ; rw [if_neg (by omega), if_neg (by omega)]; omega⟩
    obtain ⟨x, y, h1, h2⟩ := hx
    have hc : (Nat.cast (9 * y + x).toNat : Int) = 9 * y + x := by omega
    refine k (9 * y + x).toNat (by omega) ?_
    rw [hc, c9m (by omega), c9d (by omega)]
    exact ⟨⟨by omega, by rw [c9m (by omega), c9d (by omega)]; exact h1⟩, h2⟩
/-! the best lights, by the row of codes -/
def mNear (a b : Int) : Prop := zabs (a - b) < 2 ∨ zabs (a - b) = 7
def mCa (n : Nat) : Int := (Nat.cast n : Int) / 512
def mCb (n : Nat) : Int := (Nat.cast n : Int) / 64 % 8
def mCc (n : Nat) : Int := (Nat.cast n : Int) / 8 % 8
def mCd (n : Nat) : Int := (Nat.cast n : Int) % 8
abbrev mFt (kF : Nat → Int) (S : lT) (n : Nat) : Prop := S.1 < lSum kF (mCa n) (mCb n) (mCc n) (mCd n) ∧ mNear (mCa n) (mCb n) ∧ mNear (mCc n) (mCd n) ∧ mNear (mCa n) (mCc n) ∧ mNear (mCb n) (mCd n)
noncomputable def mFi (kF : Nat → Int) (S0 : lT) : Nat → lT
  | 0 => S0
  | n + 1 => if bP (mFt kF (mFi kF S0 n) n) = 1 then (lSum kF (mCa n) (mCb n) (mCc n) (mCd n), uI (uI (uI (uI (mFi kF S0 n).2 0 (mCa n)) 1 (mCb n)) 2 (mCc n)) 3 (mCd n)) else mFi kF S0 n
theorem mFi_t {kF : Nat → Int} {S0 : lT} {n : Nat} (h : mFt kF (mFi kF S0 n) n) : mFi kF S0 (n + 1) = (lSum kF (mCa n) (mCb n) (mCc n) (mCd n), uI (uI (uI (uI (mFi kF S0 n).2 0 (mCa n)) 1 (mCb n)) 2 (mCc n)) 3 (mCd n)) := by simp only [mFi]; rw [if_pos (bP_t h)]
theorem mFi_f {kF : Nat → Int} {S0 : lT} {n : Nat} (h : ¬ mFt kF (mFi kF S0 n) n) : mFi kF S0 (n + 1) = mFi kF S0 n := by simp only [mFi]; rw [if_neg (by rw [bP_f h]; omega)]
theorem mFi_r {kF : Nat → Int} (hk : ∀ k : Nat, -36 ≤ kF k ∧ kF k ≤ 36) {S0 : lT} (h : lOK S0) (n : Nat) : lOK (mFi kF S0 n) := by
  induction n with
  | zero => exact h
  | succ n ih =>
    simp only [mFi]
    split
    · rename_i q
      have q2 := (bP_1 (q := mFt kF (mFi kF S0 n) n) (by rw [q]; omega)).1
      have := lSum_r hk (mCa n) (mCb n) (mCc n) (mCd n)
      unfold lOK at *
      simp only; omega
    · exact ih
def mBe (D : lT) (K kf lf : Nat → Int) (q : Int) : Int × (Nat → Int) × (Nat → Int) := if -1 ≤ q ∧ q ≤ 3 then ((if q < 0 then D.1 else D.2 q.toNat), K, D.2) else (-1, kf, lf)
theorem mBe_t {D : lT} {K kf lf : Nat → Int} {q : Int} (h : -1 ≤ q ∧ q ≤ 3) : mBe D K kf lf q = ((if q < 0 then D.1 else D.2 q.toNat), K, D.2) := by unfold mBe; rw [if_pos h]
theorem mBe_f {D : lT} {K kf lf : Nat → Int} {q : Int} (h : ¬ (-1 ≤ q ∧ q ≤ 3)) : mBe D K kf lf q = (-1, kf, lf) := by unfold mBe; rw [if_neg h]
theorem sPut_nQ {nw f : Nat → Int} {n : Nat} (h : n < 4) : sPut nw 2 n f (2 + (Nat.cast n : Int)).toNat = nQ nw n := by
  unfold sPut nQ
  rw [if_neg (by omega), if_pos h]
  all_goals (congr 1)
/-! a height told anew -/
theorem mOK_uG {nw : Nat → Int} (h : mOK nw) {c : Nat} (hc : c < 81) {v : Int} (hv : 0 ≤ v ∧ v ≤ 9) : mOK (uI nw (7 + c) v) := by
  obtain ⟨hG, hW, hn, hL, hQ, h6, h8⟩ := h
  obtain ⟨a1, a2, a3, a4, a5⟩ := hG
  have e : ∀ k : Nat, (k < 7 ∨ 88 ≤ k) → uI nw (7 + c) v k = nw k := fun k hk => uI_ne nw v (by omega)
  refine ⟨?_, ?_, ?_, fun k => ?_, fun k => ?_, ?_, fun k hk => ?_⟩
  · rw [e 0 (by omega), e 1 (by omega)]
    refine ⟨a1, a2, a3, a4, fun k => ?_⟩
    unfold nG
    split
    · have := a5 k
      unfold nG at this
      rw [if_pos (by assumption)] at this
      unfold uI
      split
      · exact hv
      · exact this
    · omega
  · rw [e 0 (by omega), e 1 (by omega)]; exact hW
  · rw [e 88 (by omega)]; exact hn
  · have := hL k
    unfold nL at *
    split
    · rw [if_pos (by assumption)] at this
      rw [e _ (by omega)]; exact this
    · omega
  · have := hQ k
    unfold nQ at *
    split
    · rw [if_pos (by assumption)] at this
      rw [e _ (by omega)]; exact this
    · omega
  · rw [e 6 (by omega)]; exact h6
  · have := h8 k hk
    unfold uI
    split
    · omega
    · exact this
theorem mRb_lo {nw : Nat → Int} {t k : Nat} (h : k < 88) : mRb nw t k = nw k := by
  unfold mRb
  rw [uI_ne _ _ (by omega), zS8_lo (by omega)]
theorem mRb_88 (nw : Nat → Int) (t : Nat) : mRb nw t 88 = nw 88 - 1 := by unfold mRb; exact uI_same _ _ _
theorem mRb_hi {nw : Nat → Int} {t k : Nat} (h : 88 < k) : mRb nw t k = if 89 + 8 * t ≤ k ∧ k < 89 + 8 * t + 8 * ((nw 88).toNat - 1 - t) then nw (k + 8) else nw k := by
  unfold mRb
  rw [uI_ne _ _ (by omega)]
  rfl
theorem mOK_rb {nw : Nat → Int} (h : mOK nw) {t : Nat} (ht : (Nat.cast t : Int) < nw 88) : mOK (mRb nw t) := by
  obtain ⟨hG, hW, hn, hL, hQ, h6, h8⟩ := h
  have eG : nG (mRb nw t) = nG nw := by
    funext k
    unfold nG
    split
    · exact mRb_lo (by omega)
    · rfl
  have eQ : nQ (mRb nw t) = nQ nw := by
    funext k
    unfold nQ
    split
    · exact mRb_lo (by omega)
    · rfl
  refine ⟨?_, ?_, ?_, fun k => ?_, ?_, ?_, fun k hk => ?_⟩
  · rw [eG, mRb_lo (k := 0) (by omega), mRb_lo (k := 1) (by omega)]; exact hG
  · rw [mRb_lo (k := 0) (by omega), mRb_lo (k := 1) (by omega)]; exact hW
  · rw [mRb_88]; omega
  · unfold nL
    split
    · rw [mRb_hi (by omega)]
      split
      · have := hL (k + 1)
        unfold nL at this
        rw [if_pos (by omega), show 95 + 8 * (k + 1) = 95 + 8 * k + 8 by omega] at this
        exact this
      · have := hL k
        unfold nL at this
        rw [if_pos (by assumption)] at this
        exact this
    · omega
  · rw [eQ]; exact hQ
  · rw [mRb_lo (k := 6) (by omega)]; exact h6
  · by_cases q : k < 88
    · rw [mRb_lo q]; exact h8 k hk
    · by_cases q2 : k = 88
      · rw [q2, mRb_88]; omega
      · rw [mRb_hi (by omega)]
        split
        · exact h8 _ (by omega)
        · exact h8 k hk
/-- of the first j cells of a stroke one is by a cell -/
def mNr (nw : Nat → Int) (t : Nat) (c : Int) (j : Nat) : Prop := ∃ k : Nat, k < j ∧ sBy (nCe nw t k) c
theorem mNr_0 {nw : Nat → Int} {t : Nat} {c : Int} : 0 = bP (mNr nw t c 0) := (bP_f (fun ⟨d, h, _⟩ => absurd h (Nat.not_lt_zero d))).symm
theorem mNr_a {nw : Nat → Int} {t : Nat} {c : Int} {j : Nat} (h : mNr nw t c j) : mNr nw t c (j + 1) := by
  obtain ⟨k, a, b⟩ := h
  exact ⟨k, by omega, b⟩
theorem mNr_b {nw : Nat → Int} {t : Nat} {c : Int} {j : Nat} (h : sBy (nCe nw t j) c) : mNr nw t c (j + 1) := ⟨j, by omega, h⟩
theorem mNr_c {nw : Nat → Int} {t : Nat} {c : Int} {j : Nat} (h : ¬ mNr nw t c j) (h2 : ¬ sBy (nCe nw t j) c) : ¬ mNr nw t c (j + 1) := fun ⟨k, a, b⟩ => by
  by_cases q : k = j
  · rw [q] at b; exact h2 b
  · exact h ⟨k, by omega, b⟩
theorem sBy_xy {a x y : Int} (hx : 0 ≤ x ∧ x < 9) : sBy a (9 * y + x) ↔ zabs (a % 9 - x) < 2 ∧ zabs (a / 9 - y) < 2 := by
  unfold sBy
  rw [c9m hx, c9d hx]
  omega
theorem mNr_all {nw : Nat → Int} {t : Nat} {c : Int} {j : Nat} (h : (Nat.cast j : Int) = nL nw t) : mNr nw t c j ↔ sNear (nL nw) (nCe nw) t c := by
  unfold mNr sNear
  exact ⟨fun ⟨k, a, b⟩ => ⟨k, by omega, b⟩, fun ⟨k, a, b⟩ => ⟨k, by omega, b⟩⟩
/-- all strokes by a cell rubbed out, from the stroke t on -/
noncomputable def mRm (c : Int) : Nat → Nat → (Nat → Int) → (Nat → Int)
  | 0, _, nw => nw
  | f + 1, t, nw => if (Nat.cast t : Int) < nw 88 then (if bP (sNear (nL nw) (nCe nw) t c) = 1 then mRm c f t (mRb nw t) else mRm c f (t + 1) nw) else nw
theorem mRm_e {c : Int} {f t : Nat} {nw : Nat → Int} (h : nw 88 ≤ (Nat.cast t : Int)) : mRm c f t nw = nw := by
  cases f with
  | zero => rfl
  | succ f => simp only [mRm]; rw [if_neg (by omega)]
theorem mRm_t {c : Int} {f t : Nat} {nw : Nat → Int} (hf : 0 < f) (h : (Nat.cast t : Int) < nw 88) (h2 : sNear (nL nw) (nCe nw) t c) : mRm c f t nw = mRm c (f - 1) t (mRb nw t) := by
  obtain ⟨k, rfl⟩ : ∃ k, f = k + 1 := ⟨f - 1, by omega⟩
  simp only [mRm]; rw [if_pos h, if_pos (bP_t h2)]; rfl
theorem mRm_f {c : Int} {f t : Nat} {nw : Nat → Int} (hf : 0 < f) (h : (Nat.cast t : Int) < nw 88) (h2 : ¬ sNear (nL nw) (nCe nw) t c) : mRm c f t nw = mRm c (f - 1) (t + 1) nw := by
  obtain ⟨k, rfl⟩ : ∃ k, f = k + 1 := ⟨f - 1, by omega⟩
  simp only [mRm]; rw [if_pos h, if_neg (by rw [bP_f h2]; omega)]; rfl
noncomputable def mRv (un : Int) (bf nw : Nat → Int) (x y v : Int) : Nat → Int := if (mBec un bf nw ((7 + 9 * y) + x) v).1 = -2 then (mBec un bf nw ((7 + 9 * y) + x) v).2.2.2 else mRm (9 * y + x) 20 0 (mBec un bf nw ((7 + 9 * y) + x) v).2.2.2
noncomputable def mRa (un : Int) (bf nw : Nat → Int) (x y v : Int) : mS4 := if hXY (nw 0) (nw 1) x y ∧ 0 ≤ v ∧ v ≤ 9 then ((mBec un bf nw ((7 + 9 * y) + x) v).1, (mBec un bf nw ((7 + 9 * y) + x) v).2.1, (mBec un bf nw ((7 + 9 * y) + x) v).2.2.1, mRv un bf nw x y v) else (-1, un, bf, nw)
theorem mRa_t {un : Int} {bf nw : Nat → Int} {x y v : Int} (h : hXY (nw 0) (nw 1) x y ∧ 0 ≤ v ∧ v ≤ 9) : mRa un bf nw x y v = ((mBec un bf nw ((7 + 9 * y) + x) v).1, (mBec un bf nw ((7 + 9 * y) + x) v).2.1, (mBec un bf nw ((7 + 9 * y) + x) v).2.2.1, mRv un bf nw x y v) := by unfold mRa; rw [if_pos h]
theorem mRa_f {un : Int} {bf nw : Nat → Int} {x y v : Int} (h : ¬ (hXY (nw 0) (nw 1) x y ∧ 0 ≤ v ∧ v ≤ 9)) : mRa un bf nw x y v = (-1, un, bf, nw) := by unfold mRa; rw [if_neg h]
theorem mBec_ok {un : Int} {bf nw : Nat → Int} (h : mOK nw) {x y v : Int} (hx : hXY (nw 0) (nw 1) x y) (hv : 0 ≤ v ∧ v ≤ 9) : mOK (mBec un bf nw ((7 + 9 * y) + x) v).2.2.2 := by
  have a := h.1.2.1
  have b := h.1.2.2.2.1
  unfold mBec
  split
  · exact h
  · simp only
    rw [show ((7 + 9 * y) + x).toNat = 7 + (9 * y + x).toNat by omega]
    exact mOK_uG h (by omega) hv
theorem nL_at {nw : Nat → Int} {t : Nat} (h : t < 20) : nw ((89 + (8 * (Nat.cast t : Int))) + 6).toNat = nL nw t := by
  unfold nL; rw [if_pos h, show ((89 + (8 * (Nat.cast t : Int))) + 6).toNat = 95 + 8 * t by omega]
theorem nT_at {nw : Nat → Int} {t k : Nat} : nw ((89 + (8 * (Nat.cast t : Int))) + (Nat.cast k : Int)).toNat = nCe nw t k := by
  unfold nCe
  rw [show ((89 + (8 * (Nat.cast t : Int))) + (Nat.cast k : Int)).toNat = 89 + 8 * t + k by omega]
theorem mBec_1 {un : Int} {bf nw : Nat → Int} {a v : Int} (h : 0 ≤ nw a.toNat ∧ nw a.toNat ≤ 80) : -2 ≤ (mBec un bf nw a v).1 ∧ (mBec un bf nw a v).1 ≤ 80 := by
  unfold mBec
  split <;> simp only <;> omega
