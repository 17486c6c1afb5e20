/-! the shades: the class's answers are the reference's -/
theorem xLine_c {t t2 : Nat → Int} {S : xT} (n : Nat) (h : ∀ k : Nat, k < n → t k = t2 k) : xLine t S n = xLine t2 S n := by
  induction n with
  | zero => rfl
  | succ n ih =>
    simp only [xLine]
    rw [ih (fun k hk => h k (by omega))]
    unfold xStep
    rw [h n (by omega)]
abbrev cEr (rT : xT) : Nat → Nat → Int := xE rT.2.1 rT.2.2.1 rT.2.2.2
abbrev mEr (rM : mT3) : Nat → Nat → Int := xE rM.2.1 (sumN rM.2.2) (sumN (mTs rM.2.1 rM.2.2))
/-- the class's row of tones and the reference's -/
def shR (rT : xT) (rM : mT3) : Prop := oOK rM.1 rM.2.1 rM.2.2 ∧ rT.1 = rM.1 ∧ (∀ k : Nat, (Nat.cast k : Int) < rM.1 → rT.2.1 k = rM.2.1 k) ∧ (∀ k : Nat, (Nat.cast k : Int) ≤ rM.1 → rT.2.2.1 k = sumN rM.2.2 k ∧ rT.2.2.2 k = sumN (mTs rM.2.1 rM.2.2) k)
section SH
variable {rT : xT} {rM : mT3}
theorem shR_E (h : shR rT rM) (a b : Nat) (hab : a < b) (hb : b ≤ rM.1.toNat) : cEr rT a b = mEr rM a b := by
  obtain ⟨h1, h2, h3, h4⟩ := h
  have h0 := h1.1.1
  exact xE_c (u := rM.1.toNat) (fun k hk => h3 k (by omega)) (fun k hk => (h4 k (by omega)).1) (fun k hk => (h4 k (by omega)).2) hab hb
theorem shR_good (h : shR rT rM) : xGood rT := by
  have hE := shR_E h
  obtain ⟨h1, h2, h3, h4⟩ := h
  obtain ⟨⟨u0, u37⟩, o1, o2, o3, o4⟩ := id h1
  refine ⟨by omega, by omega, fun k hk => ?_, fun i j hij hj => ?_, fun a b hab hb => ?_⟩
  · rw [(h4 k (by omega)).1]; exact o2 k (by omega)
  · rw [(h4 i (by omega)).1, (h4 j (by omega)).1]
    have := sumN_lt o1 (i := i) (j := j) hij (by omega)
    omega
  · have e : xE rT.2.1 rT.2.2.1 rT.2.2.2 a b = mEr rM a b := hE a b hab (by omega)
    rw [e]
    exact oOK_E h1 a b hab (by omega)
theorem shR_0 (h : shR rT rM) : rT.2.2.1 0 = 0 ∧ rT.2.2.2 0 = 0 := by
  have h0 := h.1.1.1
  exact h.2.2.2 0 (by omega)
theorem shR_tn (h : shR rT rM) : ∀ k : Nat, (Nat.cast k : Int) < rT.1 → -18 ≤ rT.2.1 k ∧ rT.2.1 k ≤ 18 := fun k hk => by
  rw [h.2.1] at hk
  rw [h.2.2.1 k hk]
  exact h.1.2.2.2.1 k hk
theorem shR_mE (h : shR rT rM) : ∀ a b : Nat, a < b → b ≤ rM.1.toNat → 0 ≤ mEr rM a b ∧ mEr rM a b ≤ 100000 := fun a b hab hb => oOK_E h.1 a b hab (by have := h.1.1.1; omega)
theorem grp_eq (h : shR rT rM) {n : Int} (hn : 2 ≤ n ∧ n ≤ 6) : xGrp n rT.1 = min n rM.1 ∧ (min n rM.1).toNat ≤ rM.1.toNat ∧ (min n rM.1).toNat ≤ 6 ∧ ((min n rM.1).toNat = 0 → rM.1.toNat = 0) ∧ 0 ≤ min n rM.1 := by
  have := h.1.1
  rw [h.2.1]
  unfold xGrp
  omega
theorem an_error (h : shR rT rM) {n : Int} (hn : 2 ≤ n ∧ n ≤ 6) (lf lsF : Nat → Int) : (xLs (cEr rT) rT.1.toNat lf 0) (xGrp n rT.1 * 38).toNat = (mLs (mEr rM) rM.1.toNat lsF ((min n rM.1).toNat + 1) (rM.1.toNat + 1)) (41 * (min n rM.1) + 0).toNat := by
  obtain ⟨g1, g2, g3, g4, g5⟩ := grp_eq h hn
  have h37 := h.1.1
  rw [g1, h.2.1]
  have e1 : (min n rM.1 * 38).toNat = 38 * (min n rM.1).toNat + 0 := by omega
  have e2 : (41 * (min n rM.1) + 0).toNat = 41 * (min n rM.1).toNat + 0 := by omega
  rw [e1, e2, xLs_at (by omega) (by omega) (by omega), mLs_at (by omega) (by omega) (by omega) (by omega)]
  exact xDL_c (shR_E h) _ _ (by omega)
theorem cut_x (h : shR rT rM) {n : Int} (hn : 2 ≤ n ∧ n ≤ 6) (nf bg : Nat → Int) (g : Nat) (hg : (Nat.cast g : Int) ≤ min n rM.1) : (zTake ((xGrp n rT.1).toNat + 1) (xAt (xNs (cEr rT) rT.1.toNat nf 0) (xGrp n rT.1)) bg) g = cuP (mEr rM) rM.1.toNat (min n rM.1).toNat g := by
  obtain ⟨g1, g2, g3, g4, g5⟩ := grp_eq h hn
  have h37 := h.1.1
  rw [g1, h.2.1]
  unfold zTake
  rw [if_pos (by omega)]
  have := cu_x (E := mEr rM) (u := rM.1.toNat) (shR_mE h) (E2 := cEr rT) (shR_E h) (n := (min n rM.1).toNat) ⟨g2, g3⟩ g4 (by omega) nf g (by omega)
  rw [show (Nat.cast (min n rM.1).toNat : Int) = min n rM.1 by omega] at this
  exact this
theorem cut_m (h : shR rT rM) {n : Int} (hn : 2 ≤ n ∧ n ≤ 6) (nxF : Nat → Int) (g : Nat) (hg : (Nat.cast g : Int) ≤ min n rM.1) : mAt (mNs (mEr rM) rM.1.toNat nxF ((min n rM.1).toNat + 1) (rM.1.toNat + 1)) (min n rM.1) g = cuP (mEr rM) rM.1.toNat (min n rM.1).toNat g := by
  obtain ⟨g1, g2, g3, g4, g5⟩ := grp_eq h hn
  have h37 := h.1.1
  have := cu_m (E := mEr rM) (u := rM.1.toNat) (shR_mE h) (n := (min n rM.1).toNat) ⟨g2, g3⟩ g4 (by omega) nxF g (by omega)
  rw [show (Nat.cast (min n rM.1).toNat : Int) = min n rM.1 by omega] at this
  exact this
theorem cut_r (h : shR rT rM) {n : Int} (hn : 2 ≤ n ∧ n ≤ 6) (g : Nat) (hg : (Nat.cast g : Int) < min n rM.1) : 0 ≤ cuP (mEr rM) rM.1.toNat (min n rM.1).toNat g ∧ cuP (mEr rM) rM.1.toNat (min n rM.1).toNat g < cuP (mEr rM) rM.1.toNat (min n rM.1).toNat (g + 1) ∧ cuP (mEr rM) rM.1.toNat (min n rM.1).toNat (g + 1) ≤ rM.1 := by
  obtain ⟨g1, g2, g3, g4, g5⟩ := grp_eq h hn
  have h37 := h.1.1
  have a := (cu_ok (shR_mE h) ⟨g2, g3⟩ g4 g (by omega)).1
  have b := (cu_ok (shR_mE h) ⟨g2, g3⟩ g4 (g + 1) (by omega)).1
  exact ⟨a.1, cu_lt (shR_mE h) ⟨g2, g3⟩ g4 g (by omega), by omega⟩
theorem hcut_x (h : shR rT rM) {n : Int} (hn : 2 ≤ n ∧ n ≤ 6) (nf bg : Nat → Int) : ∀ g : Int, 0 ≤ g → g < xGrp n rT.1 → 0 ≤ (zTake ((xGrp n rT.1).toNat + 1) (xAt (xNs (cEr rT) rT.1.toNat nf 0) (xGrp n rT.1)) bg) g.toNat ∧ (zTake ((xGrp n rT.1).toNat + 1) (xAt (xNs (cEr rT) rT.1.toNat nf 0) (xGrp n rT.1)) bg) g.toNat < (zTake ((xGrp n rT.1).toNat + 1) (xAt (xNs (cEr rT) rT.1.toNat nf 0) (xGrp n rT.1)) bg) (g + 1).toNat ∧ (zTake ((xGrp n rT.1).toNat + 1) (xAt (xNs (cEr rT) rT.1.toNat nf 0) (xGrp n rT.1)) bg) (g + 1).toNat ≤ rT.1 := fun g g0 gl => by
  obtain ⟨g1, -⟩ := grp_eq h hn
  have hl : g < min n rM.1 := by rw [← g1]; exact gl
  have r := cut_r h hn g.toNat (by omega)
  rw [cut_x h hn nf bg g.toNat (by omega), cut_x h hn nf bg (g + 1).toNat (by omega), h.2.1, show (g + 1).toNat = g.toNat + 1 by omega]
  exact r
theorem hcut_m (h : shR rT rM) {n : Int} (hn : 2 ≤ n ∧ n ≤ 6) (nxF : Nat → Int) : ∀ k : Nat, (Nat.cast k : Int) < min n rM.1 → 0 ≤ mAt (mNs (mEr rM) rM.1.toNat nxF ((min n rM.1).toNat + 1) (rM.1.toNat + 1)) (min n rM.1) k ∧ mAt (mNs (mEr rM) rM.1.toNat nxF ((min n rM.1).toNat + 1) (rM.1.toNat + 1)) (min n rM.1) k < mAt (mNs (mEr rM) rM.1.toNat nxF ((min n rM.1).toNat + 1) (rM.1.toNat + 1)) (min n rM.1) (k + 1) ∧ mAt (mNs (mEr rM) rM.1.toNat nxF ((min n rM.1).toNat + 1) (rM.1.toNat + 1)) (min n rM.1) (k + 1) ≤ rM.1 := fun k hk => by
  rw [cut_m h hn nxF k (by omega), cut_m h hn nxF (k + 1) (by omega)]
  exact cut_r h hn k hk
theorem an_shade (h : shR rT rM) {n : Int} (hn : 2 ≤ n ∧ n ≤ 6) (nf bg nxF : Nat → Int) {z : Int} (hz : -1 ≤ z) :
    (if z = -1 then xGrp n rT.1 else if z < xGrp n rT.1 then rT.2.1 (xMidF rT.2.2.1 ((zTake ((xGrp n rT.1).toNat + 1) (xAt (xNs (cEr rT) rT.1.toNat nf 0) (xGrp n rT.1)) bg) z.toNat).toNat ((zTake ((xGrp n rT.1).toNat + 1) (xAt (xNs (cEr rT) rT.1.toNat nf 0) (xGrp n rT.1)) bg) (z + 1).toNat).toNat ((zTake ((xGrp n rT.1).toNat + 1) (xAt (xNs (cEr rT) rT.1.toNat nf 0) (xGrp n rT.1)) bg) z.toNat).toNat) + 100 else -4)
    = (if z = -1 then min n rM.1 else if z < min n rM.1 then rM.2.1 (xMidF (sumN rM.2.2) (mAt (mNs (mEr rM) rM.1.toNat nxF ((min n rM.1).toNat + 1) (rM.1.toNat + 1)) (min n rM.1) z.toNat).toNat (mAt (mNs (mEr rM) rM.1.toNat nxF ((min n rM.1).toNat + 1) (rM.1.toNat + 1)) (min n rM.1) (z.toNat + 1)).toNat (mAt (mNs (mEr rM) rM.1.toNat nxF ((min n rM.1).toNat + 1) (rM.1.toNat + 1)) (min n rM.1) z.toNat).toNat) + 100 else -4) := by
  obtain ⟨g1, -⟩ := grp_eq h hn
  have h37 := h.1.1
  by_cases q : z = -1
  · rw [if_pos q, if_pos q, g1]
  · rw [if_neg q, if_neg q]
    by_cases r : z < min n rM.1
    · rw [if_pos (by rw [g1]; exact r), if_pos r]
      have c := cut_r h hn z.toNat (by omega)
      rw [cut_x h hn nf bg z.toNat (by omega), cut_x h hn nf bg (z + 1).toNat (by omega), cut_m h hn nxF z.toNat (by omega), cut_m h hn nxF (z.toNat + 1) (by omega), show (z + 1).toNat = z.toNat + 1 by omega]
      generalize cuP (mEr rM) rM.1.toNat (min n rM.1).toNat z.toNat = a at *
      generalize cuP (mEr rM) rM.1.toNat (min n rM.1).toNat (z.toNat + 1) = b at *
      have e := xMid_c (u := rM.1.toNat) (ca := rT.2.2.1) (ca2 := sumN rM.2.2) (fun k hk => (h.2.2.2 k (by omega)).1) (a := a.toNat) (b := b.toNat) (by omega) (by omega)
      have m := xMidF_c (sumN rM.2.2) a.toNat b.toNat (by omega)
      rw [e, h.2.2.1 _ (by omega)]
    · rw [if_neg (by rw [g1]; exact r), if_neg r]
theorem xGo_is {tn bg : Nat → Int} {t : Int} {g : Nat} (h1 : tn (bg g).toNat ≤ t) (N : Nat) (hN : g < N) (h2 : ∀ k : Nat, g < k → k < N → t < tn (bg k).toNat) : xGo tn bg t N = (Nat.cast g : Int) := by
  induction N with
  | zero => omega
  | succ N ih =>
    simp only [xGo]
    by_cases q : g = N
    · subst q; rw [if_neg (by omega)]
    · rw [if_pos (h2 N (by omega) (by omega))]
      exact ih (by omega) (fun k a b => h2 k a (by omega))
theorem mSd_is {tn at_ : Nat → Int} {t : Int} {g : Nat} (h1 : t ≤ tn (at_ (g + 1) - 1).toNat) (f : Nat) : ∀ k : Nat, k ≤ g → g < k + f → (∀ j : Nat, k ≤ j → j < g → tn (at_ (j + 1) - 1).toNat < t) → mSd tn at_ t f k = (Nat.cast g : Int) := by
  induction f with
  | zero => intro k a b; omega
  | succ f ih =>
    intro k a b hj
    simp only [mSd]
    by_cases q : k = g
    · subst q; rw [if_pos h1]
    · have := hj k (Nat.le_refl _) (by omega)
      rw [if_neg (by omega)]
      exact ih (k + 1) (by omega) (by omega) (fun j x y => hj j (by omega) y)
/-- the shade of a tone that stands in the row -/
theorem an_group (h : shR rT rM) {n : Int} (hn : 2 ≤ n ∧ n ≤ 6) (nf bg nxF : Nat → Int) {t : Int} {i : Nat} (hi : (Nat.cast i : Int) < rM.1) (ht : rM.2.1 i = t) :
    xGo rT.2.1 (zTake ((xGrp n rT.1).toNat + 1) (xAt (xNs (cEr rT) rT.1.toNat nf 0) (xGrp n rT.1)) bg) t (xGrp n rT.1).toNat = mSd rM.2.1 (mAt (mNs (mEr rM) rM.1.toNat nxF ((min n rM.1).toNat + 1) (rM.1.toNat + 1)) (min n rM.1)) t (min n rM.1).toNat 0 := by
  obtain ⟨g1, g2, g3, g4, g5⟩ := grp_eq h hn
  have h37 := h.1.1
  have hE := shR_mE h
  have hend := cu_end hE ⟨g2, g3⟩ g4
  obtain ⟨g, a, b, d⟩ := cu_find (E := mEr rM) (u := rM.1.toNat) (min n rM.1).toNat (min n rM.1).toNat i (by rw [hend]; omega)
  obtain ⟨-, -, -, -, inc⟩ := h.1
  have le : ∀ x y : Nat, x ≤ y → (Nat.cast y : Int) < rM.1 → rM.2.1 x ≤ rM.2.1 y := fun x y hxy hy => by
    by_cases q : x = y
    · rw [q]; omega
    · have := inc x y (by omega) hy; omega
  have r := fun k (hk : (Nat.cast k : Int) < min n rM.1) => cut_r h hn k hk
  have rg := r g (by omega)
  rw [xGo_is (g := g) ?_ _ (by rw [g1]; exact a) ?_, mSd_is (g := g) ?_ _ 0 (by omega) (by omega) ?_]
  · rw [cut_m h hn nxF (g + 1) (by omega), ← ht]
    exact le _ _ (by omega) (by omega)
  · intro j _ hj
    rw [cut_m h hn nxF (j + 1) (by omega), ← ht]
    have m := cu_mono hE ⟨g2, g3⟩ g4 (i := j + 1) (g - (j + 1)) (by omega)
    rw [show j + 1 + (g - (j + 1)) = g by omega] at m
    have := r j (by omega)
    exact inc _ _ (by omega) hi
  · rw [cut_x h hn nf bg g (by omega), h.2.2.1 _ (by omega), ← ht]
    exact le _ _ (by omega) hi
  · intro k hk hk2
    rw [g1] at hk2
    rw [cut_x h hn nf bg k (by omega), ← ht]
    have m := cu_mono hE ⟨g2, g3⟩ g4 (i := g + 1) (k - (g + 1)) (by omega)
    rw [show g + 1 + (k - (g + 1)) = k by omega] at m
    have := r k (by omega)
    rw [h.2.2.1 _ (by omega)]
    exact inc _ _ (by omega) (by omega)
end SH
/-- at any call: rows of tones as they should be -/
theorem sh_is {nw L E C tF tn ca sa tnF ofF : Nat → Int} (hM : mOK nw) (hc : ca 0 = 0) (hs : sa 0 = 0) : shR (xLine (xTal (nP nw L E C) tF 81) (0, tn, ca, sa) 37) (mGa (mTal nw) (0, tnF, ofF) 37) ∧ ∀ x y : Int, hXY (nw 0) (nw 1) x y → ∃ i : Nat, (Nat.cast i : Int) < (mGa (mTal nw) (0, tnF, ofF) 37).1 ∧ (mGa (mTal nw) (0, tnF, ofF) 37).2.1 i = gTone (nw 0) (nw 1) (nG nw) x y (nQ nw (gQ (nw 0) (nw 1) x y).toNat) := by
  have e : xLine (xTal (nP nw L E C) tF 81) (0, tn, ca, sa) 37 = xLine (mTal nw) (0, tn, ca, sa) 37 := xLine_c 37 (fun k hk => by
    unfold xTal mTal
    rw [if_pos hk]
    rfl)
  rw [e]
  have ht : ∀ k : Nat, k < 37 → 0 ≤ mTal nw k ∧ mTal nw k ≤ 81 := fun k _ => mTal_r nw k
  have h81 : sumN (mTal nw) 37 ≤ 81 := by
    have := tal_sum (A := fun c => gIn (nw 0) (nw 1) (Nat.cast c : Int)) (f := fun c => mTone nw ((Nat.cast c : Int) % 9) ((Nat.cast c : Int) / 9) + 18) (fun c _ => by have := gTone_r hM.1 ((Nat.cast c : Int) % 9) ((Nat.cast c : Int) / 9) (nQ nw (gQ (nw 0) (nw 1) ((Nat.cast c : Int) % 9) ((Nat.cast c : Int) / 9)).toNat); show 0 ≤ gTone (nw 0) (nw 1) (nG nw) ((Nat.cast c : Int) % 9) ((Nat.cast c : Int) / 9) (nQ nw (gQ (nw 0) (nw 1) ((Nat.cast c : Int) % 9) ((Nat.cast c : Int) / 9)).toNat) + 18; omega) 37
    have e2 : sumN (mTal nw) 37 = sumN (fun c => bP (gIn (nw 0) (nw 1) (Nat.cast c : Int) ∧ mTone nw ((Nat.cast c : Int) % 9) ((Nat.cast c : Int) / 9) + 18 < (Nat.cast 37 : Int))) 81 := this
    rw [e2]
    have := sumN_r (P := fun c => gIn (nw 0) (nw 1) (Nat.cast c : Int) ∧ mTone nw ((Nat.cast c : Int) % 9) ((Nat.cast c : Int) / 9) + 18 < (Nat.cast 37 : Int)) 81
    omega
  have hW := hM.1.2.1
  have hH := hM.1.2.2.2.1
  obtain ⟨i1, i2, i4, i5, i6, i7, i8⟩ := gat (tn0 := tn) (tnF := tnF) (ofF := ofF) ht hc hs 37 (Nat.le_refl _)
  refine ⟨⟨ga_oOK (tn0 := tn) ht hc hs h81, i1, fun k hk => (i4 k hk).1, i6⟩, fun x y hxy => ?_⟩
  have tr := gTone_r hM.1 x y (nQ nw (gQ (nw 0) (nw 1) x y).toNat)
  have ex : ((9 * y + x).toNat : Int) % 9 = x := by omega
  have ey : ((9 * y + x).toNat : Int) / 9 = y := by omega
  obtain ⟨i, a, b⟩ := i8 (gTone (nw 0) (nw 1) (nG nw) x y (nQ nw (gQ (nw 0) (nw 1) x y).toNat) + 18).toNat (by omega) (by
    have : 1 ≤ mTal nw (gTone (nw 0) (nw 1) (nG nw) x y (nQ nw (gQ (nw 0) (nw 1) x y).toNat) + 18).toNat := by
      unfold mTal
      refine sumN_b1 (P := fun c => gIn (nw 0) (nw 1) (Nat.cast c : Int) ∧ mTp nw (gTone (nw 0) (nw 1) (nG nw) x y (nQ nw (gQ (nw 0) (nw 1) x y).toNat) + 18).toNat c) (k := (9 * y + x).toNat) (by omega) ⟨?_, ?_⟩
      · refine ⟨by omega, ?_⟩
        rw [ex, ey]; exact hxy
      · refine mTp_i ?_
        rw [ex, ey]
        show gTone (nw 0) (nw 1) (nG nw) x y (nQ nw (gQ (nw 0) (nw 1) x y).toNat) = _
        omega
    omega)
  exact ⟨i, a, by rw [b]; omega⟩
