/-! a stroke drawn, hatched; what can be undone -/
section DR
variable {nw L E C : Nat → Int}
theorem sGo_1 {n : Int} {lF : Nat → Int} {tF : Nat → Nat → Int} {nx : Int → Int} (f : Nat) : ∀ (j : Nat) (c : Int), 0 < f → j + 1 ≤ (sGo n lF tF nx f j c).1 := by
  induction f with
  | zero => intro j c h; omega
  | succ f ih =>
    intro j c _
    simp only [sGo]
    split
    · by_cases hf : 0 < f
      · have := ih (j + 1) (nx c) hf; omega
      · have : f = 0 := by omega
        subst this
        simp [sGo]
    · simp
theorem pGo_eq (h : sEq (nw 88) L E C nw) (c : Int) : pGo (nP nw L E C) c = mGo nw c := sGo_eq h _ 6 0 c
theorem add_eq (h : sEq (nw 88) L E C nw) (c : Int) : pAdd c (nP nw L E C) = nP (mDr nw c) (uI L (nw 88).toNat (Nat.cast (mGo nw c).1 : Int)) (uI E (nw 88).toNat (mGo nw c).2) (sPut C (6 * (nw 88).toNat) (mGo nw c).1 (gWk (mNx nw) c)) := by
  have eG : nG (mDr nw c) = nG nw := by
    funext k; unfold nG; split
    · exact mDr_lo (by omega)
    · rfl
  have eQ : nQ (mDr nw c) = nQ nw := by
    funext k; unfold nQ; split
    · exact mDr_lo (by omega)
    · rfl
  unfold pAdd
  rw [pGo_eq h]
  unfold nP
  rw [eG, eQ, mDr_lo (k := 0) (by omega), mDr_lo (k := 1) (by omega), mDr_lo (k := 6) (by omega), mDr_88]
  rfl
theorem mDr_old {c : Int} (hM : mOK nw) (hc : 0 ≤ c ∧ c < 81) (hn : nw 88 < 20) {t : Nat} (ht : (Nat.cast t : Int) < nw 88) : nL (mDr nw c) t = nL nw t ∧ nE (mDr nw c) t = nE nw t ∧ ∀ k : Nat, k < 6 → nCe (mDr nw c) t k = nCe nw t k := by
  obtain ⟨g1, -⟩ := mGo_r hM hc
  have lo : ∀ k : Nat, 88 < k → k < 89 + 8 * (nw 88).toNat → mDr nw c k = nw k := fun k h1 h2 => by
    unfold mDr
    rw [uI_ne _ _ (by omega), uI_ne _ _ (by omega), uI_ne _ _ (by omega)]
    exact sPut_out h2
  refine ⟨?_, ?_, fun k hk => ?_⟩
  · unfold nL; rw [if_pos (by omega), if_pos (by omega)]; exact lo _ (by omega) (by omega)
  · unfold nE; rw [if_pos (by omega), if_pos (by omega)]; exact lo _ (by omega) (by omega)
  · unfold nCe; exact lo _ (by omega) (by omega)
theorem mDr_new {c : Int} (hM : mOK nw) (hc : 0 ≤ c ∧ c < 81) (hn : nw 88 < 20) : nL (mDr nw c) (nw 88).toNat = (Nat.cast (mGo nw c).1 : Int) ∧ nE (mDr nw c) (nw 88).toNat = (mGo nw c).2 ∧ ∀ k : Nat, k < (mGo nw c).1 → nCe (mDr nw c) (nw 88).toNat k = gWk (mNx nw) c k := by
  obtain ⟨g1, -⟩ := mGo_r hM hc
  have h0 := hM.2.2.1.1
  refine ⟨?_, ?_, fun k hk => ?_⟩
  · unfold nL; rw [if_pos (by omega)]
    unfold mDr
    rw [uI_ne _ _ (by omega), uI_ne _ _ (by omega), show 95 + 8 * (nw 88).toNat = 89 + 8 * (nw 88).toNat + 6 by omega, uI_same]
  · unfold nE; rw [if_pos (by omega)]
    unfold mDr
    rw [uI_ne _ _ (by omega), show 96 + 8 * (nw 88).toNat = 89 + 8 * (nw 88).toNat + 7 by omega, uI_same]
  · unfold nCe mDr
    rw [uI_ne _ _ (by omega), uI_ne _ _ (by omega), uI_ne _ _ (by omega)]
    exact sPut_in hk
theorem dr_sEq (h : sEq (nw 88) L E C nw) (hs : sOK (nw 88) L C) (hM : mOK nw) {c : Int} (hc : 0 ≤ c ∧ c < 81) (hn : nw 88 < 20) : sEq (nw 88 + 1) (uI L (nw 88).toNat (Nat.cast (mGo nw c).1 : Int)) (uI E (nw 88).toNat (mGo nw c).2) (sPut C (6 * (nw 88).toNat) (mGo nw c).1 (gWk (mNx nw) c)) (mDr nw c) := fun t ht => by
  have h0 := hM.2.2.1.1
  by_cases q : t = (nw 88).toNat
  · subst q
    obtain ⟨a, b, d⟩ := mDr_new hM hc hn
    rw [uI_same, uI_same, a, b]
    refine ⟨rfl, rfl, fun k hk => ?_⟩
    rw [d k (by omega)]
    exact sPut_in (by omega)
  · obtain ⟨a, b, d⟩ := mDr_old hM hc hn (t := t) (by omega)
    obtain ⟨x, y, z⟩ := h t (by omega)
    have hl := (hs.2.2.1 t).2
    rw [uI_ne _ _ q, uI_ne _ _ q, a, b]
    refine ⟨x, y, fun k hk => ?_⟩
    rw [d k (by omega), sPut_out (by omega)]
    exact z k hk
theorem mOne_dr (hM : mOK nw) (hO : mOne nw) {c : Int} (hc : 0 ≤ c ∧ c < 81) (hn : nw 88 < 20) : mOne (mDr nw c) := fun t ht => by
  rw [mDr_88] at ht
  have h0 := hM.2.2.1.1
  by_cases q : t = (nw 88).toNat
  · subst q
    rw [(mDr_new hM hc hn).1]
    have := sGo_1 (n := nw 88) (lF := nL nw) (tF := nCe nw) (nx := mNx nw) 6 0 c (by omega)
    unfold mGo
    omega
  · rw [(mDr_old hM hc hn (t := t) (by omega)).1]
    exact hO t (by omega)
theorem dr_all (h : sEq (nw 88) L E C nw) (hs : sOK (nw 88) L C) (hM : mOK nw) (hO : mOne nw) {c : Int} (hc : 0 ≤ c ∧ c < 81) (hn : nw 88 < 20) : ∃ L2 E2 C2 : Nat → Int, pAdd c (nP nw L E C) = nP (mDr nw c) L2 E2 C2 ∧ sEq (mDr nw c 88) L2 E2 C2 (mDr nw c) ∧ sOK (mDr nw c 88) L2 C2 ∧ mOK (mDr nw c) ∧ mOne (mDr nw c) := by
  refine ⟨_, _, _, add_eq h c, ?_, ?_, mOK_dr hM hc hn, mOne_dr hM hO hc hn⟩
  · rw [mDr_88]; exact dr_sEq h hs hM hc hn
  · have := (pOK_add (nP_ok (E := E) hs hM) hc hn).2.1
    rw [add_eq h c] at this
    exact this
theorem ch_draw (h : sEq (nw 88) L E C nw) (hs : sOK (nw 88) L C) (hM : mOK nw) (hO : mOne nw) {c : Int} (hc : 0 ≤ c ∧ c < 81) (hn : nw 88 < 20) : rPic (pAdd c (nP nw L E C)) (mDr nw c) := by
  obtain ⟨L2, E2, C2, e, a, b, d, i⟩ := dr_all h hs hM hO hc hn
  rw [e]
  exact rPic_i a b d i
/-- the steepest beginning -/
theorem st_eq (h : sEq (nw 88) L E C nw) (hM : mOK nw) (n : Nat) : ((pSt (nP nw L E C) n).1 = -1 ∧ (pSt (nP nw L E C) n).2 = -1 ∧ mBs nw n = -4) ∨ ((pSt (nP nw L E C) n).1 = mBs nw n ∧ 0 ≤ mBs nw n ∧ (pSt (nP nw L E C) n).2 = gSteep (nw 0) (nw 1) (nG nw) (mBs nw n % 9) (mBs nw n / 9)) := by
  induction n with
  | zero => exact Or.inl ⟨rfl, rfl, rfl⟩
  | succ n ih =>
    have hst := gSteep_r hM.1 ((Nat.cast n : Int) % 9) ((Nat.cast n : Int) / 9)
    have e : pSt (nP nw L E C) (n + 1) = if gIn (nw 0) (nw 1) (Nat.cast n : Int) ∧ (pSt (nP nw L E C) n).2 < gSteep (nw 0) (nw 1) (nG nw) ((Nat.cast n : Int) % 9) ((Nat.cast n : Int) / 9) ∧ mWhy nw (Nat.cast n : Int) = 0 then ((Nat.cast n : Int), gSteep (nw 0) (nw 1) (nG nw) ((Nat.cast n : Int) % 9) ((Nat.cast n : Int) / 9)) else pSt (nP nw L E C) n := by
      rw [← an_why h]; rfl
    rw [e]
    by_cases q : mMay nw n
    · rcases ih with ⟨i1, i2, i3⟩ | ⟨i1, i2, i3⟩
      · rw [if_pos ⟨q.1, by omega, q.2⟩, ← mBs_t q (Or.inl i3)]
        right; exact ⟨rfl, by omega, rfl⟩
      · by_cases r : gSteep (nw 0) (nw 1) (nG nw) (mBs nw n % 9) (mBs nw n / 9) < gSteep (nw 0) (nw 1) (nG nw) ((Nat.cast n : Int) % 9) ((Nat.cast n : Int) / 9)
        · rw [if_pos ⟨q.1, by rw [i3]; exact r, q.2⟩, ← mBs_t q (Or.inr r)]
          right; exact ⟨rfl, by omega, rfl⟩
        · rw [if_neg (fun z => r (by rw [← i3]; exact z.2.1)), ← mBs_f (fun z => z.2.elim (fun y => by omega) r)]
          right; exact ⟨i1, i2, i3⟩
    · rw [if_neg (fun z => q ⟨z.1, z.2.2⟩), ← mBs_f (fun z => q z.1)]
      exact ih
theorem begin_eq (h : sEq (nw 88) L E C nw) (hM : mOK nw) : (pBegin (nP nw L E C) = -1 ∧ mBs nw 81 = -4) ∨ (pBegin (nP nw L E C) = mBs nw 81 ∧ ¬ mBs nw 81 = -4 ∧ 0 ≤ mBs nw 81 ∧ mBs nw 81 < 81) := by
  unfold pBegin
  rcases st_eq h hM 81 with ⟨a, -, b⟩ | ⟨a, b, -⟩
  · exact Or.inl ⟨a, b⟩
  · right
    rcases mBs_r nw 81 with q | ⟨q1, q2, -⟩
    · omega
    · exact ⟨a, by omega, b, by omega⟩
theorem ch_hatch (f : Nat) : ∀ (nw L E C : Nat → Int), sEq (nw 88) L E C nw → sOK (nw 88) L C → mOK nw → mOne nw → 20 - nw 88 ≤ (Nat.cast f : Int) → rPic (pHat (20 - (nw 88).toNat) (nP nw L E C)) (mHa f nw) ∧ pN (pHat (20 - (nw 88).toNat) (nP nw L E C)) = mHa f nw 88 := by
  induction f with
  | zero =>
    intro nw L E C h hs hM hO hf
    have := hM.2.2.1
    rw [show 20 - (nw 88).toNat = 0 by omega]
    exact ⟨rPic_i h hs hM hO, rfl⟩
  | succ f ih =>
    intro nw L E C h hs hM hO hf
    have h88 := hM.2.2.1
    by_cases hn : nw 88 < 20
    · rcases begin_eq h hM with ⟨a, b⟩ | ⟨a, b, b0, b1⟩
      · rw [pHat_n a, mHa_e (fun q => q.2 b)]
        exact ⟨rPic_i h hs hM hO, rfl⟩
      · rw [mHa_s (by omega) ⟨hn, b⟩, show f + 1 - 1 = f by omega]
        obtain ⟨L2, E2, C2, e, x1, x2, x3, x4⟩ := dr_all (c := mBs nw 81) h hs hM hO ⟨b0, b1⟩ hn
        have e2 : pHat (20 - (nw 88).toNat) (nP nw L E C) = pHat (20 - (mDr nw (mBs nw 81) 88).toNat) (nP (mDr nw (mBs nw 81)) L2 E2 C2) := by
          have := pHat_s (P := nP nw L E C) ⟨h88.1, hn⟩ (by rw [a]; omega)
          rw [a, e] at this
          exact this
        rw [e2]
        exact ih _ _ _ _ x1 x2 x3 x4 (by rw [mDr_88]; omega)
    · rw [mHa_e (fun q => hn q.1), show 20 - (nw 88).toNat = 0 by omega]
      exact ⟨rPic_i h hs hM hO, rfl⟩
end DR
/-- what can be undone: the ring and the row -/
def rPst (bs bn : Int) (K : Nat → pT) (un : Int) (bf : Nat → Int) : Prop := (0 ≤ bs ∧ bs ≤ 6) ∧ (0 ≤ bn ∧ bn < 6) ∧ un = bs ∧ (∀ i : Nat, pOK (K i)) ∧ ∀ i : Nat, (Nat.cast i : Int) < bs → rPic (K ((bn + 5 - (Nat.cast i : Int)) % 6).toNat) (mBk bf (bs - 1 - (Nat.cast i : Int)))
theorem ps_keep {bs bn : Int} {K : Nat → pT} {un : Int} {bf nw : Nat → Int} {P : pT} (h : rPst bs bn K un bf) (hP : pOK P) (hr : rPic P nw) : rPst (min (bs + 1) 6) ((bn + 1) % 6) (uG K bn.toNat (pCopy P (K bn.toNat))) (mNt un bf nw).1 (mNt un bf nw).2 := by
  obtain ⟨h1, h2, rfl, h4, h5⟩ := h
  refine ⟨by omega, by omega, ?_, fun i => ?_, fun i hi => ?_⟩
  · unfold mNt; split
    · simp only; omega
    · simp only; omega
  · unfold uG; split
    · exact pOK_copy (h4 _) hP
    · exact h4 i
  · by_cases i0 : i = 0
    · have e : (((un + 1 + (0 : Int) - un - 1 + (bn + 1) % 6) + 5 - (Nat.cast i : Int)) % 6).toNat = bn.toNat := by omega
      have e2 : (((bn + 1) % 6 + 5 - (Nat.cast i : Int)) % 6).toNat = bn.toNat := by omega
      rw [e2]
      have e3 : uG K bn.toNat (pCopy P (K bn.toNat)) bn.toNat = pCopy P (K bn.toNat) := by unfold uG; rw [if_pos rfl]
      rw [e3]
      refine rPic_c (fun k hk => ?_) (rPic_copy (h4 _) hr)
      unfold mNt
      by_cases q : un = 6
      · rw [if_pos q]
        show nw k = sPut (mShf bf 1245) 1245 249 nw (249 * (min (un + 1) 6 - 1 - (Nat.cast i : Int)).toNat + k)
        rw [show 249 * (min (un + 1) 6 - 1 - (Nat.cast i : Int)).toNat + k = 1245 + k by omega]
        exact (sPut_in hk).symm
      · rw [if_neg q]
        show nw k = sPut bf (249 * un).toNat 249 nw (249 * (min (un + 1) 6 - 1 - (Nat.cast i : Int)).toNat + k)
        rw [show 249 * (min (un + 1) 6 - 1 - (Nat.cast i : Int)).toNat + k = (249 * un).toNat + k by omega]
        exact (sPut_in hk).symm
    · have old := h5 (i - 1) (by omega)
      have e2 : (((bn + 1) % 6 + 5 - (Nat.cast i : Int)) % 6).toNat = ((bn + 5 - (Nat.cast (i - 1) : Int)) % 6).toNat := by omega
      rw [e2]
      have e3 : uG K bn.toNat (pCopy P (K bn.toNat)) ((bn + 5 - (Nat.cast (i - 1) : Int)) % 6).toNat = K ((bn + 5 - (Nat.cast (i - 1) : Int)) % 6).toNat := by unfold uG; rw [if_neg (by omega)]
      rw [e3]
      refine rPic_c (fun k hk => ?_) old
      unfold mNt
      by_cases q : un = 6
      · rw [if_pos q]
        show bf (249 * (un - 1 - (Nat.cast (i - 1) : Int)).toNat + k) = sPut (mShf bf 1245) 1245 249 nw (249 * (min (un + 1) 6 - 1 - (Nat.cast i : Int)).toNat + k)
        rw [sPut_out (by omega)]
        unfold mShf
        rw [if_pos (by omega)]
        congr 1; omega
      · rw [if_neg q]
        show bf (249 * (un - 1 - (Nat.cast (i - 1) : Int)).toNat + k) = sPut bf (249 * un).toNat 249 nw (249 * (min (un + 1) 6 - 1 - (Nat.cast i : Int)).toNat + k)
        rw [sPut_out (by omega)]
        congr 1; omega
theorem ps_undo {bs bn : Int} {K : Nat → pT} {un : Int} {bf nw : Nat → Int} {P : pT} (h : rPst bs bn K un bf) (hP : pOK P) (hb : ¬ bs = 0) : rPst (bs - 1) ((bn + 6 - 1) % 6) K (un - 1) bf ∧ rPic (pCopy (K ((bn + 6 - 1) % 6).toNat) P) (zTake 249 (mBk bf (un - 1)) nw) ∧ pOK (pCopy (K ((bn + 6 - 1) % 6).toNat) P) := by
  obtain ⟨h1, h2, rfl, h4, h5⟩ := h
  refine ⟨⟨by omega, by omega, rfl, h4, fun i hi => ?_⟩, ?_, pOK_copy hP (h4 _)⟩
  · have := h5 (i + 1) (by omega)
    rw [show (bn + 5 - (Nat.cast (i + 1) : Int)) % 6 = ((bn + 6 - 1) % 6 + 5 - (Nat.cast i : Int)) % 6 by omega, show un - 1 - (Nat.cast (i + 1) : Int) = un - 1 - 1 - (Nat.cast i : Int) by omega] at this
    exact this
  · have := h5 0 (by omega)
    rw [show (bn + 5 - (Nat.cast 0 : Int)) % 6 = (bn + 6 - 1) % 6 by omega, show un - 1 - (Nat.cast 0 : Int) = un - 1 by omega] at this
    exact rPic_c (fun k hk => by unfold zTake; rw [if_pos hk]) (rPic_copy hP this)
