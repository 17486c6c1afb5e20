/-! the reference's strokes -/
def mOf (nw : Nat → Int) (c : Int) (t : Nat) : Prop := ∀ i : Nat, i < t → ¬ sNear (nL nw) (nCe nw) i c
theorem mOf_0 {nw : Nat → Int} {c : Int} : 1 = bP (mOf nw c 0) := (bP_t (fun i h => absurd h (Nat.not_lt_zero i))).symm
theorem mOf_i {nw : Nat → Int} {c : Int} {t : Nat} : bP (mOf nw c t) = bP (mOf nw c t ∧ ¬ mNr nw t c 0) := bP_c ⟨fun h => ⟨h, fun ⟨k, a, _⟩ => absurd a (Nat.not_lt_zero k)⟩, fun h => h.1⟩
theorem mOf_s {nw : Nat → Int} {c : Int} {t j : Nat} (h : (Nat.cast j : Int) = nL nw t) : bP (mOf nw c t ∧ ¬ mNr nw t c j) = bP (mOf nw c (t + 1)) := by
  refine bP_c ⟨fun q => all_s q.1 (fun r => q.2 ((mNr_all h).mpr r)), fun q => ⟨fun i hi => q i (by omega), fun r => q t (by omega) ((mNr_all h).mp r)⟩⟩
theorem mOf_e {nw : Nat → Int} {c st : Int} {t : Nat} (h : (Nat.cast t : Int) = st) : bP (mOf nw c t) = bP (sOff st (nL nw) (nCe nw) c) := bP_c ⟨fun q i hi => q i (by omega), fun q i hi => q i (by omega)⟩
noncomputable def mWhy (nw : Nat → Int) (c : Int) : Int := if gNext (nw 0) (nw 1) (nG nw) c = -1 then 1 else if bP (gCrest (nw 0) (nw 1) (nG nw) (c % 9) (c / 9) (-1)) = 1 then 2 else if bP (sOff (nw 88) (nL nw) (nCe nw) c) = 0 then 3 else if bP (sOff (nw 88) (nL nw) (nCe nw) (gNext (nw 0) (nw 1) (nG nw) c)) = 1 then 0 else 4
theorem mWhy_r (nw : Nat → Int) (c : Int) : 0 ≤ mWhy nw c ∧ mWhy nw c ≤ 4 := by
  unfold mWhy
  split
  · omega
  · split
    · omega
    · split
      · omega
      · split <;> omega
section MW
variable {nw : Nat → Int} {x y : Int}
theorem mWhy_1 (hx : 0 ≤ x ∧ x < 9) (h : gDown (nw 0) (nw 1) (nG nw) x y = -1) : 1 = mWhy nw (9 * y + x) := by
  unfold mWhy; rw [if_pos (gNext_no hx h)]
theorem mWhy_2 (hG : gOK (nw 0) (nw 1) (nG nw)) (hx : 0 ≤ x ∧ x < 9) (h : ¬ gDown (nw 0) (nw 1) (nG nw) x y = -1) (h2 : gCrest (nw 0) (nw 1) (nG nw) x y (-1)) : 2 = mWhy nw (9 * y + x) := by
  unfold mWhy; rw [if_neg (gNext_nn hG hx h), c9m hx, c9d hx, if_pos (bP_t h2)]
theorem mWhy_3 (hG : gOK (nw 0) (nw 1) (nG nw)) (hx : 0 ≤ x ∧ x < 9) (h : ¬ gDown (nw 0) (nw 1) (nG nw) x y = -1) (h2 : ¬ gCrest (nw 0) (nw 1) (nG nw) x y (-1)) (h3 : ¬ sOff (nw 88) (nL nw) (nCe nw) (9 * y + x)) : 3 = mWhy nw (9 * y + x) := by
  unfold mWhy; rw [if_neg (gNext_nn hG hx h), c9m hx, c9d hx, if_neg (by rw [bP_f h2]; omega), if_pos (bP_f h3)]
theorem mWhy_4 (hG : gOK (nw 0) (nw 1) (nG nw)) (hx : 0 ≤ x ∧ x < 9) (h : ¬ gDown (nw 0) (nw 1) (nG nw) x y = -1) (h2 : ¬ gCrest (nw 0) (nw 1) (nG nw) x y (-1)) (h3 : sOff (nw 88) (nL nw) (nCe nw) (9 * y + x)) (h4 : ¬ sOff (nw 88) (nL nw) (nCe nw) (9 * (y + zB (gDown (nw 0) (nw 1) (nG nw) x y).toNat) + (x + zR (gDown (nw 0) (nw 1) (nG nw) x y).toNat))) : 4 = mWhy nw (9 * y + x) := by
  unfold mWhy; rw [if_neg (gNext_nn hG hx h), c9m hx, c9d hx, if_neg (by rw [bP_f h2]; omega), if_neg (by rw [bP_t h3]; omega), gNext_xy hx h, if_neg (by rw [bP_f h4]; omega)]
theorem mWhy_0 (hG : gOK (nw 0) (nw 1) (nG nw)) (hx : 0 ≤ x ∧ x < 9) (h : ¬ gDown (nw 0) (nw 1) (nG nw) x y = -1) (h2 : ¬ gCrest (nw 0) (nw 1) (nG nw) x y (-1)) (h3 : sOff (nw 88) (nL nw) (nCe nw) (9 * y + x)) (h4 : sOff (nw 88) (nL nw) (nCe nw) (9 * (y + zB (gDown (nw 0) (nw 1) (nG nw) x y).toNat) + (x + zR (gDown (nw 0) (nw 1) (nG nw) x y).toNat))) : 0 = mWhy nw (9 * y + x) := by
  unfold mWhy; rw [if_neg (gNext_nn hG hx h), c9m hx, c9d hx, if_neg (by rw [bP_f h2]; omega), if_neg (by rw [bP_t h3]; omega), gNext_xy hx h, if_pos (bP_t h4)]
end MW
abbrev mNx (nw : Nat → Int) : Int → Int := fun z => gNext (nw 0) (nw 1) (nG nw) z
noncomputable def mGo (nw : Nat → Int) (c : Int) : Nat × Int := sGo (nw 88) (nL nw) (nCe nw) (mNx nw) 6 0 c
noncomputable def mDr (nw : Nat → Int) (c : Int) : Nat → Int := uI (uI (uI (sPut nw (89 + 8 * (nw 88).toNat) (mGo nw c).1 (gWk (mNx nw) c)) ((89 + 8 * (nw 88).toNat) + 6) (Nat.cast (mGo nw c).1 : Int)) ((89 + 8 * (nw 88).toNat) + 7) (mGo nw c).2) 88 (nw 88 + 1)
theorem sPut_hi {g f : Nat → Int} {a j k : Nat} (h : a + j ≤ k) : sPut g a j f k = g k := by unfold sPut; rw [if_neg (by omega)]
section MP
variable {nw f : Nat → Int} {j : Nat}
theorem mP_lo (k : Nat) (h : k < 89) : sPut nw (89 + 8 * (nw 88).toNat) j f k = nw k := sPut_out (by omega)
theorem mP_G : nG (sPut nw (89 + 8 * (nw 88).toNat) j f) = nG nw := by
  funext k; unfold nG; split
  · exact mP_lo _ (by omega)
  · rfl
theorem mP_Q : nQ (sPut nw (89 + 8 * (nw 88).toNat) j f) = nQ nw := by
  funext k; unfold nQ; split
  · exact mP_lo _ (by omega)
  · rfl
theorem mP_L (hj : j ≤ 6) : nL (sPut nw (89 + 8 * (nw 88).toNat) j f) = nL nw := by
  funext k; unfold nL; split
  · by_cases q : 95 + 8 * k < (89 + 8 * (nw 88).toNat)
    · exact sPut_out q
    · exact sPut_hi (by omega)
  · rfl
theorem mP_ok (h : mOK nw) (hj : j ≤ 6) (hf : ∀ i : Nat, i < j → 0 ≤ f i ∧ f i < 81) : mOK (sPut nw (89 + 8 * (nw 88).toNat) j f) := by
  obtain ⟨hG, hW, hn, hL, hQ, h6, h8⟩ := h
  refine ⟨?_, ?_, ?_, ?_, ?_, ?_, fun k hk => ?_⟩
  · rw [mP_G, mP_lo 0 (by omega), mP_lo 1 (by omega)]; exact hG
  · rw [mP_lo 0 (by omega), mP_lo 1 (by omega)]; exact hW
  · rw [mP_lo 88 (by omega)]; exact hn
  · rw [mP_L hj]; exact hL
  · rw [mP_Q]; exact hQ
  · rw [mP_lo 6 (by omega)]; exact h6
  · unfold sPut
    split
    · have := hf (k - (89 + 8 * (nw 88).toNat)) (by omega); omega
    · exact h8 k hk
theorem mP_near (hj : j ≤ 6) (hl : ∀ k : Nat, nL nw k ≤ 6) {t : Nat} {c : Int} (ht : (Nat.cast t : Int) < nw 88) : sNear (nL (sPut nw (89 + 8 * (nw 88).toNat) j f)) (nCe (sPut nw (89 + 8 * (nw 88).toNat) j f)) t c ↔ sNear (nL nw) (nCe nw) t c := by
  rw [mP_L hj]
  have e : ∀ k : Nat, (Nat.cast k : Int) < nL nw t → nCe (sPut nw (89 + 8 * (nw 88).toNat) j f) t k = nCe nw t k := fun k hk => by
    have := hl t
    unfold nCe
    exact sPut_out (by omega)
  unfold sNear
  exact ⟨fun ⟨k, a, b⟩ => ⟨k, a, by rw [e k a] at b; exact b⟩, fun ⟨k, a, b⟩ => ⟨k, a, by rw [e k a]; exact b⟩⟩
theorem mP_off (hj : j ≤ 6) (hl : ∀ k : Nat, nL nw k ≤ 6) {c : Int} : sOff (nw 88) (nL (sPut nw (89 + 8 * (nw 88).toNat) j f)) (nCe (sPut nw (89 + 8 * (nw 88).toNat) j f)) c ↔ sOff (nw 88) (nL nw) (nCe nw) c := by
  unfold sOff
  exact ⟨fun h t ht q => h t ht ((mP_near hj hl ht).mpr q), fun h t ht q => h t ht ((mP_near hj hl ht).mp q)⟩
end MP
theorem mGo_r {nw : Nat → Int} (h : mOK nw) {c : Int} (hc : 0 ≤ c ∧ c < 81) : (mGo nw c).1 ≤ 6 ∧ (∀ i : Nat, i < (mGo nw c).1 → 0 ≤ gWk (mNx nw) c i ∧ gWk (mNx nw) c i < 81) := by
  obtain ⟨a1, a2, a3⟩ := sGo_r (n := nw 88) (lF := nL nw) (tF := nCe nw) (nx := mNx nw) (fun z => gNext_r h.1 z) 6 0 c hc
  exact ⟨by unfold mGo; omega, fun i hi => a3 i (by unfold mGo at hi; omega)⟩
theorem sGo_e {n : Int} {lF : Nat → Int} {tF : Nat → Nat → Int} {nx : Int → Int} (f : Nat) : ∀ (j : Nat) (c : Int), 0 ≤ (sGo n lF tF nx f j c).2 ∧ (sGo n lF tF nx f j c).2 ≤ 3 := by
  induction f with
  | zero => intro j c; simp [sGo]
  | succ f ih =>
    intro j c
    simp only [sGo]
    split
    · exact ih _ _
    · exact sEnd_r _ _ _ _ _
theorem mDr_lo {nw : Nat → Int} {c : Int} {k : Nat} (h : k < 88) : mDr nw c k = nw k := by
  unfold mDr
  rw [uI_ne _ _ (by omega), uI_ne _ _ (by omega), uI_ne _ _ (by omega), mP_lo _ (by omega)]
theorem mDr_88 (nw : Nat → Int) (c : Int) : mDr nw c 88 = nw 88 + 1 := by unfold mDr; exact uI_same _ _ _
theorem mOK_dr {nw : Nat → Int} (h : mOK nw) {c : Int} (hc : 0 ≤ c ∧ c < 81) (hn : nw 88 < 20) : mOK (mDr nw c) := by
  obtain ⟨g1, g2⟩ := mGo_r h hc
  have g3 := sGo_e (n := nw 88) (lF := nL nw) (tF := nCe nw) (nx := mNx nw) 6 0 c
  have hp := mP_ok h g1 g2
  obtain ⟨hG, hW, hn8, hL, hQ, h6, h8⟩ := h
  have eG : nG (mDr nw c) = nG nw := by
    funext k; unfold nG; split
    · exact mDr_lo (by omega)
    · rfl
  have eQ : nQ (mDr nw c) = nQ nw := by
    funext k; unfold nQ; split
    · exact mDr_lo (by omega)
    · rfl
  refine ⟨?_, ?_, ?_, fun k => ?_, ?_, ?_, fun k hk => ?_⟩
  · rw [eG, mDr_lo (k := 0) (by omega), mDr_lo (k := 1) (by omega)]; exact hG
  · rw [mDr_lo (k := 0) (by omega), mDr_lo (k := 1) (by omega)]; exact hW
  · rw [mDr_88]; omega
  · have q := hp.2.2.2.1 k
    unfold nL at q ⊢
    split
    · rw [if_pos (by assumption)] at q
      unfold mDr
      rw [uI_ne _ _ (by omega), uI_ne _ _ (by omega)]
      unfold uI
      split
      · omega
      · exact q
    · omega
  · rw [eQ]; exact hQ
  · rw [mDr_lo (k := 6) (by omega)]; exact h6
  · have q := hp.2.2.2.2.2.2 k hk
    unfold mDr
    unfold uI
    split
    · omega
    · split
      · unfold mGo; omega
      · split
        · omega
        · exact q
noncomputable def mDw (un : Int) (bf nw : Nat → Int) (x y : Int) : mS4 := if hXY (nw 0) (nw 1) x y then (if mWhy nw (9 * y + x) = 0 then (if nw 88 = 20 then (-3, un, bf, nw) else (nw 88 + 1 - 1, (mNt un bf nw).1, (mNt un bf nw).2, mDr nw (9 * y + x))) else (-2, un, bf, nw)) else (-1, un, bf, nw)
section MD
variable {un : Int} {bf nw : Nat → Int} {x y : Int}
theorem mDw_b (h : ¬ hXY (nw 0) (nw 1) x y) : mDw un bf nw x y = (-1, un, bf, nw) := by unfold mDw; rw [if_neg h]
theorem mDw_n (h : hXY (nw 0) (nw 1) x y) (h2 : ¬ mWhy nw (9 * y + x) = 0) : mDw un bf nw x y = (-2, un, bf, nw) := by unfold mDw; rw [if_pos h, if_neg h2]
theorem mDw_f (h : hXY (nw 0) (nw 1) x y) (h2 : mWhy nw (9 * y + x) = 0) (h3 : nw 88 = 20) : mDw un bf nw x y = (-3, un, bf, nw) := by unfold mDw; rw [if_pos h, if_pos h2, if_pos h3]
theorem mDw_k (h : hXY (nw 0) (nw 1) x y) (h2 : mWhy nw (9 * y + x) = 0) (h3 : ¬ nw 88 = 20) : mDw un bf nw x y = (nw 88 + 1 - 1, (mNt un bf nw).1, (mNt un bf nw).2, mDr nw (9 * y + x)) := by unfold mDw; rw [if_pos h, if_pos h2, if_neg h3]
end MD
def mRu (un : Int) (bf nw : Nat → Int) (t : Int) : mS4 := if 0 ≤ t ∧ t < nw 88 then (nw 88 - 1, (mNt un bf nw).1, (mNt un bf nw).2, mRb nw t.toNat) else (-1, un, bf, nw)
theorem mRu_t {un : Int} {bf nw : Nat → Int} {t : Int} (h : 0 ≤ t ∧ t < nw 88) : mRu un bf nw t = (nw 88 - 1, (mNt un bf nw).1, (mNt un bf nw).2, mRb nw t.toNat) := by unfold mRu; rw [if_pos h]
theorem mRu_f {un : Int} {bf nw : Nat → Int} {t : Int} (h : ¬ (0 ≤ t ∧ t < nw 88)) : mRu un bf nw t = (-1, un, bf, nw) := by unfold mRu; rw [if_neg h]
/-- the steepest beginning among the first n cells -/
def mMay (nw : Nat → Int) (n : Nat) : Prop := gIn (nw 0) (nw 1) (Nat.cast n : Int) ∧ mWhy nw (Nat.cast n : Int) = 0
noncomputable def mBs (nw : Nat → Int) : Nat → Int
  | 0 => -4
  | n + 1 => if bP (mMay nw n ∧ (mBs nw n = -4 ∨ gSteep (nw 0) (nw 1) (nG nw) (mBs nw n % 9) (mBs nw n / 9) < gSteep (nw 0) (nw 1) (nG nw) ((Nat.cast n : Int) % 9) ((Nat.cast n : Int) / 9))) = 1 then (Nat.cast n : Int) else mBs nw n
theorem mBs_t {nw : Nat → Int} {n : Nat} (h : mMay nw n) (h2 : mBs nw n = -4 ∨ gSteep (nw 0) (nw 1) (nG nw) (mBs nw n % 9) (mBs nw n / 9) < gSteep (nw 0) (nw 1) (nG nw) ((Nat.cast n : Int) % 9) ((Nat.cast n : Int) / 9)) : (Nat.cast n : Int) = mBs nw (n + 1) := by simp only [mBs]; rw [if_pos (bP_t ⟨h, h2⟩)]
theorem mBs_f {nw : Nat → Int} {n : Nat} (h : ¬ (mMay nw n ∧ (mBs nw n = -4 ∨ gSteep (nw 0) (nw 1) (nG nw) (mBs nw n % 9) (mBs nw n / 9) < gSteep (nw 0) (nw 1) (nG nw) ((Nat.cast n : Int) % 9) ((Nat.cast n : Int) / 9)))) : mBs nw n = mBs nw (n + 1) := by simp only [mBs]; rw [if_neg (by rw [bP_f h]; omega)]
theorem mBs_r (nw : Nat → Int) (n : Nat) : mBs nw n = -4 ∨ (0 ≤ mBs nw n ∧ mBs nw n < n ∧ mMay nw (mBs nw n).toNat) := by
  induction n with
  | zero => exact Or.inl rfl
  | succ n ih =>
    by_cases q : mMay nw n ∧ (mBs nw n = -4 ∨ gSteep (nw 0) (nw 1) (nG nw) (mBs nw n % 9) (mBs nw n / 9) < gSteep (nw 0) (nw 1) (nG nw) ((Nat.cast n : Int) % 9) ((Nat.cast n : Int) / 9))
    · rw [← mBs_t q.1 q.2]
      right
      refine ⟨by omega, by omega, ?_⟩
      rw [cst0]; exact q.1
    · rw [← mBs_f q]
      rcases ih with a | ⟨a, b, d⟩
      · exact Or.inl a
      · exact Or.inr ⟨a, by omega, d⟩
noncomputable def mHa : Nat → (Nat → Int) → (Nat → Int)
  | 0, nw => nw
  | f + 1, nw => if nw 88 < 20 ∧ ¬ mBs nw 81 = -4 then mHa f (mDr nw (mBs nw 81)) else nw
theorem mHa_e {f : Nat} {nw : Nat → Int} (h : ¬ (nw 88 < 20 ∧ ¬ mBs nw 81 = -4)) : mHa f nw = nw := by
  cases f with
  | zero => rfl
  | succ f => simp only [mHa]; rw [if_neg h]
theorem mHa_s {f : Nat} {nw : Nat → Int} (hf : 0 < f) (h : nw 88 < 20 ∧ ¬ mBs nw 81 = -4) : mHa f nw = mHa (f - 1) (mDr nw (mBs nw 81)) := by
  obtain ⟨k, rfl⟩ : ∃ k, f = k + 1 := ⟨f - 1, by omega⟩
  simp only [mHa]; rw [if_pos h]; rfl
def mStk (nw : Nat → Int) (t k : Int) : Int := if (0 ≤ t ∧ t < nw 88) ∧ -3 ≤ k then (if k = -1 then nL nw t.toNat else if k = -2 then nE nw t.toNat else if k = -3 then nG nw (nCe nw t.toNat 0).toNat - nG nw (nw (89 + 8 * t + nL nw t.toNat - 1).toNat).toNat else if k < nL nw t.toNat then nCe nw t.toNat k.toNat else -4) else -1
noncomputable def mSo (nw : Nat → Int) (wh : Int) (k : Nat) : Int := if gIn (nw 0) (nw 1) (Nat.cast k : Int) then (if wh = 5 then bP (gCrest (nw 0) (nw 1) (nG nw) ((Nat.cast k : Int) % 9) ((Nat.cast k : Int) / 9) 1) else if wh = 6 then bP (gCrest (nw 0) (nw 1) (nG nw) ((Nat.cast k : Int) % 9) ((Nat.cast k : Int) / 9) (-1)) else if wh = 7 then bP (gDown (nw 0) (nw 1) (nG nw) ((Nat.cast k : Int) % 9) ((Nat.cast k : Int) / 9) = -1) else gAt (nG nw) ((Nat.cast k : Int) % 9) ((Nat.cast k : Int) / 9)) else 0
noncomputable def mCt (nw : Nat → Int) (un kn wh : Int) : Int := if wh = 0 then nw 0 else if wh = 1 then nw 1 else if wh = 2 then nw 6 else if wh = 3 then nw 88 else if wh = 4 then sumN (nL nw) (nw 88).toNat else if wh = 5 then sumN (mSo nw 5) 81 else if wh = 6 then sumN (mSo nw 6) 81 else if wh = 7 then sumN (mSo nw 7) 81 else if wh = 8 then un else if wh = 9 then kn else if wh = 10 then sumN (mSo nw 10) 81 else -1
noncomputable def mCel (nw : Nat → Int) (x y wh : Int) : Int := if hXY (nw 0) (nw 1) x y then (if wh = 0 then gAt (nG nw) x y else if wh = 1 then gEast (nw 0) (nw 1) (nG nw) x y + 100 else if wh = 2 then gSouth (nw 0) (nw 1) (nG nw) x y + 100 else if wh = 3 then gSteep (nw 0) (nw 1) (nG nw) x y else if wh = 4 then cNone (gDown (nw 0) (nw 1) (nG nw) x y) else if wh = 5 then bP (gCrest (nw 0) (nw 1) (nG nw) x y 1) else if wh = 6 then bP (gCrest (nw 0) (nw 1) (nG nw) x y (-1)) else if wh = 7 then gQ (nw 0) (nw 1) x y else if wh = 8 then gTone (nw 0) (nw 1) (nG nw) x y (nQ nw (gQ (nw 0) (nw 1) x y).toNat) + 100 else -1) else -1
theorem nE_at {nw : Nat → Int} {t : Int} (h : 0 ≤ t ∧ t < 20) : nw ((89 + (8 * t)) + 7).toNat = nE nw t.toNat := by
  unfold nE; rw [if_pos (by omega), show ((89 + (8 * t)) + 7).toNat = 96 + 8 * t.toNat by omega]
theorem nL_at' {nw : Nat → Int} {t : Int} (h : 0 ≤ t ∧ t < 20) : nw ((89 + (8 * t)) + 6).toNat = nL nw t.toNat := by
  unfold nL; rw [if_pos (by omega), show ((89 + (8 * t)) + 6).toNat = 95 + 8 * t.toNat by omega]
theorem nG_c {nw : Nat → Int} {v : Int} (h : 0 ≤ v ∧ v ≤ 80) : nw (7 + v).toNat = nG nw v.toNat := by
  unfold nG; rw [if_pos (by omega), show (7 + v).toNat = 7 + v.toNat by omega]
theorem sumN_b {f : Nat → Int} {lo hi : Int} (h : ∀ k : Nat, lo ≤ f k ∧ f k ≤ hi) (hl : 0 ≤ hi ∧ lo ≤ 0) (n : Nat) (hn : n ≤ 100) : 100 * lo ≤ sumN f n ∧ sumN f n ≤ 100 * hi := by
  have : (Nat.cast n : Int) * lo ≤ sumN f n ∧ sumN f n ≤ (Nat.cast n : Int) * hi := by
    clear hn
    induction n with
    | zero => simp [sumN]
    | succ n ih =>
      have := h n
      simp only [sumN]
      rw [show (Nat.cast (n + 1) : Int) = (Nat.cast n : Int) + 1 by omega, Int.add_mul, Int.add_mul]
      omega
  have a : (Nat.cast n : Int) * hi ≤ 100 * hi := Int.mul_le_mul_of_nonneg_right (by omega) hl.1
  have b : 100 * lo ≤ (Nat.cast n : Int) * lo := by
    have := Int.mul_le_mul_of_nonneg_right (a := (Nat.cast n : Int)) (b := 100) (c := -lo) (by omega) (by omega)
    rw [Int.mul_neg, Int.mul_neg] at this
    omega
  omega
theorem mSo_r {nw : Nat → Int} (h : mOK nw) (wh : Int) (k : Nat) : 0 ≤ mSo nw wh k ∧ mSo nw wh k ≤ 9 := by
  have a := bP_r (gCrest (nw 0) (nw 1) (nG nw) ((Nat.cast k : Int) % 9) ((Nat.cast k : Int) / 9) 1)
  have b := bP_r (gCrest (nw 0) (nw 1) (nG nw) ((Nat.cast k : Int) % 9) ((Nat.cast k : Int) / 9) (-1))
  have d := bP_r (gDown (nw 0) (nw 1) (nG nw) ((Nat.cast k : Int) % 9) ((Nat.cast k : Int) / 9) = -1)
  have f := gAt_r h.1 ((Nat.cast k : Int) % 9) ((Nat.cast k : Int) / 9)
  unfold mSo
  repeat' split
  all_goals omega
