/-! what the class's picture and the reference's row have in common -/
def nP (nw L E C : Nat → Int) : pT := (nw 0, nw 1, nG nw, nw 88, L, E, C, nQ nw, nw 6)
def sEq (n : Int) (L E C nw : Nat → Int) : Prop := ∀ t : Nat, (Nat.cast t : Int) < n → L t = nL nw t ∧ E t = nE nw t ∧ ∀ k : Nat, (Nat.cast k : Int) < L t → C (6 * t + k) = nCe nw t k
def mOne (nw : Nat → Int) : Prop := ∀ t : Nat, (Nat.cast t : Int) < nw 88 → 1 ≤ nL nw t
def pLike (P Q : pT) : Prop := pW P = pW Q ∧ pH P = pH Q ∧ (∀ k : Nat, k < 81 → pG P k = pG Q k) ∧ pN P = pN Q ∧ (∀ k : Nat, k < 20 → pL P k = pL Q k) ∧ (∀ k : Nat, k < 20 → pE P k = pE Q k) ∧ (∀ k : Nat, k < 120 → pC P k = pC Q k) ∧ (∀ k : Nat, k < 4 → pQ P k = pQ Q k) ∧ pS P = pS Q
def rPic (P : pT) (nw : Nat → Int) : Prop := ∃ L E C : Nat → Int, pLike P (nP nw L E C) ∧ sEq (nw 88) L E C nw ∧ sOK (nw 88) L C ∧ mOK nw ∧ mOne nw
theorem pLike.rf (P : pT) : pLike P P := ⟨rfl, rfl, fun _ _ => rfl, rfl, fun _ _ => rfl, fun _ _ => rfl, fun _ _ => rfl, fun _ _ => rfl, rfl⟩
theorem pLike.tr {P Q R : pT} (h : pLike P Q) (g : pLike Q R) : pLike P R := by
  obtain ⟨a1, a2, a3, a4, a5, a6, a7, a8, a9⟩ := h
  obtain ⟨b1, b2, b3, b4, b5, b6, b7, b8, b9⟩ := g
  exact ⟨a1.trans b1, a2.trans b2, fun k hk => (a3 k hk).trans (b3 k hk), a4.trans b4, fun k hk => (a5 k hk).trans (b5 k hk), fun k hk => (a6 k hk).trans (b6 k hk), fun k hk => (a7 k hk).trans (b7 k hk), fun k hk => (a8 k hk).trans (b8 k hk), a9.trans b9⟩
theorem nP_ok {nw L E C : Nat → Int} (hs : sOK (nw 88) L C) (hM : mOK nw) : pOK (nP nw L E C) := ⟨hM.1, hs, hM.2.2.2.2.1⟩
/-! rows that are alike as far as they go -/
section RC
variable {f g : Nat → Int}
theorem rc_G (h : ∀ k : Nat, k < 249 → f k = g k) : nG f = nG g := by
  funext k; unfold nG; split
  · exact h _ (by omega)
  · rfl
theorem rc_Q (h : ∀ k : Nat, k < 249 → f k = g k) : nQ f = nQ g := by
  funext k; unfold nQ; split
  · exact h _ (by omega)
  · rfl
theorem rc_L (h : ∀ k : Nat, k < 249 → f k = g k) : nL f = nL g := by
  funext k; unfold nL; split
  · exact h _ (by omega)
  · rfl
theorem rc_E (h : ∀ k : Nat, k < 249 → f k = g k) : nE f = nE g := by
  funext k; unfold nE; split
  · exact h _ (by omega)
  · rfl
theorem rc_C (h : ∀ k : Nat, k < 249 → f k = g k) {t k : Nat} (ht : t < 20) (hk : k < 8) : nCe f t k = nCe g t k := by
  unfold nCe; exact h _ (by omega)
theorem mOK_c (h : ∀ k : Nat, k < 249 → f k = g k) (hM : mOK f) : mOK g := by
  obtain ⟨a1, a2, a3, a4, a5, a6, a7⟩ := hM
  refine ⟨?_, ?_, ?_, ?_, ?_, ?_, fun k hk => ?_⟩
  · rw [← rc_G h, ← h 0 (by omega), ← h 1 (by omega)]; exact a1
  · rw [← h 0 (by omega), ← h 1 (by omega)]; exact a2
  · rw [← h 88 (by omega)]; exact a3
  · rw [← rc_L h]; exact a4
  · rw [← rc_Q h]; exact a5
  · rw [← h 6 (by omega)]; exact a6
  · rw [← h k hk]; exact a7 k hk
theorem mOne_c (h : ∀ k : Nat, k < 249 → f k = g k) (hM : mOne f) : mOne g := fun t ht => by
  rw [← rc_L h]
  rw [← h 88 (by omega)] at ht
  exact hM t ht
theorem sEq_c {n : Int} {L E C : Nat → Int} (hn : n ≤ 20) (hl : ∀ k : Nat, L k ≤ 6) (h : ∀ k : Nat, k < 249 → f k = g k) (hs : sEq n L E C f) : sEq n L E C g := fun t ht => by
  obtain ⟨a, b, d⟩ := hs t ht
  refine ⟨by rw [← rc_L h]; exact a, by rw [← rc_E h]; exact b, fun k hk => ?_⟩
  have := hl t
  rw [← rc_C h (by omega) (by omega)]
  exact d k hk
theorem nP_c {L E C : Nat → Int} (h : ∀ k : Nat, k < 249 → f k = g k) : nP f L E C = nP g L E C := by
  unfold nP
  rw [h 0 (by omega), h 1 (by omega), h 88 (by omega), h 6 (by omega), rc_G h, rc_Q h]
theorem rPic_c {P : pT} (h : ∀ k : Nat, k < 249 → f k = g k) (hr : rPic P f) : rPic P g := by
  obtain ⟨L, E, C, a, b, d, e, i⟩ := hr
  refine ⟨L, E, C, ?_, ?_, ?_, mOK_c h e, mOne_c h i⟩
  · rw [← nP_c h]; exact a
  · rw [← h 88 (by omega)]; exact sEq_c e.2.2.1.2 (fun k => (d.2.2.1 k).2) h b
  · rw [← h 88 (by omega)]; exact d
end RC
theorem rPic_l {P Q : pT} {nw : Nat → Int} (h : pLike P Q) (hr : rPic Q nw) : rPic P nw := by
  obtain ⟨L, E, C, a, b⟩ := hr
  exact ⟨L, E, C, h.tr a, b⟩
theorem rPic_i {nw L E C : Nat → Int} (h1 : sEq (nw 88) L E C nw) (h2 : sOK (nw 88) L C) (h3 : mOK nw) (h4 : mOne nw) : rPic (nP nw L E C) nw := ⟨L, E, C, pLike.rf _, h1, h2, h3, h4⟩
theorem pLike_copy {P Q R : pT} (h : pLike Q R) (hn : pN Q ≤ 20) : pLike (pCopy Q P) (pCopy R P) := by
  obtain ⟨a1, a2, a3, a4, a5, a6, a7, a8, a9⟩ := h
  refine ⟨a1, a2, fun k hk => ?_, a4, fun k hk => ?_, fun k hk => ?_, fun k hk => ?_, fun k hk => ?_, a9⟩
  · show zCp (pG Q) (pG P) 0 0 81 k = zCp (pG R) (pG P) 0 0 81 k
    unfold zCp
    rw [if_pos (by omega), if_pos (by omega)]
    exact a3 _ (by omega)
  · show zTake (pN Q).toNat (pL Q) (pL P) k = zTake (pN R).toNat (pL R) (pL P) k
    unfold zTake
    rw [← a4]
    split
    · exact a5 k hk
    · rfl
  · show zTake (pN Q).toNat (pE Q) (pE P) k = zTake (pN R).toNat (pE R) (pE P) k
    unfold zTake
    rw [← a4]
    split
    · exact a6 k hk
    · rfl
  · show zTake (6 * (pN Q).toNat) (pC Q) (pC P) k = zTake (6 * (pN R).toNat) (pC R) (pC P) k
    unfold zTake
    rw [← a4]
    split
    · exact a7 k hk
    · rfl
  · show zCp (pQ Q) (pQ P) 0 0 4 k = zCp (pQ R) (pQ P) 0 0 4 k
    unfold zCp
    rw [if_pos (by omega), if_pos (by omega)]
    exact a8 _ (by omega)
/-- a copy of a picture is as the row is -/
theorem rPic_copy {P Q : pT} {nw : Nat → Int} (hP : pOK P) (hr : rPic Q nw) : rPic (pCopy Q P) nw := by
  obtain ⟨L, E, C, a, b, d, hM, hO⟩ := hr
  have hn : pN Q ≤ 20 := by rw [a.2.2.2.1]; exact d.2.1
  refine rPic_l (pLike_copy a hn) ?_
  refine ⟨zTake (nw 88).toNat L (pL P), zTake (nw 88).toNat E (pE P), zTake (6 * (nw 88).toNat) C (pC P), ?_, fun t ht => ?_, ?_, hM, hO⟩
  · refine ⟨rfl, rfl, fun k hk => ?_, rfl, fun _ _ => rfl, fun _ _ => rfl, fun _ _ => rfl, fun k hk => ?_, rfl⟩
    · show zCp (nG nw) (pG P) 0 0 81 k = nG nw k
      unfold zCp
      rw [if_pos (by omega)]
      congr 1; omega
    · show zCp (nQ nw) (pQ P) 0 0 4 k = nQ nw k
      unfold zCp
      rw [if_pos (by omega)]
      congr 1; omega
  · obtain ⟨x, y, z⟩ := b t ht
    have hl := (d.2.2.1 t).2
    have e1 : zTake (nw 88).toNat L (pL P) t = L t := by unfold zTake; rw [if_pos (by omega)]
    have e2 : zTake (nw 88).toNat E (pE P) t = E t := by unfold zTake; rw [if_pos (by omega)]
    rw [e1, e2]
    refine ⟨x, y, fun k hk => ?_⟩
    have e3 : zTake (6 * (nw 88).toNat) C (pC P) (6 * t + k) = C (6 * t + k) := by unfold zTake; rw [if_pos (by omega)]
    rw [e3]; exact z k hk
  · exact ⟨d.1, d.2.1, fun k => by unfold zTake; split; exact d.2.2.1 k; exact hP.2.1.2.2.1 k, fun k => by unfold zTake; split; exact d.2.2.2 k; exact hP.2.1.2.2.2 k⟩
/-! strokes alike: near, off, whose -/
section SE
variable {n : Int} {L E C nw : Nat → Int}
theorem sNear_eq (h : sEq n L E C nw) {t : Nat} (ht : (Nat.cast t : Int) < n) (c : Int) : sNear L (sT C) t c ↔ sNear (nL nw) (nCe nw) t c := by
  obtain ⟨a, -, d⟩ := h t ht
  unfold sNear sT
  constructor
  · rintro ⟨k, h1, h2⟩
    rw [d k h1] at h2
    exact ⟨k, by rw [← a]; exact h1, h2⟩
  · rintro ⟨k, h1, h2⟩
    rw [← a] at h1
    exact ⟨k, h1, by rw [d k h1]; exact h2⟩
theorem sOff_eq (h : sEq n L E C nw) (c : Int) : sOff n L (sT C) c ↔ sOff n (nL nw) (nCe nw) c := by
  unfold sOff
  exact ⟨fun q t ht r => q t ht ((sNear_eq h ht c).mpr r), fun q t ht r => q t ht ((sNear_eq h ht c).mp r)⟩
theorem sHas_eq (h : sEq n L E C nw) {t : Nat} (ht : (Nat.cast t : Int) < n) (c : Int) : sHas L (sT C) t c ↔ sHas (nL nw) (nCe nw) t c := by
  obtain ⟨a, -, d⟩ := h t ht
  unfold sHas sT
  constructor
  · rintro ⟨k, h1, h2⟩
    rw [d k h1] at h2
    exact ⟨k, by rw [← a]; exact h1, h2⟩
  · rintro ⟨k, h1, h2⟩
    rw [← a] at h1
    exact ⟨k, h1, by rw [d k h1]; exact h2⟩
theorem sOwn_eq (h : sEq n L E C nw) (c : Int) (m : Nat) : ∀ t : Nat, (Nat.cast (t + m) : Int) ≤ n → sOwn L (sT C) c m t = sOwn (nL nw) (nCe nw) c m t := by
  induction m with
  | zero => intro t _; rfl
  | succ m ih =>
    intro t ht
    simp only [sOwn]
    rw [bP_c (sHas_eq h (t := t) (by omega) c), ih (t + 1) (by omega)]
theorem sEnd_eq (h : sEq n L E C nw) (c len : Int) : sEnd n L (sT C) c len = sEnd n (nL nw) (nCe nw) c len := by
  unfold sEnd
  rw [bP_c (sOff_eq h c)]
theorem sGo_eq (h : sEq n L E C nw) (nx : Int → Int) (f : Nat) : ∀ (j : Nat) (c : Int), sGo n L (sT C) nx f j c = sGo n (nL nw) (nCe nw) nx f j c := by
  induction f with
  | zero => intro j c; rfl
  | succ f ih =>
    intro j c
    simp only [sGo]
    rw [sEnd_eq h, ih]
theorem sumN_eq (h : sEq n L E C nw) (m : Nat) (hm : (Nat.cast m : Int) ≤ n) : sumN L m = sumN (nL nw) m := sumN_c (fun k hk => (h k (by omega)).1)
end SE
/-! answers that only look -/
section AN
variable {nw L E C : Nat → Int}
theorem an_why (h : sEq (nw 88) L E C nw) (c : Int) : pWhy (nP nw L E C) c = mWhy nw c := by
  unfold pWhy mWhy
  show (if gNext (nw 0) (nw 1) (nG nw) c = -1 then 1 else if bP (gCrest (nw 0) (nw 1) (nG nw) (c % 9) (c / 9) (-1)) = 1 then 2 else if bP (sOff (nw 88) L (sT C) c) = 0 then 3 else if bP (sOff (nw 88) L (sT C) (gNext (nw 0) (nw 1) (nG nw) c)) = 1 then 0 else 4) = _
  rw [bP_c (sOff_eq h c), bP_c (sOff_eq h _)]
theorem an_cwhy (h : sEq (nw 88) L E C nw) (x y : Int) : cWhy (nP nw L E C) x y = if hXY (nw 0) (nw 1) x y then mWhy nw (9 * y + x) else -1 := by
  unfold cWhy
  rw [an_why h]
  rfl
theorem an_flow (x y z pt fr : Int) : cFlow (nP nw L E C) x y z = (mFl nw pt fr x y z).1 := by
  unfold cFlow mFl
  show (if hXY (nw 0) (nw 1) x y ∧ 0 ≤ z ∧ z ≤ 1 then _ else _) = _
  split <;> rfl
theorem an_basin (x y pt fr : Int) : cBasin (nP nw L E C) x y = (mBa nw pt fr x y).1 := by
  unfold cBasin mBa
  show (if hXY (nw 0) (nw 1) x y then _ else _) = _
  split <;> rfl
theorem an_contrast (q d : Int) : cContrast (nP nw L E C) q d = if (0 ≤ q ∧ q < 4) ∧ 0 ≤ d ∧ d < 8 then gContrast (nw 0) (nw 1) (nG nw) q d else -1 := rfl
theorem an_cell (x y z : Int) : cCell (nP nw L E C) x y z = mCel nw x y z := rfl
theorem an_whose (h : sEq (nw 88) L E C nw) (hn : 0 ≤ nw 88) (x y : Int) : cWhose (nP nw L E C) x y = if hXY (nw 0) (nw 1) x y then cNone (sOwn (nL nw) (nCe nw) (9 * y + x) (nw 88).toNat 0) else -1 := by
  unfold cWhose
  show (if hXY (nw 0) (nw 1) x y then cNone (sOwn L (sT C) (9 * y + x) (nw 88).toNat 0) else -1) = _
  rw [sOwn_eq h _ _ 0 (by omega)]
theorem an_stroke (h : sEq (nw 88) L E C nw) (hM : mOK nw) (hO : mOne nw) (t k : Int) : cStroke (nP nw L E C) t k = mStk nw t k := by
  unfold cStroke mStk
  show (if (0 ≤ t ∧ t < nw 88) ∧ -3 ≤ k then (if k = -1 then L t.toNat else if k = -2 then E t.toNat else if k = -3 then gAt (nG nw) (sAt L C t 0 % 9) (sAt L C t 0 / 9) - gAt (nG nw) (sAt L C t (L t.toNat - 1) % 9) (sAt L C t (L t.toNat - 1) / 9) else cNone (sAt L C t k)) else -1) = _
  by_cases h0 : (0 ≤ t ∧ t < nw 88) ∧ -3 ≤ k
  · rw [if_pos h0, if_pos h0]
    obtain ⟨a, b, d⟩ := h t.toNat (by omega)
    have h1 := hO t.toNat (by omega)
    have h6 := (hM.2.2.2.1 t.toNat).2
    have h20 := hM.2.2.1.2
    have at_ : ∀ j : Nat, (Nat.cast j : Int) < L t.toNat → sAt L C t (Nat.cast j : Int) = nCe nw t.toNat j ∧ 0 ≤ nCe nw t.toNat j ∧ nCe nw t.toNat j ≤ 80 := fun j hj => by
      rw [sAt_in h0.1.1 hj, d j hj]
      exact ⟨rfl, hM.2.2.2.2.2.2 (89 + 8 * t.toNat + j) (by omega)⟩
    have gat : ∀ z : Int, 0 ≤ z → gAt (nG nw) (z % 9) (z / 9) = nG nw z.toNat := fun z hz => (gAt_c hz).symm
    by_cases k1 : k = -1
    · rw [if_pos k1, if_pos k1]; exact a
    · rw [if_neg k1, if_neg k1]
      by_cases k2 : k = -2
      · rw [if_pos k2, if_pos k2]; exact b
      · rw [if_neg k2, if_neg k2]
        by_cases k3 : k = -3
        · rw [if_pos k3, if_pos k3]
          obtain ⟨q1, q2, -⟩ := at_ 0 (by omega)
          obtain ⟨p1, p2, -⟩ := at_ (L t.toNat - 1).toNat (by omega)
          rw [show (Nat.cast (L t.toNat - 1).toNat : Int) = L t.toNat - 1 by omega] at p1
          have q1' : sAt L C t 0 = nCe nw t.toNat 0 := q1
          rw [q1', p1, gat _ q2, gat _ p2]
          have e : nCe nw t.toNat (L t.toNat - 1).toNat = nw (89 + 8 * t + nL nw t.toNat - 1).toNat := by unfold nCe; congr 1; omega
          rw [e]
        · rw [if_neg k3, if_neg k3]
          by_cases k4 : k < nL nw t.toNat
          · rw [if_pos k4]
            obtain ⟨q1, q2, -⟩ := at_ k.toNat (by omega)
            rw [show (Nat.cast k.toNat : Int) = k by omega] at q1
            rw [q1]
            unfold cNone
            rw [if_neg (by omega)]
          · rw [if_neg k4]
            unfold sAt
            rw [if_neg (by omega)]
            rfl
  · rw [if_neg h0, if_neg h0]
theorem an_count (h : sEq (nw 88) L E C nw) (hM : mOK nw) (bs kn wh : Int) : cCount (nP nw L E C) bs kn wh = mCt nw bs kn wh := by
  have hW := hM.1.2.1
  have hH := hM.1.2.2.2.1
  have g0 : sumN (fun k => bP (gIn (nw 0) (nw 1) (Nat.cast k : Int) ∧ gKind (nw 0) (nw 1) (nG nw) ((Nat.cast k : Int) % 9) ((Nat.cast k : Int) / 9) 0)) 81 = sumN (mSo nw 5) 81 := sumN_c (fun k _ => by
    unfold mSo gKind
    by_cases q : gIn (nw 0) (nw 1) (Nat.cast k : Int)
    · rw [if_pos q, if_pos rfl]; exact bP_c ⟨fun r => by have := r.2; simpa using this, fun r => ⟨q, by simpa using r⟩⟩
    · rw [if_neg q]; exact bP_f (fun r => q r.1))
  have g1 : sumN (fun k => bP (gIn (nw 0) (nw 1) (Nat.cast k : Int) ∧ gKind (nw 0) (nw 1) (nG nw) ((Nat.cast k : Int) % 9) ((Nat.cast k : Int) / 9) 1)) 81 = sumN (mSo nw 6) 81 := sumN_c (fun k _ => by
    unfold mSo gKind
    by_cases q : gIn (nw 0) (nw 1) (Nat.cast k : Int)
    · rw [if_pos q, if_neg (by decide), if_pos rfl]; exact bP_c ⟨fun r => by have := r.2; simpa using this, fun r => ⟨q, by simpa using r⟩⟩
    · rw [if_neg q]; exact bP_f (fun r => q r.1))
  have g2 : sumN (fun k => bP (gIn (nw 0) (nw 1) (Nat.cast k : Int) ∧ gKind (nw 0) (nw 1) (nG nw) ((Nat.cast k : Int) % 9) ((Nat.cast k : Int) / 9) 2)) 81 = sumN (mSo nw 7) 81 := sumN_c (fun k _ => by
    unfold mSo gKind
    by_cases q : gIn (nw 0) (nw 1) (Nat.cast k : Int)
    · rw [if_pos q, if_neg (by decide), if_neg (by decide), if_pos rfl]; exact bP_c ⟨fun r => by have := r.2; simpa using this, fun r => ⟨q, by simpa using r⟩⟩
    · rw [if_neg q]; exact bP_f (fun r => q r.1))
  have g3 : sumN (fun k => if gIn (nw 0) (nw 1) (Nat.cast k : Int) then nG nw k else 0) 81 = sumN (mSo nw 10) 81 := sumN_c (fun k _ => by
    unfold mSo
    by_cases q : gIn (nw 0) (nw 1) (Nat.cast k : Int)
    · rw [if_pos q, if_pos q, if_neg (by decide), if_neg (by decide), if_neg (by decide)]
      have := gAt_c (g := nG nw) (c := (Nat.cast k : Int)) (by omega)
      rw [← this]; rfl
    · rw [if_neg q, if_neg q])
  have g4 : sumN L (nw 88).toNat = sumN (nL nw) (nw 88).toNat := sumN_eq h _ (by have := hM.2.2.1.1; omega)
  unfold cCount mCt
  show (if wh = 0 then nw 0 else if wh = 1 then nw 1 else if wh = 2 then nw 6 else if wh = 3 then nw 88 else if wh = 4 then sumN L (nw 88).toNat else if wh = 5 then sumN (fun k => bP (gIn (nw 0) (nw 1) (Nat.cast k : Int) ∧ gKind (nw 0) (nw 1) (nG nw) ((Nat.cast k : Int) % 9) ((Nat.cast k : Int) / 9) 0)) 81 else if wh = 6 then sumN (fun k => bP (gIn (nw 0) (nw 1) (Nat.cast k : Int) ∧ gKind (nw 0) (nw 1) (nG nw) ((Nat.cast k : Int) % 9) ((Nat.cast k : Int) / 9) 1)) 81 else if wh = 7 then sumN (fun k => bP (gIn (nw 0) (nw 1) (Nat.cast k : Int) ∧ gKind (nw 0) (nw 1) (nG nw) ((Nat.cast k : Int) % 9) ((Nat.cast k : Int) / 9) 2)) 81 else if wh = 8 then bs else if wh = 9 then kn else if wh = 10 then sumN (fun k => if gIn (nw 0) (nw 1) (Nat.cast k : Int) then nG nw k else 0) 81 else -1) = _
  rw [g0, g1, g2, g3, g4]
end AN
