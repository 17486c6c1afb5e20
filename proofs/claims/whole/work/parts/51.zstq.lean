theorem st_best {D M : lT} {K K2 kF kf bF lq : Nat → Int} {bS : Int} (e1 : D.1 = M.1) (e2 : ∀ k : Nat, k < 4 → D.2 k = M.2 k) (hK : ∀ k : Nat, -36 ≤ K k ∧ K k ≤ 36) (hK2 : ∀ k : Nat, -36 ≤ K2 k ∧ K2 k ≤ 36) (hD : ∀ k : Nat, 0 ≤ D.2 k ∧ D.2 k < 8) (hM : ∀ k : Nat, 0 ≤ M.2 k ∧ M.2 k < 8) (h : (∀ k : Nat, -36 ≤ kF k ∧ kF k ≤ 36) ∧ (∀ k : Nat, 0 ≤ bF k ∧ bF k < 8) ∧ (∀ k : Nat, -36 ≤ kf k ∧ kf k ≤ 36) ∧ ∀ k : Nat, 0 ≤ lq k ∧ lq k < 8) (q : Int) : (cBest D K bS bF kF q).1 = (mBe M K2 kf lq q).1 ∧ (∀ k : Nat, -36 ≤ (cBest D K bS bF kF q).2.2.2 k ∧ (cBest D K bS bF kF q).2.2.2 k ≤ 36) ∧ (∀ k : Nat, 0 ≤ (cBest D K bS bF kF q).2.2.1 k ∧ (cBest D K bS bF kF q).2.2.1 k < 8) ∧ (∀ k : Nat, -36 ≤ (mBe M K2 kf lq q).2.1 k ∧ (mBe M K2 kf lq q).2.1 k ≤ 36) ∧ ∀ k : Nat, 0 ≤ (mBe M K2 kf lq q).2.2 k ∧ (mBe M K2 kf lq q).2.2 k < 8 := by
  by_cases z : -1 ≤ q ∧ q ≤ 3
  · have ec : cBest D K bS bF kF q = ((if q = -1 then D.1 else D.2 q.toNat), D.1, D.2, K) := by unfold cBest; rw [if_pos (by omega)]
    rw [ec, mBe_t z]
    refine ⟨?_, hK, hD, hK2, hM⟩
    by_cases y : q = -1
    · simp only; rw [if_pos y, if_pos (by omega)]; exact e1
    · simp only; rw [if_neg y, if_neg (by omega)]; exact e2 _ (by omega)
  · have ec : cBest D K bS bF kF q = (-1, bS, bF, kF) := by unfold cBest; rw [if_neg (by omega)]
    rw [ec, mBe_f z]
    exact ⟨rfl, h⟩
theorem wH_ok {W H : Int} {g : Nat → Int} (hG : gOK W H g) {v : Int} (f : Nat) : ∀ (n : Nat) (S : wT), n + f ≤ 81 → (∀ k : Nat, 0 ≤ S.2.1 k ∧ S.2.1 k ≤ 1) ∧ (∀ k : Nat, 0 ≤ S.2.2 k ∧ S.2.2 k < 81) → (∀ k : Nat, 0 ≤ (wH W H g v f n S).2.1 k ∧ (wH W H g v f n S).2.1 k ≤ 1) ∧ ∀ k : Nat, 0 ≤ (wH W H g v f n S).2.2 k ∧ (wH W H g v f n S).2.2 k < 81 := by
  induction f with
  | zero => intro n S _ h; exact h
  | succ f ih =>
    intro n S hn h
    simp only [wH]
    by_cases q : bP (gUp W H g v (Nat.cast n : Int)) = 1 ∧ S.2.1 n = 0
    · rw [if_pos q]
      have := wPiece_ok hG (v := v) (c := (Nat.cast n : Int)) h.1 h.2 (by omega)
      exact ih (n + 1) _ (by omega) ⟨this.2.2.1, this.2.2.2⟩
    · rw [if_neg q]
      exact ih (n + 1) S (by omega) h
theorem st_level {nw L E C sF pF : Nat → Int} (hM : mOK nw) {v wh : Int} {rD : wT} (hRD : wH (nw 0) (nw 1) (nG nw) v 81 0 (0, zFill 81 0 sF, pF) = rD) (h : (∀ k : Nat, 0 ≤ sF k ∧ sF k ≤ 1) ∧ ∀ k : Nat, 0 ≤ pF k ∧ pF k < 81) : (∀ k : Nat, 0 ≤ (cLevel (nP nw L E C) rD sF pF v wh).2.1 k ∧ (cLevel (nP nw L E C) rD sF pF v wh).2.1 k ≤ 1) ∧ ∀ k : Nat, 0 ≤ (cLevel (nP nw L E C) rD sF pF v wh).2.2 k ∧ (cLevel (nP nw L E C) rD sF pF v wh).2.2 k < 81 := by
  have a := wH_ok hM.1 (v := v) 81 0 (0, zFill 81 0 sF, pF) (by omega) ⟨fun k => by show 0 ≤ zFill 81 0 sF k ∧ zFill 81 0 sF k ≤ 1; unfold zFill; split; omega; exact h.1 k, h.2⟩
  rw [hRD] at a
  unfold cLevel
  repeat' split
  all_goals first | exact a | exact h
