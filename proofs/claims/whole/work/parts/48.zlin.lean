/-! the lines: sides of cells that are up, and pairs -/
section LN
variable {nw : Nat → Int} {v : Int}
noncomputable def sdN (nw : Nat → Int) (v dx dy : Int) (k : Nat) : Int := bP (mUp nw v ((Nat.cast k : Int) % 9) ((Nat.cast k : Int) / 9) ∧ hXY (nw 0) (nw 1) ((Nat.cast k : Int) % 9 + dx) ((Nat.cast k : Int) / 9 + dy) ∧ ¬ mUp nw v ((Nat.cast k : Int) % 9 + dx) ((Nat.cast k : Int) / 9 + dy))
theorem low_t (hM : mOK nw) {k n : Nat} {dx dy : Int} (hx : zR (2 * (Nat.cast n : Int)).toNat = dx) (hy : zB (2 * (Nat.cast n : Int)).toNat = dy) : bP (¬ gNb (nw 0) (nw 1) (Nat.cast k : Int) (2 * (Nat.cast n : Int)) = -1 ∧ ¬ gUp (nw 0) (nw 1) (nG nw) v (gNb (nw 0) (nw 1) (Nat.cast k : Int) (2 * (Nat.cast n : Int)))) = bP (hXY (nw 0) (nw 1) ((Nat.cast k : Int) % 9 + dx) ((Nat.cast k : Int) / 9 + dy) ∧ ¬ mUp nw v ((Nat.cast k : Int) % 9 + dx) ((Nat.cast k : Int) / 9 + dy)) := by
  have hW := hM.1.2.1
  unfold gNb
  rw [hx, hy]
  by_cases q : hXY (nw 0) (nw 1) ((Nat.cast k : Int) % 9 + dx) ((Nat.cast k : Int) / 9 + dy)
  · rw [if_pos q]
    have e : gUp (nw 0) (nw 1) (nG nw) v (9 * ((Nat.cast k : Int) / 9 + dy) + ((Nat.cast k : Int) % 9 + dx)) ↔ mUp nw v ((Nat.cast k : Int) % 9 + dx) ((Nat.cast k : Int) / 9 + dy) := by
      unfold gUp mUp
      rw [c9m (by omega), c9d (by omega)]
      exact ⟨fun z => ⟨q, z.2⟩, fun z => ⟨⟨by omega, by rw [c9m (by omega), c9d (by omega)]; exact q⟩, z.2⟩⟩
    exact bP_c ⟨fun z => ⟨q, fun y => z.2 (e.mpr y)⟩, fun z => ⟨by omega, fun y => z.2 (e.mp y)⟩⟩
  · rw [if_neg q]
    rw [bP_f (fun z => z.1 rfl), bP_f (fun z => q z.1)]
theorem vl_k (hM : mOK nw) (k : Nat) : (if bP (gUp (nw 0) (nw 1) (nG nw) v (Nat.cast k : Int)) = 1 then vLow (nw 0) (nw 1) (nG nw) v (Nat.cast k : Int) 4 else 0) = (sdN nw v 0 (-1) k + sdN nw v 1 0 k) + (sdN nw v 0 1 k + sdN nw v (-1) 0 k) := by
  by_cases u : mUp nw v ((Nat.cast k : Int) % 9) ((Nat.cast k : Int) / 9)
  · rw [if_pos (bP_t (mUp_up.mp u))]
    unfold vLow
    simp only [sumN]
    rw [low_t hM (n := 0) (dx := 0) (dy := -1) rfl rfl, low_t hM (n := 1) (dx := 1) (dy := 0) rfl rfl, low_t hM (n := 2) (dx := 0) (dy := 1) rfl rfl, low_t hM (n := 3) (dx := -1) (dy := 0) rfl rfl]
    unfold sdN
    have e : ∀ p : Prop, bP p = bP (mUp nw v ((Nat.cast k : Int) % 9) ((Nat.cast k : Int) / 9) ∧ p) := fun p => bP_c ⟨fun z => ⟨u, z⟩, fun z => z.2⟩
    rw [e (hXY (nw 0) (nw 1) ((Nat.cast k : Int) % 9 + 0) ((Nat.cast k : Int) / 9 + -1) ∧ ¬ mUp nw v ((Nat.cast k : Int) % 9 + 0) ((Nat.cast k : Int) / 9 + -1)), e (hXY (nw 0) (nw 1) ((Nat.cast k : Int) % 9 + 1) ((Nat.cast k : Int) / 9 + 0) ∧ ¬ mUp nw v ((Nat.cast k : Int) % 9 + 1) ((Nat.cast k : Int) / 9 + 0)), e (hXY (nw 0) (nw 1) ((Nat.cast k : Int) % 9 + 0) ((Nat.cast k : Int) / 9 + 1) ∧ ¬ mUp nw v ((Nat.cast k : Int) % 9 + 0) ((Nat.cast k : Int) / 9 + 1)), e (hXY (nw 0) (nw 1) ((Nat.cast k : Int) % 9 + -1) ((Nat.cast k : Int) / 9 + 0) ∧ ¬ mUp nw v ((Nat.cast k : Int) % 9 + -1) ((Nat.cast k : Int) / 9 + 0))]
    omega
  · rw [if_neg (by rw [bP_f (fun z => u (mUp_up.mpr z))]; omega)]
    unfold sdN
    rw [bP_f (fun z => u z.1), bP_f (fun z => u z.1), bP_f (fun z => u z.1), bP_f (fun z => u z.1)]
    rfl
theorem ln_k (hM : mOK nw) {k : Nat} : mLn nw v k = sdN nw v 1 0 k + sdN nw v (-1) 0 (k + 1) := by
  have hW := hM.1.2.1
  have hH := hM.1.2.2.2.1
  unfold mLn
  by_cases x8 : k % 9 = 8
  · have a : sdN nw v 1 0 k = 0 := by unfold sdN; exact bP_f (fun z => by have := z.2.1; omega)
    have b : sdN nw v (-1) 0 (k + 1) = 0 := by unfold sdN; exact bP_f (fun z => by have := z.2.1; omega)
    rw [a, b, bP_f (fun z => by have := z.2.1; omega)]; rfl
  · have e1 : (Nat.cast (k + 1) : Int) % 9 = (Nat.cast k : Int) % 9 + 1 := by omega
    have e2 : (Nat.cast (k + 1) : Int) / 9 = (Nat.cast k : Int) / 9 := by omega
    unfold sdN
    rw [e1, e2, show (Nat.cast k : Int) % 9 + 1 + -1 = (Nat.cast k : Int) % 9 by omega, show (Nat.cast k : Int) / 9 + 0 = (Nat.cast k : Int) / 9 by omega]
    generalize (Nat.cast k : Int) % 9 = x at *
    generalize (Nat.cast k : Int) / 9 = y at *
    by_cases p : mUp nw v x y
    · by_cases q : mUp nw v (x + 1) y
      · rw [bP_f (fun z => z.2.2 ⟨fun _ => q, fun _ => p⟩), bP_f (fun z => z.2.2 q), bP_f (fun z => z.2.2 p)]; rfl
      · by_cases r : hXY (nw 0) (nw 1) (x + 1) y
        · rw [bP_t ⟨p.1, r, fun z => q (z.mp p)⟩, bP_t ⟨p, r, q⟩, bP_f (fun z => q z.1)]; rfl
        · rw [bP_f (fun z => r z.2.1), bP_f (fun z => r z.2.1), bP_f (fun z => q z.1)]; rfl
    · by_cases q : mUp nw v (x + 1) y
      · by_cases r : hXY (nw 0) (nw 1) x y
        · rw [bP_t ⟨r, q.1, fun z => p (z.mpr q)⟩, bP_f (fun z => p z.1), bP_t ⟨q, r, p⟩]; rfl
        · rw [bP_f (fun z => r z.1), bP_f (fun z => p z.1), bP_f (fun z => r z.2.1)]; rfl
      · rw [bP_f (fun z => z.2.2 ⟨fun y => absurd y p, fun y => absurd y q⟩), bP_f (fun z => p z.1), bP_f (fun z => q z.1)]; rfl
theorem ld_k {k : Nat} : mLd nw v k = sdN nw v 0 1 k + sdN nw v 0 (-1) (k + 9) := by
  unfold mLd
  have e1 : (Nat.cast (k + 9) : Int) % 9 = (Nat.cast k : Int) % 9 := by omega
  have e2 : (Nat.cast (k + 9) : Int) / 9 = (Nat.cast k : Int) / 9 + 1 := by omega
  unfold sdN
  rw [e1, e2, show (Nat.cast k : Int) / 9 + 1 + -1 = (Nat.cast k : Int) / 9 by omega, show (Nat.cast k : Int) % 9 + 0 = (Nat.cast k : Int) % 9 by omega]
  generalize (Nat.cast k : Int) % 9 = x at *
  generalize (Nat.cast k : Int) / 9 = y at *
  by_cases p : mUp nw v x y
  · by_cases q : mUp nw v x (y + 1)
    · rw [bP_f (fun z => z.2.2 ⟨fun _ => q, fun _ => p⟩), bP_f (fun z => z.2.2 q), bP_f (fun z => z.2.2 p)]; rfl
    · by_cases r : hXY (nw 0) (nw 1) x (y + 1)
      · rw [bP_t ⟨p.1, r, fun z => q (z.mp p)⟩, bP_t ⟨p, r, q⟩, bP_f (fun z => q z.1)]; rfl
      · rw [bP_f (fun z => r z.2.1), bP_f (fun z => r z.2.1), bP_f (fun z => q z.1)]; rfl
  · by_cases q : mUp nw v x (y + 1)
    · by_cases r : hXY (nw 0) (nw 1) x y
      · rw [bP_t ⟨r, q.1, fun z => p (z.mpr q)⟩, bP_f (fun z => p z.1), bP_t ⟨q, r, p⟩]; rfl
      · rw [bP_f (fun z => r z.1), bP_f (fun z => p z.1), bP_f (fun z => r z.2.1)]; rfl
    · rw [bP_f (fun z => z.2.2 ⟨fun y => absurd y p, fun y => absurd y q⟩), bP_f (fun z => p z.1), bP_f (fun z => q z.1)]; rfl
theorem sum_sh (f : Nat → Int) (d n : Nat) : sumN (fun k => f (k + d)) n + sumN f d = sumN f (n + d) := by
  induction n with
  | zero => simp [sumN]
  | succ n ih =>
    rw [show n + 1 + d = (n + d) + 1 by omega]
    simp only [sumN]
    rw [← ih]; omega
theorem sum_z (f : Nat → Int) (n : Nat) (h : ∀ k : Nat, k < n → f k = 0) : sumN f n = 0 := by
  have := sumN_tail (f := f) (n := 0) n (fun k _ hk => h k (by omega))
  rw [Nat.zero_add] at this
  exact this.symm
theorem sd_sh (f : Nat → Int) (d : Nat) (h1 : ∀ k : Nat, k < d → f k = 0) (h2 : ∀ k : Nat, 81 ≤ k → f k = 0) : sumN (fun k => f (k + d)) 81 = sumN f 81 := by
  have a := sum_sh f d 81
  have b := sum_z f d h1
  have c := sumN_tail (f := f) (n := 81) d (fun k hk _ => h2 k hk)
  rw [b] at a
  rw [← c] at a
  omega
theorem an_line (hM : mOK nw) : vLine (nw 0) (nw 1) (nG nw) v 81 = mLin nw v 81 := by
  have hW := hM.1.2.1
  have hH := hM.1.2.2.2.1
  unfold vLine mLin
  have l := sumN_c (n := 81) (fun k _ => vl_k (v := v) hM k)
  have r := sumN_c (n := 81) (f := fun k => mLn nw v k + mLd nw v k) (g := fun k => (sdN nw v 1 0 k + sdN nw v (-1) 0 (k + 1)) + (sdN nw v 0 1 k + sdN nw v 0 (-1) (k + 9))) (fun k _ => by rw [ln_k hM, ld_k])
  rw [l, r]
  rw [sumN_add (fun k => sdN nw v 0 (-1) k + sdN nw v 1 0 k) (fun k => sdN nw v 0 1 k + sdN nw v (-1) 0 k), sumN_add (fun k => sdN nw v 1 0 k + sdN nw v (-1) 0 (k + 1)) (fun k => sdN nw v 0 1 k + sdN nw v 0 (-1) (k + 9))]
  rw [sumN_add (sdN nw v 0 (-1)) (sdN nw v 1 0), sumN_add (sdN nw v 0 1) (sdN nw v (-1) 0), sumN_add (sdN nw v 1 0) (fun k => sdN nw v (-1) 0 (k + 1)), sumN_add (sdN nw v 0 1) (fun k => sdN nw v 0 (-1) (k + 9))]
  have a := sd_sh (sdN nw v (-1) 0) 1 (fun k hk => by unfold sdN; exact bP_f (fun z => by have := z.2.1; omega)) (fun k hk => by unfold sdN; exact bP_f (fun z => by have := z.1.1; omega))
  have b := sd_sh (sdN nw v 0 (-1)) 9 (fun k hk => by unfold sdN; exact bP_f (fun z => by have := z.2.1; omega)) (fun k hk => by unfold sdN; exact bP_f (fun z => by have := z.1.1; omega))
  rw [a, b]
  omega
theorem an_level {L E C hF sF pF : Nat → Int} (hM : mOK nw) (wh : Int) {rD : wT} {rM : Nat → Int} (h1 : 1 ≤ v ∧ v ≤ 9 → wH (nw 0) (nw 1) (nG nw) v 81 0 (0, zFill 81 0 sF, pF) = rD) (h2 : 1 ≤ v ∧ v ≤ 9 → mWl nw v 7000 (mHf nw v hF 81) = rM) : (cLevel (nP nw L E C) rD sF pF v wh).1 = (mLv nw hF rM v wh).1 := by
  unfold cLevel mLv
  by_cases q : 1 ≤ v ∧ v ≤ 9
  · rw [if_pos q]
    have a := an_hills (nw := nw) (v := v) (L := L) (E := E) (C := C) (hF := hF) (sF := sF) (pF := pF) hM
    rw [h1 q, h2 q] at a
    by_cases w0 : wh = 0
    · rw [if_pos w0, if_pos (by omega), if_pos w0]; exact a
    · rw [if_neg w0]
      by_cases w1 : wh = 1
      · rw [if_pos w1, if_pos (by omega), if_neg w0, if_pos w1]
        exact an_line hM
      · rw [if_neg w1]
        by_cases w2 : wh = 2
        · rw [if_pos w2, if_pos (by omega), if_neg w0, if_neg w1]
          exact sumN_c (fun k _ => bP_c mUp_up.symm)
        · rw [if_neg w2, if_neg (by omega)]
  · rw [if_neg q, if_neg (fun z => q z.1)]
end LN
