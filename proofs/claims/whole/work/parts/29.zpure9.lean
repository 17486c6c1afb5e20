/-! the reference's row of numbers, read as a ground and strokes -/
def nG (nw : Nat → Int) : Nat → Int := fun k => if k < 81 then nw (7 + k) else 0
def nQ (nw : Nat → Int) : Nat → Int := fun k => if k < 4 then nw (2 + k) else 0
def nL (nw : Nat → Int) : Nat → Int := fun t => if t < 20 then nw (95 + 8 * t) else 0
def nE (nw : Nat → Int) : Nat → Int := fun t => if t < 20 then nw (96 + 8 * t) else 0
def nCe (nw : Nat → Int) : Nat → Nat → Int := fun t k => nw (89 + 8 * t + k)
def mOK (nw : Nat → Int) : Prop := gOK (nw 0) (nw 1) (nG nw) ∧ (3 ≤ nw 0 ∧ 3 ≤ nw 1) ∧ (0 ≤ nw 88 ∧ nw 88 ≤ 20) ∧ (∀ k : Nat, 0 ≤ nL nw k ∧ nL nw k ≤ 6) ∧ (∀ k : Nat, 0 ≤ nQ nw k ∧ nQ nw k < 8) ∧ (2 ≤ nw 6 ∧ nw 6 ≤ 6) ∧ ∀ k : Nat, k < 249 → 0 ≤ nw k ∧ nw k ≤ 80
theorem nG_at {nw : Nat → Int} {x y : Int} (h : (0 ≤ x ∧ x < 9) ∧ 0 ≤ y ∧ y < 9) : nw ((7 + (9 * y)) + x).toNat = gAt (nG nw) x y := by
  unfold gAt nG
  rw [if_pos (by omega)]
  congr 1
  omega
theorem nQ_at {nw : Nat → Int} {q : Int} (h : 0 ≤ q ∧ q < 4) : nw (2 + q).toNat = nQ nw q.toNat := by
  unfold nQ
  rw [if_pos (by omega)]
  congr 1
  omega
theorem zR_is {d : Int} (h : 0 ≤ d ∧ d < 8) : zR d.toNat = if d = 0 ∨ d = 4 then 0 else if d < 4 then 1 else -1 := by
  have : d = 0 ∨ d = 1 ∨ d = 2 ∨ d = 3 ∨ d = 4 ∨ d = 5 ∨ d = 6 ∨ d = 7 := by omega
  rcases this with q | q | q | q | q | q | q | q <;> subst q <;> decide
theorem zB_is {d : Int} (h : 0 ≤ d ∧ d < 8) : zB d.toNat = if d = 2 ∨ d = 6 then 0 else if 2 < d ∧ d < 6 then 1 else -1 := by
  have : d = 0 ∨ d = 1 ∨ d = 2 ∨ d = 3 ∨ d = 4 ∨ d = 5 ∨ d = 6 ∨ d = 7 := by omega
  rcases this with q | q | q | q | q | q | q | q <;> subst q <;> decide
theorem zR_op {n : Nat} (h : n < 4) : zR (n + 4) = -zR n := by
  have : n = 0 ∨ n = 1 ∨ n = 2 ∨ n = 3 := by omega
  rcases this with q | q | q | q <;> subst q <;> decide
theorem zB_op {n : Nat} (h : n < 4) : zB (n + 4) = -zB n := by
  have : n = 0 ∨ n = 1 ∨ n = 2 ∨ n = 3 := by omega
  rcases this with q | q | q | q <;> subst q <;> decide
theorem gB_t {W H : Int} {g : Nat → Int} {x y d : Int} (h : hXY W H (x + zR d.toNat) (y + zB d.toNat)) : gAt g (x + zR d.toNat) (y + zB d.toNat) = gB W H g x y d := by unfold gB; rw [if_pos h]
theorem gB_f {W H : Int} {g : Nat → Int} {x y d : Int} (h : ¬ hXY W H (x + zR d.toNat) (y + zB d.toNat)) : gAt g x y = gB W H g x y d := by unfold gB; rw [if_neg h]
theorem cNone_n (n : Nat) : cNone (Nat.cast n : Int) = (Nat.cast n : Int) := by unfold cNone; rw [if_neg (by omega)]
theorem gDnN_t {W H : Int} {g : Nat → Int} {x y : Int} {n : Nat} (h : (gDn W H g x y n).2 < gFall W H g x y n) : (Nat.cast n : Int) = cNone (gDn W H g x y (n + 1)).1 := by
  simp only [gDn]; rw [if_pos h]; exact (cNone_n n).symm
theorem gDnN_f {W H : Int} {g : Nat → Int} {x y : Int} {n : Nat} (h : ¬ (gDn W H g x y n).2 < gFall W H g x y n) : cNone (gDn W H g x y n).1 = cNone (gDn W H g x y (n + 1)).1 := by
  simp only [gDn]; rw [if_neg h]
theorem gDnF_t {W H : Int} {g : Nat → Int} {x y : Int} {n : Nat} (h : (gDn W H g x y n).2 < gFall W H g x y n) : gFall W H g x y n = (gDn W H g x y (n + 1)).2 := by
  simp only [gDn]; rw [if_pos h]
theorem gDnF_f {W H : Int} {g : Nat → Int} {x y : Int} {n : Nat} (h : ¬ (gDn W H g x y n).2 < gFall W H g x y n) : (gDn W H g x y n).2 = (gDn W H g x y (n + 1)).2 := by
  simp only [gDn]; rw [if_neg h]
theorem cNone_r {z : Int} (h : -1 ≤ z ∧ z ≤ 7) : (cNone z = -4 ∧ z = -1) ∨ (cNone z = z ∧ 0 ≤ z) := by unfold cNone; split <;> omega
def gCrN (W H : Int) (g : Nat → Int) (x y sg : Int) (n : Nat) : Prop := ∃ d : Nat, d < n ∧ gCrP W H g x y sg d
abbrev gBoth (W H x y : Int) (n : Nat) : Prop := hXY W H (x + zR n) (y + zB n) ∧ hXY W H (x - zR n) (y - zB n)
theorem gCrM {W H : Int} {g : Nat → Int} {x y sg : Int} {n : Nat} (hn : n < 4) (hsg : sg = 1 ∨ sg = -1) : gCrP W H g x y sg n ↔ gBoth W H x y n ∧ 0 < sg * (gAt g x y - gB W H g x y (Nat.cast n : Int)) ∧ 0 < sg * (gAt g x y - gB W H g x y ((Nat.cast n : Int) + 4)) := by
  have e1 : ((Nat.cast n : Int)).toNat = n := by omega
  have e2 : ((Nat.cast n : Int) + 4).toNat = n + 4 := by omega
  have b1 : hXY W H (x + zR n) (y + zB n) → gB W H g x y (Nat.cast n : Int) = gAt g (x + zR n) (y + zB n) := fun h => by unfold gB; rw [e1, if_pos h]
  have b2 : hXY W H (x - zR n) (y - zB n) → gB W H g x y ((Nat.cast n : Int) + 4) = gAt g (x - zR n) (y - zB n) := fun h => by
    have h' : hXY W H (x + zR (n + 4)) (y + zB (n + 4)) := by rw [zR_op hn, zB_op hn]; exact h
    unfold gB; rw [e2, if_pos h', zR_op hn, zB_op hn]; rfl
  unfold gCrP
  rw [zR_op hn, zB_op hn]
  constructor
  · rintro ⟨h1, h2, h3, h4⟩
    have h2' : hXY W H (x - zR n) (y - zB n) := h2
    refine ⟨⟨h1, h2'⟩, ?_, ?_⟩
    · rw [b1 h1]; rcases hsg with q | q <;> subst q <;> omega
    · rw [b2 h2']
      have h4' : sg * gAt g (x - zR n) (y - zB n) < sg * gAt g x y := h4
      rcases hsg with q | q <;> subst q <;> omega
  · rintro ⟨⟨h1, h2⟩, h3, h4⟩
    rw [b1 h1] at h3
    rw [b2 h2] at h4
    refine ⟨h1, h2, ?_, ?_⟩
    · rcases hsg with q | q <;> subst q <;> omega
    · show sg * gAt g (x - zR n) (y - zB n) < sg * gAt g x y
      rcases hsg with q | q <;> subst q <;> omega
theorem gCrN_0 {W H : Int} {g : Nat → Int} {x y sg : Int} : 0 = bP (gCrN W H g x y sg 0) := (bP_f (fun ⟨d, h, _⟩ => absurd h (Nat.not_lt_zero d))).symm
theorem gCrN_a {W H : Int} {g : Nat → Int} {x y sg : Int} {n : Nat} (h : gCrN W H g x y sg n) : gCrN W H g x y sg (n + 1) := by
  obtain ⟨d, h1, h2⟩ := h
  exact ⟨d, by omega, h2⟩
theorem gCrN_b {W H : Int} {g : Nat → Int} {x y sg : Int} {n : Nat} (h : gCrP W H g x y sg n) : gCrN W H g x y sg (n + 1) := ⟨n, by omega, h⟩
theorem gCrN_c {W H : Int} {g : Nat → Int} {x y sg : Int} {n : Nat} (h : ¬ gCrN W H g x y sg n) (h2 : ¬ gCrP W H g x y sg n) : ¬ gCrN W H g x y sg (n + 1) := fun ⟨d, h3, h4⟩ => by
  by_cases q : d = n
  · rw [q] at h4; exact h2 h4
  · exact h ⟨d, by omega, h4⟩
theorem tone_eq (a b c d : Int) : (-a) * b - c * d = -(a * b + c * d) := by rw [Int.neg_mul]; omega
