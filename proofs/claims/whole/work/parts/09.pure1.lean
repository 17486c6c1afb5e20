/-! the ground, in whole numbers -/
abbrev hXY (W H x y : Int) : Prop := 0 ≤ x ∧ x < W ∧ 0 ≤ y ∧ y < H
/-- what a ground's numbers are -/
def gOK (W H : Int) (g : Nat → Int) : Prop := 0 ≤ W ∧ W ≤ 9 ∧ 0 ≤ H ∧ H ≤ 9 ∧ ∀ k : Nat, 0 ≤ g k ∧ g k ≤ 9
def gAt (g : Nat → Int) (x y : Int) : Int := g (9 * y + x).toNat
/-- the number of the cell beside one, -1 where there is none -/
def gNb (W H c d : Int) : Int := if hXY W H (c % 9 + zR d.toNat) (c / 9 + zB d.toNat) then 9 * (c / 9 + zB d.toNat) + (c % 9 + zR d.toNat) else -1
def gB (W H : Int) (g : Nat → Int) (x y d : Int) : Int := if hXY W H (x + zR d.toNat) (y + zB d.toNat) then gAt g (x + zR d.toNat) (y + zB d.toNat) else gAt g x y
def gEast (W H : Int) (g : Nat → Int) (x y : Int) : Int := gB W H g x y 2 - gB W H g x y 6
def gSouth (W H : Int) (g : Nat → Int) (x y : Int) : Int := gB W H g x y 4 - gB W H g x y 0
def gSteep (W H : Int) (g : Nat → Int) (x y : Int) : Int := zabs (gEast W H g x y) + zabs (gSouth W H g x y)
def gFall (W H : Int) (g : Nat → Int) (x y : Int) (n : Nat) : Int := (gAt g x y - gB W H g x y (Nat.cast n : Int)) * (if (Nat.cast n : Int) % 2 = 0 then 3 else 2)
def gDn (W H : Int) (g : Nat → Int) (x y : Int) : Nat → Int × Int
  | 0 => (-1, 0)
  | n + 1 => if (gDn W H g x y n).2 < gFall W H g x y n then ((Nat.cast n : Int), gFall W H g x y n) else gDn W H g x y n
def gDown (W H : Int) (g : Nat → Int) (x y : Int) : Int := (gDn W H g x y 8).1
theorem gAt_r {W H : Int} {g : Nat → Int} (h : gOK W H g) (x y : Int) : 0 ≤ gAt g x y ∧ gAt g x y ≤ 9 := h.2.2.2.2 _
theorem gB_r {W H : Int} {g : Nat → Int} (h : gOK W H g) (x y d : Int) : 0 ≤ gB W H g x y d ∧ gB W H g x y d ≤ 9 := by
  unfold gB
  split
  · exact gAt_r h _ _
  · exact gAt_r h _ _
theorem gNb_r {W H : Int} {g : Nat → Int} (h : gOK W H g) (c d : Int) : -1 ≤ gNb W H c d ∧ gNb W H c d ≤ 80 := by
  obtain ⟨h1, h2, h3, h4, -⟩ := h
  unfold gNb
  split <;> omega
theorem gFall_r {W H : Int} {g : Nat → Int} (h : gOK W H g) (x y : Int) (n : Nat) : -27 ≤ gFall W H g x y n ∧ gFall W H g x y n ≤ 27 := by
  have h1 := gAt_r h x y
  have h2 := gB_r h x y (Nat.cast n : Int)
  unfold gFall
  split <;> omega
theorem gDn_r {W H : Int} {g : Nat → Int} (h : gOK W H g) (x y : Int) (n : Nat) : -1 ≤ (gDn W H g x y n).1 ∧ ((gDn W H g x y n).1 < n ∨ (gDn W H g x y n).1 = -1) ∧ 0 ≤ (gDn W H g x y n).2 ∧ (gDn W H g x y n).2 ≤ 27 := by
  induction n with
  | zero => simp [gDn]
  | succ n ih =>
    have h1 := gFall_r h x y n
    simp only [gDn]
    split
    · refine ⟨?_, ?_, ?_, ?_⟩ <;> simp only <;> omega
    · omega
theorem gDown_r {W H : Int} {g : Nat → Int} (h : gOK W H g) (x y : Int) : -1 ≤ gDown W H g x y ∧ gDown W H g x y ≤ 7 := by
  have := gDn_r h x y 8
  unfold gDown
  omega
theorem gEast_r {W H : Int} {g : Nat → Int} (h : gOK W H g) (x y : Int) : -9 ≤ gEast W H g x y ∧ gEast W H g x y ≤ 9 := by
  have h1 := gB_r h x y 2
  have h2 := gB_r h x y 6
  unfold gEast; omega
theorem gSouth_r {W H : Int} {g : Nat → Int} (h : gOK W H g) (x y : Int) : -9 ≤ gSouth W H g x y ∧ gSouth W H g x y ≤ 9 := by
  have h1 := gB_r h x y 4
  have h2 := gB_r h x y 0
  unfold gSouth; omega
theorem gSteep_r {W H : Int} {g : Nat → Int} (h : gOK W H g) (x y : Int) : 0 ≤ gSteep W H g x y ∧ gSteep W H g x y ≤ 18 := by
  have h1 := gEast_r h x y
  have h2 := gSouth_r h x y
  have h3 := zabs_r (gEast W H g x y)
  have h4 := zabs_r (gSouth W H g x y)
  unfold gSteep; omega
theorem gB_own {W H c d : Int} {g : Nat → Int} (h : gNb W H c d = -1) (hc : 0 ≤ c) (hG : gOK W H g) : gAt g (c % 9) (c / 9) = gB W H g (c % 9) (c / 9) d := by
  obtain ⟨h1, h2, h3, h4, -⟩ := hG
  unfold gNb at h
  unfold gB
  split at h
  · omega
  · rename_i hn
    rw [if_neg hn]
theorem gNb_xy {W H c d : Int} {g : Nat → Int} (h : ¬ gNb W H c d = -1) (hG : gOK W H g) : hXY W H (c % 9 + zR d.toNat) (c / 9 + zB d.toNat) ∧ gNb W H c d % 9 = c % 9 + zR d.toNat ∧ gNb W H c d / 9 = c / 9 + zB d.toNat ∧ 0 ≤ gNb W H c d := by
  obtain ⟨h1, h2, h3, h4, -⟩ := hG
  unfold gNb at h ⊢
  split at h
  · rename_i hn
    rw [if_pos hn]
    omega
  · omega
theorem gB_nb {W H c d : Int} {g : Nat → Int} (h : ¬ gNb W H c d = -1) (hG : gOK W H g) : gAt g (gNb W H c d % 9) (gNb W H c d / 9) = gB W H g (c % 9) (c / 9) d := by
  obtain ⟨a1, a2, a3, -⟩ := gNb_xy (g := g) h hG
  unfold gB
  rw [if_pos a1, a2, a3]
theorem gAt_c {g : Nat → Int} {c : Int} (hc : 0 ≤ c) : g c.toNat = gAt g (c % 9) (c / 9) := by
  unfold gAt
  congr 2
  omega
def gNext (W H : Int) (g : Nat → Int) (c : Int) : Int := if gDown W H g (c % 9) (c / 9) = -1 then -1 else gNb W H c (gDown W H g (c % 9) (c / 9))
theorem gNext_r {W H : Int} {g : Nat → Int} (h : gOK W H g) (c : Int) : -1 ≤ gNext W H g c ∧ gNext W H g c ≤ 80 := by
  unfold gNext
  split
  · omega
  · exact gNb_r h _ _
/-- higher (1) or lower (-1) than both beside it, in the directions d and d + 4 -/
def gCrP (W H : Int) (g : Nat → Int) (x y sg : Int) (d : Nat) : Prop := hXY W H (x + zR d) (y + zB d) ∧ hXY W H (x + zR (d + 4)) (y + zB (d + 4)) ∧ sg * gAt g (x + zR d) (y + zB d) < sg * gAt g x y ∧ sg * gAt g (x + zR (d + 4)) (y + zB (d + 4)) < sg * gAt g x y
def gCrest (W H : Int) (g : Nat → Int) (x y sg : Int) : Prop := ∃ d : Nat, d < 4 ∧ gCrP W H g x y sg d
theorem gCr_no {W H : Int} {g : Nat → Int} {x y sg : Int} {n : Nat} (h : ∀ d, d < n → ¬ gCrP W H g x y sg d) (h2 : ¬ gCrP W H g x y sg n) : ∀ d, d < n + 1 → ¬ gCrP W H g x y sg d := by
  intro d hd
  rcases Nat.lt_succ_iff_lt_or_eq.mp hd with q | q
  · exact h d q
  · rw [q]; exact h2
theorem cst4 (n : Nat) : ((Nat.cast n : Int) + 4).toNat = n + 4 := by omega
theorem cst0 (n : Nat) : (Nat.cast n : Int).toNat = n := by omega
theorem gNb_no {W H c d : Int} {g : Nat → Int} (h : gNb W H c d = -1) (hG : gOK W H g) (hc : 0 ≤ c) : ¬ hXY W H (c % 9 + zR d.toNat) (c / 9 + zB d.toNat) := by
  obtain ⟨h1, h2, h3, h4, -⟩ := hG
  unfold gNb at h
  split at h
  · omega
  · assumption
theorem gCr_no1 {W H c : Int} {g : Nat → Int} {sg : Int} {n : Nat} (h : gNb W H c (Nat.cast n : Int) = -1) (hG : gOK W H g) (hc : 0 ≤ c) : ¬ gCrP W H g (c % 9) (c / 9) sg n := fun q => by
  have := gNb_no h hG hc
  rw [cst0] at this
  exact this q.1
theorem gCr_no2 {W H c : Int} {g : Nat → Int} {sg : Int} {n : Nat} (h : gNb W H c ((Nat.cast n : Int) + 4) = -1) (hG : gOK W H g) (hc : 0 ≤ c) : ¬ gCrP W H g (c % 9) (c / 9) sg n := fun q => by
  have := gNb_no h hG hc
  rw [cst4] at this
  exact this q.2.1
theorem gCr_no3 {W H c : Int} {g : Nat → Int} {sg : Int} {n : Nat} (h0 : ¬ gNb W H c (Nat.cast n : Int) = -1) (h : sg * gAt g (c % 9) (c / 9) ≤ sg * gAt g (gNb W H c (Nat.cast n : Int) % 9) (gNb W H c (Nat.cast n : Int) / 9)) (hG : gOK W H g) : ¬ gCrP W H g (c % 9) (c / 9) sg n := fun q => by
  obtain ⟨-, a2, a3, -⟩ := gNb_xy (g := g) h0 hG
  rw [a2, a3, cst0] at h
  have := q.2.2.1
  omega
theorem gCr_no4 {W H c : Int} {g : Nat → Int} {sg : Int} {n : Nat} (h0 : ¬ gNb W H c ((Nat.cast n : Int) + 4) = -1) (h : sg * gAt g (c % 9) (c / 9) ≤ sg * gAt g (gNb W H c ((Nat.cast n : Int) + 4) % 9) (gNb W H c ((Nat.cast n : Int) + 4) / 9)) (hG : gOK W H g) : ¬ gCrP W H g (c % 9) (c / 9) sg n := fun q => by
  obtain ⟨-, a2, a3, -⟩ := gNb_xy (g := g) h0 hG
  rw [a2, a3, cst4] at h
  have := q.2.2.2
  omega
theorem gCr_yes {W H c : Int} {g : Nat → Int} {sg : Int} {n : Nat} (hn : n < 4) (h1 : ¬ gNb W H c (Nat.cast n : Int) = -1) (h2 : ¬ gNb W H c ((Nat.cast n : Int) + 4) = -1) (h3 : ¬ sg * gAt g (c % 9) (c / 9) ≤ sg * gAt g (gNb W H c (Nat.cast n : Int) % 9) (gNb W H c (Nat.cast n : Int) / 9)) (h4 : ¬ sg * gAt g (c % 9) (c / 9) ≤ sg * gAt g (gNb W H c ((Nat.cast n : Int) + 4) % 9) (gNb W H c ((Nat.cast n : Int) + 4) / 9)) (hG : gOK W H g) : gCrest W H g (c % 9) (c / 9) sg := by
  obtain ⟨a1, a2, a3, -⟩ := gNb_xy (g := g) h1 hG
  obtain ⟨b1, b2, b3, -⟩ := gNb_xy (g := g) h2 hG
  rw [a2, a3] at h3
  rw [b2, b3] at h4
  rw [cst0] at a1 h3
  rw [cst4] at b1 h4
  exact ⟨n, hn, a1, b1, by omega, by omega⟩
theorem gCr_none {W H : Int} {g : Nat → Int} {x y sg : Int} {n : Nat} (h : ∀ d, d < n → ¬ gCrP W H g x y sg d) (hn : 4 ≤ n) : ¬ gCrest W H g x y sg := fun ⟨d, h1, h2⟩ => h d (by omega) h2
/-- the pit, the steps to it; at most so many steps -/
def gPitF (W H : Int) (g : Nat → Int) : Nat → Int → Int
  | 0, c => c
  | n + 1, c => if gNext W H g c = -1 then c else gPitF W H g n (gNext W H g c)
def gStF (W H : Int) (g : Nat → Int) : Nat → Int → Int
  | 0, _ => 0
  | n + 1, c => if gNext W H g c = -1 then 0 else 1 + gStF W H g n (gNext W H g c)
theorem gPitF_s {W H : Int} {g : Nat → Int} {N n : Nat} {c : Int} (hn : n < N) : gPitF W H g (N - n) c = if gNext W H g c = -1 then c else gPitF W H g (N - (n + 1)) (gNext W H g c) := by
  have : N - n = (N - (n + 1)) + 1 := by omega
  rw [this]; rfl
theorem gStF_s {W H : Int} {g : Nat → Int} {N n : Nat} {c : Int} (hn : n < N) : gStF W H g (N - n) c = if gNext W H g c = -1 then 0 else 1 + gStF W H g (N - (n + 1)) (gNext W H g c) := by
  have : N - n = (N - (n + 1)) + 1 := by omega
  rw [this]; rfl
theorem gPitF_r {W H : Int} {g : Nat → Int} (hG : gOK W H g) (n : Nat) (c : Int) (hc : 0 ≤ c ∧ c < 81) : 0 ≤ gPitF W H g n c ∧ gPitF W H g n c < 81 := by
  induction n generalizing c with
  | zero => exact hc
  | succ n ih =>
    simp only [gPitF]
    split
    · exact hc
    · have := gNext_r hG c
      exact ih _ (by omega)
theorem gStF_r {W H : Int} {g : Nat → Int} (n : Nat) (c : Int) : 0 ≤ gStF W H g n c ∧ gStF W H g n c ≤ n := by
  induction n generalizing c with
  | zero => simp [gStF]
  | succ n ih =>
    simp only [gStF]
    split
    · omega
    · have := ih (gNext W H g c)
      omega
def sumN (f : Nat → Int) : Nat → Int
  | 0 => 0
  | n + 1 => sumN f n + f n
theorem sumN_t {P : Nat → Prop} {n : Nat} (h : P n) : sumN (fun k => bP (P k)) n + 1 = sumN (fun k => bP (P k)) (n + 1) := by
  simp only [sumN, bP_t h]
theorem sumN_f {P : Nat → Prop} {n : Nat} (h : ¬ P n) : sumN (fun k => bP (P k)) n = sumN (fun k => bP (P k)) (n + 1) := by
  simp only [sumN, bP_f h]; omega
theorem sumN_r {P : Nat → Prop} (n : Nat) : 0 ≤ sumN (fun k => bP (P k)) n ∧ sumN (fun k => bP (P k)) n ≤ n := by
  induction n with
  | zero => simp [sumN]
  | succ n ih =>
    have := bP_r (P n)
    simp only [sumN]
    omega
def gQ (W H x y : Int) : Int := (if y < H / 2 then 0 else 2) + (if x < W / 2 then 0 else 1)
theorem gQ_r (W H x y : Int) : 0 ≤ gQ W H x y ∧ gQ W H x y < 4 := by
  unfold gQ
  split <;> split <;> omega
noncomputable def gTone (W H : Int) (g : Nat → Int) (x y d : Int) : Int :=
  let t := -(zR d.toNat * gEast W H g x y + zB d.toNat * gSouth W H g x y)
  let t1 := if bP (gCrest W H g x y 1) = 1 then max t 4 else t
  if bP (gCrest W H g x y (-1)) = 1 then min t1 (-4) else t1
theorem mul1_r {a b : Int} (ha : -1 ≤ a ∧ a ≤ 1) (hb : -9 ≤ b ∧ b ≤ 9) : -9 ≤ a * b ∧ a * b ≤ 9 := by
  rcases (show a = -1 ∨ a = 0 ∨ a = 1 by omega) with h | h | h <;> rw [h] <;> omega
theorem gT0_r {W H : Int} {g : Nat → Int} (h : gOK W H g) (x y : Int) (k : Nat) : -18 ≤ -(zR k * gEast W H g x y + zB k * gSouth W H g x y) ∧ -(zR k * gEast W H g x y + zB k * gSouth W H g x y) ≤ 18 := by
  have h1 := mul1_r (zR_r k) (gEast_r h x y)
  have h2 := mul1_r (zB_r k) (gSouth_r h x y)
  omega
theorem gTone_r {W H : Int} {g : Nat → Int} (h : gOK W H g) (x y d : Int) : -18 ≤ gTone W H g x y d ∧ gTone W H g x y d ≤ 18 := by
  have h1 := gT0_r h x y d.toNat
  unfold gTone
  simp only
  split <;> split <;> omega
def gCo (W H : Int) (g : Nat → Int) (q d : Int) (tn : Int → Int → Int) : Nat → Int × Int
  | 0 => (18, -18)
  | n + 1 => if (0 ≤ (Nat.cast n : Int) ∧ hXY W H ((Nat.cast n : Int) % 9) ((Nat.cast n : Int) / 9)) ∧ gQ W H ((Nat.cast n : Int) % 9) ((Nat.cast n : Int) / 9) = q then (min (gCo W H g q d tn n).1 (tn ((Nat.cast n : Int) % 9) ((Nat.cast n : Int) / 9)), max (gCo W H g q d tn n).2 (tn ((Nat.cast n : Int) % 9) ((Nat.cast n : Int) / 9))) else gCo W H g q d tn n
noncomputable def gContrast (W H : Int) (g : Nat → Int) (q d : Int) : Int := (gCo W H g q d (fun x y => gTone W H g x y d) 81).2 - (gCo W H g q d (fun x y => gTone W H g x y d) 81).1
theorem gCo_r {W H : Int} {g : Nat → Int} {q d : Int} {tn : Int → Int → Int} (h : ∀ x y, -18 ≤ tn x y ∧ tn x y ≤ 18) (n : Nat) : -18 ≤ (gCo W H g q d tn n).1 ∧ (gCo W H g q d tn n).1 ≤ 18 ∧ -18 ≤ (gCo W H g q d tn n).2 ∧ (gCo W H g q d tn n).2 ≤ 18 := by
  induction n with
  | zero => simp [gCo]
  | succ n ih =>
    have := h ((Nat.cast n : Int) % 9) ((Nat.cast n : Int) / 9)
    simp only [gCo]
    split
    · simp only; omega
    · exact ih
theorem gContrast_r {W H : Int} {g : Nat → Int} (h : gOK W H g) (q d : Int) : -36 ≤ gContrast W H g q d ∧ gContrast W H g q d ≤ 36 := by
  have := gCo_r (W := W) (H := H) (g := g) (q := q) (d := d) (tn := fun x y => gTone W H g x y d) (fun x y => gTone_r h x y d) 81
  unfold gContrast
  omega
def gKind (W H : Int) (g : Nat → Int) (x y k : Int) : Prop := if k = 0 then gCrest W H g x y 1 else if k = 1 then gCrest W H g x y (-1) else gDown W H g x y = -1
abbrev gIn (W H : Int) (c : Int) : Prop := 0 ≤ c ∧ hXY W H (c % 9) (c / 9)
def zFill (n : Nat) (v : Int) (g : Nat → Int) : Nat → Int := fun k => if k < n then v else g k
theorem zFill_s (n : Nat) (v : Int) (g : Nat → Int) : uI (zFill n v g) n v = zFill (n + 1) v g := by
  funext k
  unfold uI zFill
  by_cases h : k = n
  · rw [if_pos h, if_pos (by omega)]
  · rw [if_neg h]
    by_cases h2 : k < n
    · rw [if_pos h2, if_pos (by omega)]
    · rw [if_neg h2, if_neg (by omega)]
theorem zFill_0 (v : Int) (g : Nat → Int) : zFill 0 v g = g := by funext k; simp [zFill]
def zCp (f g : Nat → Int) (sp dp n : Nat) : Nat → Int := fun k => if dp ≤ k ∧ k < dp + n then f (sp + (k - dp)) else g k
theorem gTone_tt {W H : Int} {g : Nat → Int} {x y d : Int} (h1 : gCrest W H g x y 1) (h2 : gCrest W H g x y (-1)) : gTone W H g x y d = min (max (-(zR d.toNat * gEast W H g x y + zB d.toNat * gSouth W H g x y)) 4) (-4) := by
  unfold gTone; simp only; rw [if_pos (bP_t h1), if_pos (bP_t h2)]
theorem gTone_tf {W H : Int} {g : Nat → Int} {x y d : Int} (h1 : gCrest W H g x y 1) (h2 : ¬ gCrest W H g x y (-1)) : gTone W H g x y d = max (-(zR d.toNat * gEast W H g x y + zB d.toNat * gSouth W H g x y)) 4 := by
  unfold gTone; simp only; rw [if_neg (show ¬ bP (gCrest W H g x y (-1)) = 1 by rw [bP_f h2]; omega), if_pos (bP_t h1)]
theorem gTone_ft {W H : Int} {g : Nat → Int} {x y d : Int} (h1 : ¬ gCrest W H g x y 1) (h2 : gCrest W H g x y (-1)) : gTone W H g x y d = min (-(zR d.toNat * gEast W H g x y + zB d.toNat * gSouth W H g x y)) (-4) := by
  unfold gTone; simp only; rw [if_pos (bP_t h2), if_neg (by rw [bP_f h1]; omega)]
theorem gTone_ff {W H : Int} {g : Nat → Int} {x y d : Int} (h1 : ¬ gCrest W H g x y 1) (h2 : ¬ gCrest W H g x y (-1)) : gTone W H g x y d = -(zR d.toNat * gEast W H g x y + zB d.toNat * gSouth W H g x y) := by
  unfold gTone; simp only; rw [if_neg (show ¬ bP (gCrest W H g x y (-1)) = 1 by rw [bP_f h2]; omega), if_neg (show ¬ bP (gCrest W H g x y 1) = 1 by rw [bP_f h1]; omega)]
