/-! the reference's text -/
def nLet (tx : Nat → Int) (kn a : Int) : Int := if a < kn then tx a.toNat else 0
theorem nLet_r {tx : Nat → Int} (h : ∀ k : Nat, 0 ≤ tx k ∧ tx k < 128) (kn a : Int) : 0 ≤ nLet tx kn a ∧ nLet tx kn a < 128 := by
  unfold nLet
  split
  · exact h _
  · omega
def mDg (tx : Nat → Int) (kn sp : Int) (i : Nat) : Int := nLet tx kn (sp + (Nat.cast i : Int)) - 48
/-- the first of the places from j on, f at most, whose figure is not so -/
def mGd (D : Nat → Int) (lo hi : Int) : Nat → Nat → Nat
  | 0, j => j
  | f + 1, j => if lo ≤ D j ∧ D j ≤ hi then mGd D lo hi f (j + 1) else j
theorem mGd_r (D : Nat → Int) (lo hi : Int) (f j : Nat) : j ≤ mGd D lo hi f j ∧ mGd D lo hi f j ≤ j + f := by
  induction f generalizing j with
  | zero => simp [mGd]
  | succ f ih =>
    simp only [mGd]
    split
    · have := ih (j + 1); omega
    · omega
theorem mGd_all {D : Nat → Int} {lo hi : Int} (f j : Nat) : ∀ i : Nat, j ≤ i → i < mGd D lo hi f j → lo ≤ D i ∧ D i ≤ hi := by
  induction f generalizing j with
  | zero => intro i h1 h2; simp only [mGd] at h2; omega
  | succ f ih =>
    intro i h1 h2
    simp only [mGd] at h2
    split at h2
    · rename_i hq
      by_cases hi' : i = j
      · rw [hi']; exact hq
      · exact ih (j + 1) i (by omega) h2
    · omega
theorem mGd_t {D : Nat → Int} {lo hi : Int} {m : Int} {n : Nat} (hn : (Nat.cast n : Int) < m) (h : lo ≤ D n ∧ D n ≤ hi) : mGd D lo hi (m.toNat - n) n = mGd D lo hi (m.toNat - (n + 1)) (n + 1) := by
  rw [show m.toNat - n = (m.toNat - (n + 1)) + 1 by omega]; simp only [mGd]; rw [if_pos h]
theorem mGd_f {D : Nat → Int} {lo hi : Int} {m : Int} {n : Nat} (hn : (Nat.cast n : Int) < m) (h : ¬ (lo ≤ D n ∧ D n ≤ hi)) : mGd D lo hi (m.toNat - n) n = n := by
  rw [show m.toNat - n = (m.toNat - (n + 1)) + 1 by omega]; simp only [mGd]; rw [if_neg h]
theorem mGd_e {D : Nat → Int} {lo hi : Int} {m : Int} {n : Nat} (hn : m ≤ (Nat.cast n : Int)) : mGd D lo hi (m.toNat - n) n = n := by
  rw [show m.toNat - n = 0 by omega]; rfl
def mFg (tx : Nat → Int) (kn sp m lo hi : Int) : Nat := mGd (mDg tx kn sp) lo hi m.toNat 0
theorem mFg_r (tx : Nat → Int) (kn sp m lo hi : Int) : mFg tx kn sp m lo hi ≤ m.toNat := by
  have := mGd_r (mDg tx kn sp) lo hi m.toNat 0
  unfold mFg; omega
theorem bP_iff {p q : Prop} (h : bP p = bP q) : p ↔ q := ⟨fun a => bP_1 (by rw [← h, bP_t a]; omega), fun a => bP_1 (by rw [h, bP_t a]; omega)⟩
theorem bP_if {q : Prop} [Decidable q] : bP q = bP ((if q then (1 : Int) else 0) = 1) := by
  by_cases h : q
  · rw [bP_t h, if_pos h, bP_t rfl]
  · rw [bP_f h, if_neg h, bP_f (by omega)]
abbrev mI4 : Type := Int × Int × (Nat → Int) × Int
/-- so many figures told: whether so, the place behind them, the row that is read, the rows told -/
def mFig (tx : Nat → Int) (kn sp : Int) (rd : Nat → Int) (to m lo hi rr : Int) : mI4 := (if (Nat.cast (mFg tx kn sp m lo hi) : Int) = m then 1 else 0, sp + (Nat.cast (mFg tx kn sp m lo hi) : Int), sPut rd to.toNat (mFg tx kn sp m lo hi) (mDg tx kn sp), rr)
def mItm (tx : Nat → Int) (kn le sp : Int) (rd : Nat → Int) (rr : Int) : mI4 :=
  if ¬ (le = 103 ↔ rd 0 = 0) then (0, sp, rd, rr) else if le = 103 then mFig tx kn sp rd 0 2 3 9 rr else if le = 108 then mFig tx kn sp rd 2 4 0 7 rr else if le = 114 then (if rr + 1 ≤ rd 1 then mFig tx kn sp rd (7 + 9 * rr) (rd 0) 0 9 (rr + 1) else (0, sp, rd, rr + 1)) else if le = 115 then mFig tx kn sp rd 6 1 2 6 rr else (0, sp, rd, rr)
section MI
variable {tx rd : Nat → Int} {kn le sp rr : Int}
theorem mItm_x (h : ¬ (le = 103 ↔ rd 0 = 0)) : mItm tx kn le sp rd rr = (0, sp, rd, rr) := by unfold mItm; rw [if_pos h]
theorem mItm_g (h : le = 103 ↔ rd 0 = 0) (k : le = 103) : mItm tx kn le sp rd rr = mFig tx kn sp rd 0 2 3 9 rr := by unfold mItm; rw [if_neg (fun q => q h), if_pos k]
theorem mItm_l (h : le = 103 ↔ rd 0 = 0) (k : le = 108) : mItm tx kn le sp rd rr = mFig tx kn sp rd 2 4 0 7 rr := by unfold mItm; rw [if_neg (fun q => q h), if_neg (by omega), if_pos k]
theorem mItm_r (h : le = 103 ↔ rd 0 = 0) (k : le = 114) (k2 : rr + 1 ≤ rd 1) : mItm tx kn le sp rd rr = mFig tx kn sp rd (7 + 9 * rr) (rd 0) 0 9 (rr + 1) := by unfold mItm; rw [if_neg (fun q => q h), if_neg (by omega), if_neg (by omega), if_pos k, if_pos k2]
theorem mItm_rn (h : le = 103 ↔ rd 0 = 0) (k : le = 114) (k2 : ¬ rr + 1 ≤ rd 1) : mItm tx kn le sp rd rr = (0, sp, rd, rr + 1) := by unfold mItm; rw [if_neg (fun q => q h), if_neg (by omega), if_neg (by omega), if_pos k, if_neg k2]
theorem mItm_s (h : le = 103 ↔ rd 0 = 0) (k : le = 115) : mItm tx kn le sp rd rr = mFig tx kn sp rd 6 1 2 6 rr := by unfold mItm; rw [if_neg (fun q => q h), if_neg (by omega), if_neg (by omega), if_neg (by omega), if_pos k]
theorem mItm_d (h : le = 103 ↔ rd 0 = 0) (k : ¬ le = 103 ∧ ¬ le = 108 ∧ ¬ le = 114 ∧ ¬ le = 115) : mItm tx kn le sp rd rr = (0, sp, rd, rr) := by unfold mItm; rw [if_neg (fun q => q h), if_neg k.1, if_neg k.2.1, if_neg k.2.2.1, if_neg k.2.2.2]
end MI
def rOK (rd : Nat → Int) (rr : Int) : Prop := (0 ≤ rd 0 ∧ rd 0 ≤ 9 ∧ 0 ≤ rd 1 ∧ rd 1 ≤ 9) ∧ 0 ≤ rr ∧ rr ≤ 9
theorem mFig_sp (tx : Nat → Int) (kn sp : Int) (rd : Nat → Int) (to m lo hi rr : Int) (hm : 0 ≤ m ∧ m ≤ 9) : sp ≤ (mFig tx kn sp rd to m lo hi rr).2.1 ∧ (mFig tx kn sp rd to m lo hi rr).2.1 ≤ sp + 9 := by
  have := mFg_r tx kn sp m lo hi
  unfold mFig; simp only; omega
theorem mItm_sp {tx rd : Nat → Int} {kn le sp rr : Int} (h : rOK rd rr) : sp ≤ (mItm tx kn le sp rd rr).2.1 ∧ (mItm tx kn le sp rd rr).2.1 ≤ sp + 9 := by
  obtain ⟨⟨a1, a2, a3, a4⟩, a5, a6⟩ := h
  unfold mItm
  repeat' split
  all_goals first | exact mFig_sp _ _ _ _ _ _ _ _ _ (by omega) | (simp only; omega)
theorem mFig_ok {tx : Nat → Int} {kn sp : Int} {rd : Nat → Int} {to m lo hi rr : Int} (h : (mFig tx kn sp rd to m lo hi rr).1 = 1) : (Nat.cast (mFg tx kn sp m lo hi) : Int) = m := by
  unfold mFig at h
  simp only at h
  split at h
  · assumption
  · omega
theorem sPut_out {g f : Nat → Int} {a j k : Nat} (h : k < a) : sPut g a j f k = g k := by unfold sPut; rw [if_neg (by omega)]
theorem sPut_in {g f : Nat → Int} {a j k : Nat} (h : k < j) : sPut g a j f (a + k) = f k := by unfold sPut; rw [if_pos (by omega)]; congr 1; omega
theorem mItm_ok {tx rd : Nat → Int} {kn le sp rr : Int} (h : rOK rd rr) (ho : (mItm tx kn le sp rd rr).1 = 1) : rOK (mItm tx kn le sp rd rr).2.2.1 (mItm tx kn le sp rd rr).2.2.2 := by
  obtain ⟨⟨a1, a2, a3, a4⟩, a5, a6⟩ := h
  by_cases q : le = 103 ↔ rd 0 = 0
  · by_cases k1 : le = 103
    · rw [mItm_g q k1] at ho ⊢
      have e := mFig_ok ho
      have e2 : mFg tx kn sp 2 3 9 = 2 := by omega
      have g0 := mGd_all (D := mDg tx kn sp) (lo := 3) (hi := 9) (2 : Int).toNat 0 0 (by omega) (by unfold mFg at e2; omega)
      have g1 := mGd_all (D := mDg tx kn sp) (lo := 3) (hi := 9) (2 : Int).toNat 0 1 (by omega) (by unfold mFg at e2; omega)
      unfold mFig
      simp only
      rw [e2]
      have w0 : sPut rd (0 : Int).toNat 2 (mDg tx kn sp) 0 = mDg tx kn sp 0 := sPut_in (a := 0) (k := 0) (by omega)
      have w1 : sPut rd (0 : Int).toNat 2 (mDg tx kn sp) 1 = mDg tx kn sp 1 := sPut_in (a := 0) (k := 1) (by omega)
      refine ⟨⟨?_, ?_, ?_, ?_⟩, a5, a6⟩
      · rw [w0]; omega
      · rw [w0]; omega
      · rw [w1]; omega
      · rw [w1]; omega
    · have far : ∀ (to m lo hi r2 : Int), 2 ≤ to → 0 ≤ r2 ∧ r2 ≤ 9 → rOK (mFig tx kn sp rd to m lo hi r2).2.2.1 (mFig tx kn sp rd to m lo hi r2).2.2.2 := fun to m lo hi r2 ht hr => by
        unfold mFig rOK
        simp only
        rw [sPut_out (k := 0) (by omega), sPut_out (k := 1) (by omega)]
        exact ⟨⟨a1, a2, a3, a4⟩, hr.1, hr.2⟩
      by_cases k2 : le = 108
      · rw [mItm_l q k2]; exact far _ _ _ _ _ (by omega) (by omega)
      · by_cases k3 : le = 114
        · by_cases k4 : rr + 1 ≤ rd 1
          · rw [mItm_r q k3 k4]; exact far _ _ _ _ _ (by omega) (by omega)
          · rw [mItm_rn q k3 k4] at ho; simp only at ho; omega
        · by_cases k5 : le = 115
          · rw [mItm_s q k5]; exact far _ _ _ _ _ (by omega) (by omega)
          · rw [mItm_d q ⟨k1, k2, k3, k5⟩] at ho; simp only at ho; omega
  · rw [mItm_x q] at ho; simp only at ho; omega
/-- the reading: the fault or -4, the place, the row that is read, the rows told -/
def mRd (tx : Nat → Int) (kn : Int) : Nat → Int → (Nat → Int) → Int → mI4
  | 0, sp, rd, rr => (-4, sp, rd, rr)
  | f + 1, sp, rd, rr => if kn ≤ sp then (-4, sp, rd, rr) else if (mItm tx kn (tx sp.toNat) (sp + 1) rd rr).1 = 1 ∧ nLet tx kn (mItm tx kn (tx sp.toNat) (sp + 1) rd rr).2.1 = 59 then mRd tx kn f ((mItm tx kn (tx sp.toNat) (sp + 1) rd rr).2.1 + 1) (mItm tx kn (tx sp.toNat) (sp + 1) rd rr).2.2.1 (mItm tx kn (tx sp.toNat) (sp + 1) rd rr).2.2.2 else (sp, (mItm tx kn (tx sp.toNat) (sp + 1) rd rr).2)
section MR
variable {tx rd : Nat → Int} {kn sp rr : Int} {f : Nat}
theorem mRd_e (h : kn ≤ sp) : mRd tx kn f sp rd rr = (-4, sp, rd, rr) := by
  cases f with
  | zero => rfl
  | succ f => simp only [mRd]; rw [if_pos h]
theorem mRd_n (hf : 0 < f) (h : ¬ kn ≤ sp) (h2 : ¬ ((mItm tx kn (tx sp.toNat) (sp + 1) rd rr).1 = 1 ∧ nLet tx kn (mItm tx kn (tx sp.toNat) (sp + 1) rd rr).2.1 = 59)) : mRd tx kn f sp rd rr = (sp, (mItm tx kn (tx sp.toNat) (sp + 1) rd rr).2) := by
  obtain ⟨k, rfl⟩ : ∃ k, f = k + 1 := ⟨f - 1, by omega⟩
  simp only [mRd]; rw [if_neg h, if_neg h2]
theorem mRd_s (hf : 0 < f) (h : ¬ kn ≤ sp) (h2 : (mItm tx kn (tx sp.toNat) (sp + 1) rd rr).1 = 1 ∧ nLet tx kn (mItm tx kn (tx sp.toNat) (sp + 1) rd rr).2.1 = 59) : mRd tx kn f sp rd rr = mRd tx kn (f - 1) ((mItm tx kn (tx sp.toNat) (sp + 1) rd rr).2.1 + 1) (mItm tx kn (tx sp.toNat) (sp + 1) rd rr).2.2.1 (mItm tx kn (tx sp.toNat) (sp + 1) rd rr).2.2.2 := by
  obtain ⟨k, rfl⟩ : ∃ k, f = k + 1 := ⟨f - 1, by omega⟩
  simp only [mRd]; rw [if_neg h, if_pos h2]; rfl
end MR
theorem nLet_59 {tx : Nat → Int} {kn a : Int} (h : nLet tx kn a = 59) : a < kn := by
  unfold nLet at h
  split at h
  · assumption
  · omega
def nClr (rf : Nat → Int) : Nat → Int := fun k => if k < 249 then (if 2 ≤ k ∧ k < 6 then 7 else if k = 6 then 4 else 0) else rf k
theorem nClr_eq (rf : Nat → Int) : uI (sPut (zFill 249 0 rf) 2 4 (fun _ => 7)) 6 4 = nClr rf := by
  funext k
  unfold uI sPut zFill nClr
  by_cases h : k = 6
  · rw [if_pos h, if_pos (by omega), if_neg (by omega), if_pos h]
  · rw [if_neg h]
    by_cases h2 : 2 ≤ k ∧ k < 6
    · rw [if_pos (by omega), if_pos (by omega), if_pos h2]
    · rw [if_neg (by omega)]
      by_cases h3 : k < 249
      · rw [if_pos h3, if_pos h3, if_neg h2, if_neg h]
      · rw [if_neg h3, if_neg h3]
theorem rOK_clr (rf : Nat → Int) : rOK (nClr rf) 0 := by unfold rOK nClr; simp
/-- laid: the answer, what can be undone, the row -/
def mLy (D : mI4) (un : Int) (nw : Nat → Int) : Int × Int × (Nat → Int) := if D.1 = -4 ∧ ¬ D.2.2.1 0 = 0 then (D.2.2.1 0 * D.2.2.1 1, 0, zTake 249 D.2.2.1 nw) else (-2, un, nw)
theorem mLy_t {D : mI4} {un : Int} {nw : Nat → Int} (h : D.1 = -4 ∧ ¬ D.2.2.1 0 = 0) : mLy D un nw = (D.2.2.1 0 * D.2.2.1 1, 0, zTake 249 D.2.2.1 nw) := by unfold mLy; rw [if_pos h]
theorem mLy_f {D : mI4} {un : Int} {nw : Nat → Int} (h : ¬ (D.1 = -4 ∧ ¬ D.2.2.1 0 = 0)) : mLy D un nw = (-2, un, nw) := by unfold mLy; rw [if_neg h]
theorem mRd_r {tx : Nat → Int} {kn : Int} (f : Nat) {sp : Int} {rd : Nat → Int} {rr : Int} (h : rOK rd rr) (hs : 0 ≤ sp ∧ sp ≤ kn) : -4 ≤ (mRd tx kn f sp rd rr).1 ∧ (mRd tx kn f sp rd rr).1 ≤ kn ∧ ((mRd tx kn f sp rd rr).1 = -4 → rOK (mRd tx kn f sp rd rr).2.2.1 (mRd tx kn f sp rd rr).2.2.2) := by
  induction f generalizing sp rd rr with
  | zero => exact ⟨by simp [mRd], by simp only [mRd]; omega, fun _ => h⟩
  | succ f ih =>
    simp only [mRd]
    split
    · exact ⟨by simp, by simp only; omega, fun _ => h⟩
    · split
      · rename_i q
        have h1 := mItm_sp (tx := tx) (kn := kn) (le := tx sp.toNat) (sp := sp + 1) h
        have h2 := nLet_59 q.2
        exact ih (mItm_ok h q.1) (by omega)
      · refine ⟨by simp only; omega, by simp only; omega, fun q => ?_⟩
        simp only at q; omega
/-! the row of what can be undone -/
def mShf (bf : Nat → Int) (n : Nat) : Nat → Int := fun k => if k < n then bf (249 + k) else bf k
theorem mShf_0 (bf : Nat → Int) : mShf bf 0 = bf := by funext k; simp [mShf]
theorem mShf_s (bf : Nat → Int) (n : Nat) : uI (mShf bf n) n (mShf bf n (249 + n)) = mShf bf (n + 1) := by
  funext k
  unfold uI mShf
  by_cases h : k = n
  · subst h; rw [if_pos rfl, if_neg (by omega), if_pos (by omega)]
  · rw [if_neg h]
    by_cases h2 : k < n
    · rw [if_pos h2, if_pos (by omega)]
    · rw [if_neg h2, if_neg (by omega)]
def mNt (un : Int) (bf nw : Nat → Int) : Int × (Nat → Int) := if un = 6 then (6, sPut (mShf bf 1245) 1245 249 nw) else (un + 1, sPut bf (249 * un).toNat 249 nw)
def mBk (bf : Nat → Int) (u : Int) : Nat → Int := fun k => bf (249 * u.toNat + k)
def mUd (un : Int) (bf nw : Nat → Int) : Int × Int × (Nat → Int) := if un = 0 then (-2, un, nw) else (un - 1, un - 1, zTake 249 (mBk bf (un - 1)) nw)
theorem mUd_0 {un : Int} {bf nw : Nat → Int} (h : un = 0) : mUd un bf nw = (-2, un, nw) := by unfold mUd; rw [if_pos h]
theorem mUd_s {un : Int} {bf nw : Nat → Int} (h : ¬ un = 0) : mUd un bf nw = (un - 1, un - 1, zTake 249 (mBk bf (un - 1)) nw) := by unfold mUd; rw [if_neg h]
/-- an answer, how much can be undone, the row of it, the row now -/
abbrev mS4 : Type := Int × Int × (Nat → Int) × (Nat → Int)
def mBec (un : Int) (bf nw : Nat → Int) (at_ v : Int) : mS4 := if nw at_.toNat = v then (-2, un, bf, nw) else (nw at_.toNat, (mNt un bf nw).1, (mNt un bf nw).2, uI nw at_.toNat v)
theorem mBec_t {un : Int} {bf nw : Nat → Int} {a v : Int} (h : nw a.toNat = v) : mBec un bf nw a v = (-2, un, bf, nw) := by unfold mBec; rw [if_pos h]
theorem mBec_f {un : Int} {bf nw : Nat → Int} {a v : Int} (h : ¬ nw a.toNat = v) : mBec un bf nw a v = (nw a.toNat, (mNt un bf nw).1, (mNt un bf nw).2, uI nw a.toNat v) := by unfold mBec; rw [if_neg h]
def mLi (un : Int) (bf nw : Nat → Int) (q d : Int) : mS4 := if (0 ≤ q ∧ q ≤ 3) ∧ 0 ≤ d ∧ d ≤ 7 then mBec un bf nw (2 + q) d else (-1, un, bf, nw)
theorem mLi_t {un : Int} {bf nw : Nat → Int} {q d : Int} (h : (0 ≤ q ∧ q ≤ 3) ∧ 0 ≤ d ∧ d ≤ 7) : mLi un bf nw q d = mBec un bf nw (2 + q) d := by unfold mLi; rw [if_pos h]
theorem mLi_f {un : Int} {bf nw : Nat → Int} {q d : Int} (h : ¬ ((0 ≤ q ∧ q ≤ 3) ∧ 0 ≤ d ∧ d ≤ 7)) : mLi un bf nw q d = (-1, un, bf, nw) := by unfold mLi; rw [if_neg h]
def mSh (un : Int) (bf nw : Nat → Int) (n : Int) : mS4 := if 2 ≤ n ∧ n ≤ 6 then mBec un bf nw 6 n else (-1, un, bf, nw)
theorem mSh_t {un : Int} {bf nw : Nat → Int} {n : Int} (h : 2 ≤ n ∧ n ≤ 6) : mSh un bf nw n = mBec un bf nw 6 n := by unfold mSh; rw [if_pos h]
theorem mSh_f {un : Int} {bf nw : Nat → Int} {n : Int} (h : ¬ (2 ≤ n ∧ n ≤ 6)) : mSh un bf nw n = (-1, un, bf, nw) := by unfold mSh; rw [if_neg h]
/-- eight on, from a place on -/
def zS8 (a j : Nat) (nw : Nat → Int) : Nat → Int := fun k => if a ≤ k ∧ k < a + j then nw (k + 8) else nw k
theorem zS8_0 (a : Nat) (nw : Nat → Int) : zS8 a 0 nw = nw := by funext k; unfold zS8; rw [if_neg (by omega)]
theorem zS8_s (a j : Nat) (nw : Nat → Int) : uI (zS8 a j nw) (a + j) (zS8 a j nw (a + j + 8)) = zS8 a (j + 1) nw := by
  funext k
  unfold uI zS8
  by_cases h : k = a + j
  · subst h; rw [if_pos rfl, if_neg (by omega), if_pos (by omega)]
  · rw [if_neg h]
    by_cases h2 : a ≤ k ∧ k < a + j
    · rw [if_pos h2, if_pos (by omega)]
    · rw [if_neg h2, if_neg (by omega)]
theorem zS8_lo {a j k : Nat} {nw : Nat → Int} (h : k < a) : zS8 a j nw k = nw k := by unfold zS8; rw [if_neg (by omega)]
def mRb (nw : Nat → Int) (t : Nat) : Nat → Int := uI (zS8 (89 + 8 * t) (8 * ((nw 88).toNat - 1 - t)) nw) 88 (nw 88 - 1)
