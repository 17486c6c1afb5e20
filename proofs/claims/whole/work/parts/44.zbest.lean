/-! the best lights: the nested search is the row of codes -/
noncomputable def stp (K : Nat → Int) (S : lT) (n : Nat) : lT := if bP (mFt K S n) = 1 then (lSum K (mCa n) (mCb n) (mCc n) (mCd n), uI (uI (uI (uI S.2 0 (mCa n)) 1 (mCb n)) 2 (mCc n)) 3 (mCd n)) else S
noncomputable def fo (K : Nat → Int) (S : lT) : Nat → Nat → lT
  | _, 0 => S
  | a, m + 1 => stp K (fo K S a m) (a + m)
theorem fo_add (K : Nat → Int) (S : lT) (a m1 m2 : Nat) : fo K S a (m1 + m2) = fo K (fo K S a m1) (a + m1) m2 := by
  induction m2 with
  | zero => rfl
  | succ m2 ih =>
    show stp K (fo K S a (m1 + m2)) (a + (m1 + m2)) = stp K (fo K (fo K S a m1) (a + m1) m2) (a + m1 + m2)
    rw [ih, show a + (m1 + m2) = a + m1 + m2 by omega]
theorem fo_mFi (K : Nat → Int) (S : lT) (m : Nat) : fo K S 0 m = mFi K S m := by
  induction m with
  | zero => rfl
  | succ m ih =>
    show stp K (fo K S 0 m) (0 + m) = mFi K S (m + 1)
    rw [ih, Nat.zero_add]
    rfl
theorem near_tm {a b : Int} (ha : 0 ≤ a ∧ a < 8) (hb : 0 ≤ b ∧ b < 8) : tNear a b ↔ mNear a b := by
  unfold tNear mNear zabs
  split <;> omega
theorem code_abcd {a b c d : Nat} (ha : a < 8) (hb : b < 8) (hc : c < 8) (hd : d < 8) : mCa (512 * a + 64 * b + 8 * c + d) = (Nat.cast a : Int) ∧ mCb (512 * a + 64 * b + 8 * c + d) = (Nat.cast b : Int) ∧ mCc (512 * a + 64 * b + 8 * c + d) = (Nat.cast c : Int) ∧ mCd (512 * a + 64 * b + 8 * c + d) = (Nat.cast d : Int) := by
  unfold mCa mCb mCc mCd
  refine ⟨by omega, by omega, by omega, by omega⟩
theorem stp_t {K : Nat → Int} {S : lT} {a b c d : Nat} (ha : a < 8) (hb : b < 8) (hc : c < 8) (hd : d < 8) (h1 : tNear (Nat.cast a : Int) (Nat.cast b : Int)) (h2 : tNear (Nat.cast a : Int) (Nat.cast c : Int) ∧ tNear (Nat.cast b : Int) (Nat.cast d : Int) ∧ tNear (Nat.cast c : Int) (Nat.cast d : Int)) : stp K S (512 * a + 64 * b + 8 * c + d) = lKeep K S (Nat.cast a : Int) (Nat.cast b : Int) (Nat.cast c : Int) (Nat.cast d : Int) := by
  obtain ⟨e1, e2, e3, e4⟩ := code_abcd ha hb hc hd
  unfold stp lKeep
  by_cases q : lSum K (Nat.cast a : Int) (Nat.cast b : Int) (Nat.cast c : Int) (Nat.cast d : Int) ≤ S.1
  · rw [if_pos q, if_neg (fun z => by
      have := (bP_1 (q := mFt K S (512 * a + 64 * b + 8 * c + d)) (by rw [z]; omega)).1
      rw [e1, e2, e3, e4] at this
      omega)]
  · rw [if_neg q, if_pos (bP_t ⟨by rw [e1, e2, e3, e4]; omega, by rw [e1, e2]; exact (near_tm (by omega) (by omega)).mp h1, by rw [e3, e4]; exact (near_tm (by omega) (by omega)).mp h2.2.2, by rw [e1, e3]; exact (near_tm (by omega) (by omega)).mp h2.1, by rw [e2, e4]; exact (near_tm (by omega) (by omega)).mp h2.2.1⟩), e1, e2, e3, e4]
theorem stp_f {K : Nat → Int} {S : lT} {a b c d : Nat} (ha : a < 8) (hb : b < 8) (hc : c < 8) (hd : d < 8) (h : ¬ (tNear (Nat.cast a : Int) (Nat.cast b : Int) ∧ tNear (Nat.cast a : Int) (Nat.cast c : Int) ∧ tNear (Nat.cast b : Int) (Nat.cast d : Int) ∧ tNear (Nat.cast c : Int) (Nat.cast d : Int))) : stp K S (512 * a + 64 * b + 8 * c + d) = S := by
  obtain ⟨e1, e2, e3, e4⟩ := code_abcd ha hb hc hd
  unfold stp
  rw [if_neg (fun z => by
    have q := bP_1 (q := mFt K S (512 * a + 64 * b + 8 * c + d)) (by rw [z]; omega)
    obtain ⟨-, q1, q2, q3, q4⟩ := q
    rw [e1, e2] at q1
    rw [e3, e4] at q2
    rw [e1, e3] at q3
    rw [e2, e4] at q4
    exact h ⟨(near_tm (by omega) (by omega)).mpr q1, (near_tm (by omega) (by omega)).mpr q3, (near_tm (by omega) (by omega)).mpr q4, (near_tm (by omega) (by omega)).mpr q2⟩)]
theorem fo_s (K : Nat → Int) (S : lT) (a m : Nat) : fo K S a (m + 1) = fo K (stp K S a) (a + 1) m := by
  have := fo_add K S a 1 m
  rw [show 1 + m = m + 1 by omega] at this
  exact this
theorem lR4_fo {K : Nat → Int} {a b c : Nat} (ha : a < 8) (hb : b < 8) (hc : c < 8) (h : tNear (Nat.cast a : Int) (Nat.cast b : Int)) (f : Nat) : ∀ (n : Nat) (S : lT), n + f ≤ 8 → lR4 K (Nat.cast a : Int) (Nat.cast b : Int) (Nat.cast c : Int) f n S = fo K S (512 * a + 64 * b + 8 * c + n) f := by
  induction f with
  | zero => intro n S _; rfl
  | succ f ih =>
    intro n S hn
    rw [fo_s]
    simp only [lR4]
    rw [ih (n + 1) _ (by omega)]
    by_cases q : tNear (Nat.cast a : Int) (Nat.cast c : Int) ∧ tNear (Nat.cast b : Int) (Nat.cast n : Int) ∧ tNear (Nat.cast c : Int) (Nat.cast n : Int)
    · rw [if_pos (bP_t q), stp_t ha hb hc (by omega) h q]; rfl
    · rw [if_neg (by rw [bP_f q]; omega), stp_f ha hb hc (by omega) (fun z => q z.2)]; rfl
theorem lR3_fo {K : Nat → Int} {a b : Nat} (ha : a < 8) (hb : b < 8) (h : tNear (Nat.cast a : Int) (Nat.cast b : Int)) (f : Nat) : ∀ (n : Nat) (S : lT), n + f ≤ 8 → lR3 K (Nat.cast a : Int) (Nat.cast b : Int) f n S = fo K S (512 * a + 64 * b + 8 * n) (8 * f) := by
  induction f with
  | zero => intro n S _; rfl
  | succ f ih =>
    intro n S hn
    simp only [lR3]
    rw [ih (n + 1) _ (by omega), lR4_fo ha hb (by omega) h 8 0 S (by omega), show 8 * (f + 1) = 8 + 8 * f by omega, fo_add]
    rfl
theorem fo_id {K : Nat → Int} {a : Nat} (m : Nat) (h : ∀ (S : lT) (k : Nat), k < m → stp K S (a + k) = S) (S : lT) : fo K S a m = S := by
  induction m with
  | zero => rfl
  | succ m ih =>
    show stp K (fo K S a m) (a + m) = S
    rw [h _ m (by omega)]
    exact ih (fun S k hk => h S k (by omega))
theorem lR2_fo {K : Nat → Int} {a : Nat} (ha : a < 8) (f : Nat) : ∀ (n : Nat) (S : lT), n + f ≤ 8 → lR2 K (Nat.cast a : Int) f n S = fo K S (512 * a + 64 * n) (64 * f) := by
  induction f with
  | zero => intro n S _; rfl
  | succ f ih =>
    intro n S hn
    simp only [lR2]
    rw [ih (n + 1) _ (by omega), show 64 * (f + 1) = 64 + 64 * f by omega, fo_add, show 512 * a + 64 * n + 64 = 512 * a + 64 * (n + 1) by omega]
    congr 1
    by_cases q : tNear (Nat.cast a : Int) (Nat.cast n : Int)
    · rw [if_pos (bP_t q), lR3_fo ha (by omega) q 8 0 S (by omega)]
      rfl
    · rw [if_neg (by rw [bP_f q]; omega)]
      refine (fo_id 64 (fun S k hk => ?_) S).symm
      have e : 512 * a + 64 * n + k = 512 * a + 64 * n + 8 * (k / 8) + k % 8 := by omega
      rw [e]
      exact stp_f ha (by omega) (by omega) (by omega) (fun z => q z.1)
theorem lR1_fo {K : Nat → Int} (f : Nat) : ∀ (n : Nat) (S : lT), n + f ≤ 8 → lR1 K f n S = fo K S (512 * n) (512 * f) := by
  induction f with
  | zero => intro n S _; rfl
  | succ f ih =>
    intro n S hn
    simp only [lR1]
    rw [ih (n + 1) _ (by omega), lR2_fo (by omega) 8 0 S (by omega), show 512 * (f + 1) = 512 + 512 * f by omega, fo_add]
    rfl
theorem lR1_mFi (K : Nat → Int) (S : lT) : lR1 K 8 0 S = mFi K S 4096 := by
  rw [lR1_fo 8 0 S (by omega), ← fo_mFi]
theorem lSum_c {K K2 : Nat → Int} (h : ∀ k : Nat, k < 32 → K k = K2 k) {a b c d : Int} (ha : 0 ≤ a ∧ a < 8) (hb : 0 ≤ b ∧ b < 8) (hc : 0 ≤ c ∧ c < 8) (hd : 0 ≤ d ∧ d < 8) : lSum K a b c d = lSum K2 a b c d := by
  unfold lSum
  rw [h _ (by omega), h _ (by omega), h _ (by omega), h _ (by omega)]
theorem code_r {n : Nat} (hn : n < 4096) : (0 ≤ mCa n ∧ mCa n < 8) ∧ (0 ≤ mCb n ∧ mCb n < 8) ∧ (0 ≤ mCc n ∧ mCc n < 8) ∧ 0 ≤ mCd n ∧ mCd n < 8 := by
  unfold mCa mCb mCc mCd
  omega
theorem mFi_eq {K K2 : Nat → Int} (h : ∀ k : Nat, k < 32 → K k = K2 k) {s : Int} {f g : Nat → Int} (n : Nat) (hn : n ≤ 4096) : (mFi K (s, f) n).1 = (mFi K2 (s, g) n).1 ∧ ((mFi K (s, f) n).1 = s ∨ ∀ k : Nat, k < 4 → (mFi K (s, f) n).2 k = (mFi K2 (s, g) n).2 k) ∧ s ≤ (mFi K (s, f) n).1 := by
  induction n with
  | zero => exact ⟨rfl, Or.inl rfl, Int.le_refl _⟩
  | succ n ih =>
    obtain ⟨a, b, d⟩ := ih (by omega)
    obtain ⟨r1, r2, r3, r4⟩ := code_r (n := n) (by omega)
    have e := lSum_c h r1 r2 r3 r4
    by_cases q : mFt K (mFi K (s, f) n) n
    · have q2 : mFt K2 (mFi K2 (s, g) n) n := ⟨by rw [← a, ← e]; exact q.1, q.2⟩
      rw [mFi_t q, mFi_t q2]
      refine ⟨e, Or.inr (fun k hk => ?_), ?_⟩
      · simp only
        rcases (show k = 0 ∨ k = 1 ∨ k = 2 ∨ k = 3 by omega) with rfl | rfl | rfl | rfl <;> rfl
      · simp only
        have := q.1
        omega
    · have q2 : ¬ mFt K2 (mFi K2 (s, g) n) n := fun z => q ⟨by rw [a, e]; exact z.1, z.2⟩
      rw [mFi_f q, mFi_f q2]
      exact ⟨a, b, d⟩
theorem mFi_8 {K : Nat → Int} {s : Int} {f : Nat → Int} (hf : ∀ k : Nat, 0 ≤ f k ∧ f k < 8) (n : Nat) (hn : n ≤ 4096) : ∀ k : Nat, 0 ≤ (mFi K (s, f) n).2 k ∧ (mFi K (s, f) n).2 k < 8 := by
  induction n with
  | zero => exact hf
  | succ n ih =>
    obtain ⟨r1, r2, r3, r4⟩ := code_r (n := n) (by omega)
    by_cases q : mFt K (mFi K (s, f) n) n
    · rw [mFi_t q]
      exact uI_r' (uI_r' (uI_r' (uI_r' (ih (by omega)) r1) r2) r3) r4
    · rw [mFi_f q]; exact ih (by omega)
theorem mFi_mono {K : Nat → Int} {S : lT} (m d : Nat) : (mFi K S m).1 ≤ (mFi K S (m + d)).1 := by
  induction d with
  | zero => exact Int.le_refl _
  | succ d ih =>
    rw [show m + (d + 1) = (m + d) + 1 by omega]
    by_cases q : mFt K (mFi K S (m + d)) (m + d)
    · rw [mFi_t q]; have := q.1; simp only; omega
    · rw [mFi_f q]; exact ih
/-- class and reference find the same lights -/
theorem an_best {nw kF kf bF lq : Nat → Int} (hM : mOK nw) (hbF : ∀ k : Nat, 0 ≤ bF k ∧ bF k < 8) (hlq : ∀ k : Nat, 0 ≤ lq k ∧ lq k < 8) (hk : ∀ k : Nat, -36 ≤ kF k ∧ kF k ≤ 36) : 
    (lR1 (zTake 32 (gK (nw 0) (nw 1) (nG nw)) kF) 8 0 (-1, bF)).1 = (mFi (zTake 32 (gK (nw 0) (nw 1) (nG nw)) kf) (-1, lq) 4096).1 ∧ (∀ k : Nat, k < 4 → (lR1 (zTake 32 (gK (nw 0) (nw 1) (nG nw)) kF) 8 0 (-1, bF)).2 k = (mFi (zTake 32 (gK (nw 0) (nw 1) (nG nw)) kf) (-1, lq) 4096).2 k) ∧ (∀ k : Nat, 0 ≤ (lR1 (zTake 32 (gK (nw 0) (nw 1) (nG nw)) kF) 8 0 (-1, bF)).2 k ∧ (lR1 (zTake 32 (gK (nw 0) (nw 1) (nG nw)) kF) 8 0 (-1, bF)).2 k < 8) ∧ (∀ k : Nat, 0 ≤ (mFi (zTake 32 (gK (nw 0) (nw 1) (nG nw)) kf) (-1, lq) 4096).2 k ∧ (mFi (zTake 32 (gK (nw 0) (nw 1) (nG nw)) kf) (-1, lq) 4096).2 k < 8) ∧ 0 ≤ (mFi (zTake 32 (gK (nw 0) (nw 1) (nG nw)) kf) (-1, lq) 4096).1 ∧ (mFi (zTake 32 (gK (nw 0) (nw 1) (nG nw)) kf) (-1, lq) 4096).1 ≤ 144 := by
  rw [lR1_mFi]
  have hc : ∀ k : Nat, k < 32 → zTake 32 (gK (nw 0) (nw 1) (nG nw)) kF k = zTake 32 (gK (nw 0) (nw 1) (nG nw)) kf k := fun k hk => by
    unfold zTake; rw [if_pos hk, if_pos hk]
  obtain ⟨a, b, d⟩ := mFi_eq hc (s := -1) (f := bF) (g := lq) 4096 (Nat.le_refl _)
  have pos : 0 ≤ (mFi (zTake 32 (gK (nw 0) (nw 1) (nG nw)) kF) (-1, bF) 4096).1 := by
    have m := mFi_mono (K := zTake 32 (gK (nw 0) (nw 1) (nG nw)) kF) (S := (-1, bF)) 1 4095
    have g0 : ∀ k : Nat, k < 32 → 0 ≤ zTake 32 (gK (nw 0) (nw 1) (nG nw)) kF k := fun k hk => by
      unfold zTake
      rw [if_pos hk]
      exact (gContrast_m hM.1 hM.2.1 (q := (Nat.cast k : Int) / 8) (d := (Nat.cast k : Int) % 8) (by omega) (n := (9 * nw 1).toNat) (by have := hM.1.2.2.1; omega)).2
    have s0 : 0 ≤ lSum (zTake 32 (gK (nw 0) (nw 1) (nG nw)) kF) (mCa 0) (mCb 0) (mCc 0) (mCd 0) := by
      show 0 ≤ lSum (zTake 32 (gK (nw 0) (nw 1) (nG nw)) kF) 0 0 0 0
      unfold lSum
      have h1 := g0 (0 : Int).toNat (by decide)
      have h2 := g0 (8 + 0 : Int).toNat (by decide)
      have h3 := g0 (16 + 0 : Int).toNat (by decide)
      have h4 := g0 (24 + 0 : Int).toNat (by decide)
      omega
    have t0 : mFt (zTake 32 (gK (nw 0) (nw 1) (nG nw)) kF) (mFi (zTake 32 (gK (nw 0) (nw 1) (nG nw)) kF) (-1, bF) 0) 0 := by
      have n0 : mNear 0 0 := by unfold mNear zabs; simp
      exact ⟨by show (-1 : Int) < _; omega, n0, n0, n0, n0⟩
    have e1 : (mFi (zTake 32 (gK (nw 0) (nw 1) (nG nw)) kF) (-1, bF) 1).1 = lSum (zTake 32 (gK (nw 0) (nw 1) (nG nw)) kF) (mCa 0) (mCb 0) (mCc 0) (mCd 0) := by rw [mFi_t t0]
    rw [e1] at m
    exact Int.le_trans s0 m
  have up := mFi_r (zTake_r (gK_r hM.1) hk 32) (S0 := (-1, bF)) (by unfold lOK; simp) 4096
  refine ⟨a, fun k hk => ?_, mFi_8 hbF 4096 (Nat.le_refl _), mFi_8 hlq 4096 (Nat.le_refl _), by rw [← a]; exact pos, by rw [← a]; exact up.2⟩
  exact (b.resolve_left (by omega)) k hk
