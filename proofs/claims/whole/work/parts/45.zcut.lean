/-! the shades: tones in a row, errors, cuts -/
theorem sumN_add (f g : Nat → Int) (n : Nat) : sumN (fun k => f k + g k) n = sumN f n + sumN g n := by
  induction n with
  | zero => rfl
  | succ n ih => simp only [sumN]; rw [ih]; omega
theorem sumN_b1 {P : Nat → Prop} {n k : Nat} (hk : k < n) (h : P k) : 1 ≤ sumN (fun c => bP (P c)) n := by
  induction n with
  | zero => omega
  | succ n ih =>
    have b := bP_r (P n)
    have c := sumN_r (P := P) n
    simp only [sumN]
    by_cases q : k = n
    · subst q; rw [bP_t h] at *; omega
    · have := ih (by omega); omega
/-- all tallies together are cells -/
theorem tal_sum {A : Nat → Prop} {f : Nat → Int} (hf : ∀ c : Nat, A c → 0 ≤ f c) (n : Nat) : sumN (fun j => sumN (fun c => bP (A c ∧ f c = (Nat.cast j : Int))) 81) n = sumN (fun c => bP (A c ∧ f c < (Nat.cast n : Int))) 81 := by
  induction n with
  | zero =>
    refine Eq.symm (Eq.trans (sumN_c (g := fun _ => 0) (fun k _ => bP_f (fun q => by have := hf k q.1; have := q.2; omega))) ?_)
    have : ∀ m : Nat, sumN (fun _ => (0 : Int)) m = 0 := fun m => by
      induction m with
      | zero => rfl
      | succ m ih => simp only [sumN]; omega
    rw [this]; rfl
  | succ n ih =>
    show sumN _ n + sumN (fun c => bP (A c ∧ f c = (Nat.cast n : Int))) 81 = _
    rw [ih, ← sumN_add]
    refine sumN_c (fun c _ => ?_)
    by_cases q : A c
    · rcases Int.lt_trichotomy (f c) (Nat.cast n : Int) with h | h | h
      · rw [bP_t ⟨q, h⟩, bP_f (fun z => by have := z.2; omega), bP_t ⟨q, by omega⟩]; rfl
      · rw [bP_f (fun z => by have := z.2; omega), bP_t ⟨q, h⟩, bP_t ⟨q, by omega⟩]; rfl
      · rw [bP_f (fun z => by have := z.2; omega), bP_f (fun z => by have := z.2; omega), bP_f (fun z => by have := z.2; omega)]; rfl
    · rw [bP_f (fun z => q z.1), bP_f (fun z => q z.1), bP_f (fun z => q z.1)]; rfl
/-- the two rows of tones are one -/
theorem gat {t tn0 ca0 sa0 tnF ofF : Nat → Int} (ht : ∀ k : Nat, k < 37 → 0 ≤ t k ∧ t k ≤ 81) (hc : ca0 0 = 0) (hs : sa0 0 = 0) (n : Nat) (hn : n ≤ 37) :
    (xLine t (0, tn0, ca0, sa0) n).1 = (mGa t (0, tnF, ofF) n).1 ∧ (0 ≤ (mGa t (0, tnF, ofF) n).1 ∧ (mGa t (0, tnF, ofF) n).1 ≤ n) ∧
    (∀ k : Nat, (Nat.cast k : Int) < (mGa t (0, tnF, ofF) n).1 → (xLine t (0, tn0, ca0, sa0) n).2.1 k = (mGa t (0, tnF, ofF) n).2.1 k ∧ (1 ≤ (mGa t (0, tnF, ofF) n).2.2 k ∧ (mGa t (0, tnF, ofF) n).2.2 k ≤ 81) ∧ -18 ≤ (mGa t (0, tnF, ofF) n).2.1 k ∧ (mGa t (0, tnF, ofF) n).2.1 k < (Nat.cast n : Int) - 18) ∧
    (∀ i j : Nat, i < j → (Nat.cast j : Int) < (mGa t (0, tnF, ofF) n).1 → (mGa t (0, tnF, ofF) n).2.1 i < (mGa t (0, tnF, ofF) n).2.1 j) ∧
    (∀ k : Nat, (Nat.cast k : Int) ≤ (mGa t (0, tnF, ofF) n).1 → (xLine t (0, tn0, ca0, sa0) n).2.2.1 k = sumN (mGa t (0, tnF, ofF) n).2.2 k ∧ (xLine t (0, tn0, ca0, sa0) n).2.2.2 k = sumN (mTs (mGa t (0, tnF, ofF) n).2.1 (mGa t (0, tnF, ofF) n).2.2) k) ∧
    sumN (mGa t (0, tnF, ofF) n).2.2 (mGa t (0, tnF, ofF) n).1.toNat = sumN t n ∧
    (∀ j : Nat, j < n → 0 < t j → ∃ i : Nat, (Nat.cast i : Int) < (mGa t (0, tnF, ofF) n).1 ∧ (mGa t (0, tnF, ofF) n).2.1 i = (Nat.cast j : Int) - 18) := by
  induction n with
  | zero =>
    refine ⟨rfl, ⟨by simp [mGa], by simp [mGa]⟩, fun k hk => ?_, fun i j _ hj => ?_, fun k hk => ?_, rfl, fun j hj => by omega⟩
    · simp only [mGa] at hk; omega
    · simp only [mGa] at hj; omega
    · simp only [mGa] at hk
      have : k = 0 := by omega
      subst this
      exact ⟨hc, hs⟩
  | succ n ih =>
    obtain ⟨i1, ⟨i2, i3⟩, i4, i5, i6, i7, i8⟩ := ih (by omega)
    have htn := ht n (by omega)
    by_cases q : t n ≤ 0
    · have e1 : xLine t (0, tn0, ca0, sa0) (n + 1) = xLine t (0, tn0, ca0, sa0) n := by simp only [xLine]; exact xStep_t q
      rw [mGa_t q, e1]
      refine ⟨i1, ⟨i2, by omega⟩, fun k hk => ?_, i5, i6, ?_, fun j hj h0 => ?_⟩
      · obtain ⟨a, b, d, e⟩ := i4 k hk
        exact ⟨a, b, d, by omega⟩
      · simp only [sumN]; omega
      · by_cases z : j = n
        · subst z; omega
        · exact i8 j (by omega) h0
    · have e1 : xLine t (0, tn0, ca0, sa0) (n + 1) = xStep t n (xLine t (0, tn0, ca0, sa0) n) := rfl
      rw [mGa_f q, e1, xStep_f q, i1]
      generalize hM : mGa t (0, tnF, ofF) n = M at *
      generalize hX : xLine t (0, tn0, ca0, sa0) n = X at *
      obtain ⟨u, tn, of⟩ := M
      obtain ⟨u2, tn2, ca, sa⟩ := X
      simp only at i1 i2 i3 i4 i5 i6 i7 i8 ⊢
      have su : ∀ k : Nat, (Nat.cast k : Int) ≤ u → sumN (uI of u.toNat (t n)) k = sumN of k := fun k hk => by
        rw [sumN_uI, if_neg (by omega)]; omega
      have sm : ∀ k : Nat, (Nat.cast k : Int) ≤ u → sumN (mTs (uI tn u.toNat ((Nat.cast n : Int) - 18)) (uI of u.toNat (t n))) k = sumN (mTs tn of) k := fun k hk => sumN_c (fun j hj => by
        show uI of u.toNat (t n) j * uI tn u.toNat ((Nat.cast n : Int) - 18) j = of j * tn j
        rw [uI_ne _ _ (by omega), uI_ne _ _ (by omega)])
      refine ⟨trivial, ⟨by omega, by omega⟩, fun k hk => ?_, fun i j hij hj => ?_, fun k hk => ?_, ?_, fun j hj h0 => ?_⟩
      · by_cases z : k = u.toNat
        · rw [z, uI_same, uI_same, uI_same]
          exact ⟨rfl, ⟨by omega, by omega⟩, by omega, by omega⟩
        · rw [uI_ne _ _ z, uI_ne _ _ z, uI_ne _ _ z]
          obtain ⟨a, b, d, e⟩ := i4 k (by omega)
          exact ⟨a, b, d, by omega⟩
      · by_cases z : j = u.toNat
        · rw [z, uI_same, uI_ne _ _ (by omega)]
          have := (i4 i (by omega)).2.2.2
          exact this
        · rw [uI_ne _ _ z, uI_ne _ _ (by omega)]
          exact i5 i j hij (by omega)
      · by_cases z : k = (u + 1).toNat
        · rw [z, uI_same, uI_same]
          obtain ⟨a, b⟩ := i6 u.toNat (by omega)
          rw [a, b, show (u + 1).toNat = u.toNat + 1 by omega]
          simp only [sumN]
          rw [su _ (by omega), sm _ (by omega)]
          refine ⟨by rw [uI_same], ?_⟩
          show _ = _ + uI of u.toNat (t n) u.toNat * uI tn u.toNat ((Nat.cast n : Int) - 18) u.toNat
          rw [uI_same, uI_same]
        · rw [uI_ne _ _ z, uI_ne _ _ z, su _ (by omega), sm _ (by omega)]
          exact i6 k (by omega)
      · rw [show (u + 1).toNat = u.toNat + 1 by omega]
        simp only [sumN]
        rw [su _ (by omega), uI_same, i7]
      · by_cases z : j = n
        · subst z
          exact ⟨u.toNat, by omega, uI_same _ _ _⟩
        · obtain ⟨i, a, b⟩ := i8 j (by omega) h0
          exact ⟨i, by omega, by rw [uI_ne _ _ (by omega)]; exact b⟩
theorem ga_oOK {t tn0 ca0 sa0 tnF ofF : Nat → Int} (ht : ∀ k : Nat, k < 37 → 0 ≤ t k ∧ t k ≤ 81) (hc : ca0 0 = 0) (hs : sa0 0 = 0) (h81 : sumN t 37 ≤ 81) : oOK (mGa t (0, tnF, ofF) 37).1 (mGa t (0, tnF, ofF) 37).2.1 (mGa t (0, tnF, ofF) 37).2.2 := by
  obtain ⟨-, i2, i4, i5, -, i7, -⟩ := gat (tn0 := tn0) (tnF := tnF) (ofF := ofF) ht hc hs 37 (Nat.le_refl _)
  have h1 : ∀ k : Nat, (Nat.cast k : Int) < (mGa t (0, tnF, ofF) 37).1 → 1 ≤ (mGa t (0, tnF, ofF) 37).2.2 k ∧ (mGa t (0, tnF, ofF) 37).2.2 k ≤ 81 := fun k hk => (i4 k hk).2.1
  refine ⟨⟨i2.1, by omega⟩, h1, fun k hk => ?_, fun k hk => ?_, i5⟩
  · have a := sumN_lt h1 (i := 0) (j := k) (by omega) hk
    have b := sumN_lt h1 (i := k) (j := (mGa t (0, tnF, ofF) 37).1.toNat) (by omega) (by omega)
    have z : sumN (mGa t (0, tnF, ofF) 37).2.2 0 = 0 := rfl
    rw [i7] at b
    omega
  · obtain ⟨-, -, a, b⟩ := i4 k hk
    exact ⟨a, by omega⟩
/-! what depends on the row as far as it goes only -/
section XC
variable {u : Nat}
theorem xM_c {ca ca2 : Nat → Int} (h : ∀ k : Nat, k ≤ u → ca k = ca2 k) {a b : Nat} {hf : Int} (ha : a ≤ u) (f : Nat) : ∀ q : Nat, q + f ≤ b - 1 → b ≤ u → xM ca a b hf f q = xM ca2 a b hf f q := by
  induction f with
  | zero => intro q _ _; rfl
  | succ f ih =>
    intro q hq hb
    simp only [xM]
    rw [h (q + 1) (by omega), h a ha, ih (q + 1) (by omega) hb]
theorem xMid_c {ca ca2 : Nat → Int} (h : ∀ k : Nat, k ≤ u → ca k = ca2 k) {a b : Nat} (hab : a < b) (hb : b ≤ u) : xMidF ca a b a = xMidF ca2 a b a := by
  unfold xMidF xHalf
  rw [h a (by omega), h b hb]
  exact xM_c h (by omega) _ _ (by omega) hb
theorem xE_c {tn tn2 ca ca2 sa sa2 : Nat → Int} (ht : ∀ k : Nat, k < u → tn k = tn2 k) (h : ∀ k : Nat, k ≤ u → ca k = ca2 k) (hs : ∀ k : Nat, k ≤ u → sa k = sa2 k) {a b : Nat} (hab : a < b) (hb : b ≤ u) : xE tn ca sa a b = xE tn2 ca2 sa2 a b := by
  have hm := xMidF_c ca2 a b hab
  unfold xE xErr
  rw [xMid_c h hab hb]
  rw [ht _ (by omega), h a (by omega), h b hb, h _ (by omega), hs a (by omega), hs b hb, hs _ (by omega)]
theorem xFo_cE {E E2 D D2 : Nat → Int} {a : Nat} {nx : Int} {n : Nat} (h : ∀ b : Nat, a < b → b ≤ a + n → E b = E2 b ∧ D b = D2 b) : xFo E D a nx n = xFo E2 D2 a nx n := by
  induction n with
  | zero => rfl
  | succ n ih =>
    simp only [xFo]
    rw [ih (fun b h1 h2 => h b h1 (by omega)), (h (a + 1 + n) (by omega) (by omega)).1, (h (a + 1 + n) (by omega) (by omega)).2]
theorem xDL_c {E E2 : Nat → Nat → Int} (h : ∀ a b : Nat, a < b → b ≤ u → E a b = E2 a b) (k : Nat) : ∀ f : Nat, f ≤ u → xDL E u k f = xDL E2 u k f := by
  induction k with
  | zero => intro f _; rfl
  | succ k ih =>
    intro f hf
    simp only [xDL]
    rw [xFo_cE (fun b h1 h2 => ⟨h f b h1 (by omega), ih b (by omega)⟩)]
theorem xFo_le {E D : Nat → Int} {a : Nat} {nx : Int} {n : Nat} : ∀ b : Nat, a < b → b ≤ a + n → (xFo E D a nx n).1 ≤ E b + D b := by
  induction n with
  | zero => intro b h1 h2; omega
  | succ n ih =>
    intro b h1 h2
    simp only [xFo]
    by_cases q : b = a + 1 + n
    · subst q
      split
      · assumption
      · exact Int.le_refl _
    · have := ih b h1 (by omega)
      split
      · exact this
      · simp only; omega
theorem xFo_at {E D : Nat → Int} {a : Nat} {nx : Int} {n : Nat} (h : (xFo E D a nx n).1 < 1000000) : ∃ b : Nat, a < b ∧ b ≤ a + n ∧ (xFo E D a nx n).1 = E b + D b ∧ (xFo E D a nx n).2 = (Nat.cast b : Int) := by
  induction n with
  | zero => simp only [xFo] at h; omega
  | succ n ih =>
    simp only [xFo] at h ⊢
    by_cases q : (xFo E D a nx n).1 ≤ E (a + 1 + n) + D (a + 1 + n)
    · rw [if_pos q] at h ⊢
      obtain ⟨b, h1, h2, h3⟩ := ih h
      exact ⟨b, h1, by omega, h3⟩
    · rw [if_neg q] at h ⊢
      exact ⟨a + 1 + n, by omega, by omega, rfl, rfl⟩
theorem xFo_2 {E D : Nat → Int} {a : Nat} {nx ny : Int} {n : Nat} (h : (xFo E D a nx n).1 < 1000000) : (xFo E D a nx n).2 = (xFo E D a ny n).2 := by
  induction n with
  | zero => simp only [xFo] at h; omega
  | succ n ih =>
    simp only [xFo] at h ⊢
    by_cases q : (xFo E D a nx n).1 ≤ E (a + 1 + n) + D (a + 1 + n)
    · rw [if_pos q] at h ⊢
      rw [xFo_1 E D a nx ny n] at q
      rw [if_pos q]
      exact ih h
    · rw [if_neg q]
      rw [xFo_1 E D a nx ny n] at q
      rw [if_neg q]
end XC
/-! cuts: where the groups begin -/
section CU
variable {E : Nat → Nat → Int} {u : Nat}
theorem dl_up (hE : ∀ a b : Nat, a < b → b ≤ u → 0 ≤ E a b ∧ E a b ≤ 100000) (k : Nat) : ∀ f : Nat, f + (k + 1) ≤ u → xDL E u (k + 1) f ≤ 100000 * ((Nat.cast k : Int) + 1) := by
  induction k with
  | zero =>
    intro f hf
    simp only [xDL]
    have := xFo_le (E := E f) (D := xDL E u 0) (a := f) (nx := 0) (n := u - f) u (by omega) (by omega)
    have e : xDL E u 0 u = 0 := by simp [xDL]
    rw [e] at this
    have h2 := (hE f u (by omega) (Nat.le_refl _)).2
    show (xFo (E f) (xDL E u 0) f 0 (u - f)).1 ≤ _
    omega
  | succ k ih =>
    intro f hf
    have := xFo_le (E := E f) (D := xDL E u (k + 1)) (a := f) (nx := 0) (n := u - f) (f + 1) (by omega) (by omega)
    have h1 := ih (f + 1) (by omega)
    have h2 := (hE f (f + 1) (by omega) (by omega)).2
    show (xFo (E f) (xDL E u (k + 1)) f 0 (u - f)).1 ≤ _
    omega
def nx0 (E : Nat → Nat → Int) (u k f : Nat) : Int := (xFo (E f) (xDL E u (k - 1)) f 0 (u - f)).2
def cuP (E : Nat → Nat → Int) (u n : Nat) : Nat → Int
  | 0 => 0
  | g + 1 => nx0 E u (n - g) (cuP E u n g).toNat
theorem cu_ok (hE : ∀ a b : Nat, a < b → b ≤ u → 0 ≤ E a b ∧ E a b ≤ 100000) {n : Nat} (hn : n ≤ u ∧ n ≤ 6) (h0 : n = 0 → u = 0) (g : Nat) (hg : g ≤ n) : (0 ≤ cuP E u n g ∧ cuP E u n g ≤ u) ∧ xDL E u (n - g) (cuP E u n g).toNat < 1000000 := by
  induction g with
  | zero =>
    refine ⟨⟨by simp [cuP], by simp [cuP]⟩, ?_⟩
    show xDL E u (n - 0) 0 < 1000000
    cases n with
    | zero => rw [h0 rfl]; simp [xDL]
    | succ n =>
      have := dl_up hE n 0 (by omega)
      rw [show n + 1 - 0 = n + 1 by omega]
      omega
  | succ g ih =>
    obtain ⟨i1, i2⟩ := ih (by omega)
    obtain ⟨k, hk⟩ : ∃ k, n - g = k + 1 := ⟨n - g - 1, by omega⟩
    rw [hk] at i2
    obtain ⟨b, b1, b2, b3, b4⟩ := xFo_at (E := E (cuP E u n g).toNat) (D := xDL E u k) (a := (cuP E u n g).toNat) (nx := 0) (n := u - (cuP E u n g).toNat) i2
    have e : cuP E u n (g + 1) = (Nat.cast b : Int) := by
      simp only [cuP]
      unfold nx0
      rw [hk]
      exact b4
    have i3 : (xFo (E (cuP E u n g).toNat) (xDL E u k) (cuP E u n g).toNat 0 (u - (cuP E u n g).toNat)).1 < 1000000 := i2
    rw [b3] at i3
    have := (hE (cuP E u n g).toNat b b1 (by omega)).1
    rw [e, show n - (g + 1) = k by omega, show (Nat.cast b : Int).toNat = b by omega]
    exact ⟨⟨by omega, by omega⟩, by omega⟩
theorem cu_lt (hE : ∀ a b : Nat, a < b → b ≤ u → 0 ≤ E a b ∧ E a b ≤ 100000) {n : Nat} (hn : n ≤ u ∧ n ≤ 6) (h0 : n = 0 → u = 0) (g : Nat) (hg : g < n) : cuP E u n g < cuP E u n (g + 1) := by
  obtain ⟨i1, i2⟩ := cu_ok hE hn h0 g (by omega)
  obtain ⟨k, hk⟩ : ∃ k, n - g = k + 1 := ⟨n - g - 1, by omega⟩
  rw [hk] at i2
  obtain ⟨b, b1, b2, b3, b4⟩ := xFo_at (E := E (cuP E u n g).toNat) (D := xDL E u k) (a := (cuP E u n g).toNat) (nx := 0) (n := u - (cuP E u n g).toNat) i2
  have e : cuP E u n (g + 1) = (Nat.cast b : Int) := by
    simp only [cuP]
    unfold nx0
    rw [hk]
    exact b4
  rw [e]; omega
theorem cu_end (hE : ∀ a b : Nat, a < b → b ≤ u → 0 ≤ E a b ∧ E a b ≤ 100000) {n : Nat} (hn : n ≤ u ∧ n ≤ 6) (h0 : n = 0 → u = 0) : cuP E u n n = u := by
  obtain ⟨i1, i2⟩ := cu_ok hE hn h0 n (Nat.le_refl _)
  rw [show n - n = 0 by omega] at i2
  simp only [xDL] at i2
  split at i2
  · omega
  · omega
theorem cu_mono (hE : ∀ a b : Nat, a < b → b ≤ u → 0 ≤ E a b ∧ E a b ≤ 100000) {n : Nat} (hn : n ≤ u ∧ n ≤ 6) (h0 : n = 0 → u = 0) {i : Nat} (d : Nat) (h : i + d ≤ n) : cuP E u n i ≤ cuP E u n (i + d) := by
  induction d with
  | zero => exact Int.le_refl _
  | succ d ih =>
    have a := ih (by omega)
    have b := cu_lt hE hn h0 (i + d) (by omega)
    rw [show i + (d + 1) = i + d + 1 by omega]
    omega
theorem cu_find (n m : Nat) (i : Nat) (h : (Nat.cast i : Int) < cuP E u n m) : ∃ g : Nat, g < m ∧ cuP E u n g ≤ (Nat.cast i : Int) ∧ (Nat.cast i : Int) < cuP E u n (g + 1) := by
  induction m with
  | zero => simp only [cuP] at h; omega
  | succ m ih =>
    by_cases q : (Nat.cast i : Int) < cuP E u n m
    · obtain ⟨g, a, b⟩ := ih q
      exact ⟨g, by omega, b⟩
    · exact ⟨m, by omega, by omega, h⟩
/-- by the class's row -/
theorem cu_x (hE : ∀ a b : Nat, a < b → b ≤ u → 0 ≤ E a b ∧ E a b ≤ 100000) {E2 : Nat → Nat → Int} (h2 : ∀ a b : Nat, a < b → b ≤ u → E2 a b = E a b) {n : Nat} (hn : n ≤ u ∧ n ≤ 6) (h0 : n = 0 → u = 0) (hu : u ≤ 37) (nF : Nat → Int) (g : Nat) (hg : g ≤ n) : xAt (xNs E2 u nF 0) (Nat.cast n : Int) g = cuP E u n g := by
  induction g with
  | zero => rfl
  | succ g ih =>
    simp only [xAt, cuP]
    rw [ih (by omega)]
    obtain ⟨i1, i2⟩ := cu_ok hE hn h0 g (by omega)
    have i3 := cu_lt hE hn h0 g (by omega)
    have i4 := (cu_ok hE hn h0 (g + 1) (by omega)).1
    generalize hc : cuP E u n g = c at *
    have ej : (((Nat.cast n : Int) - (Nat.cast g : Int)) * 38 + c).toNat = 38 * (n - g) + c.toNat := by omega
    rw [ej]
    unfold xNs
    have m1 : (38 * (n - g) + c.toNat) % 38 = c.toNat := by omega
    have m2 : (38 * (n - g) + c.toNat) / 38 = n - g := by omega
    rw [m1, m2, if_pos (by omega)]
    unfold nx0
    obtain ⟨k, hk⟩ : ∃ k, n - g = k + 1 := ⟨n - g - 1, by omega⟩
    rw [hk] at i2 ⊢
    rw [show k + 1 - 1 = k by omega]
    rw [xFo_cE (E2 := E c.toNat) (D2 := xDL E u k) (fun b h1 h3 => ⟨h2 _ _ h1 (by omega), xDL_c (fun a b x y => h2 a b x y) k b (by omega)⟩)]
    refine xFo_2 ?_
    rw [xFo_1 _ _ _ _ 0]
    exact i2
/-- by the reference's row -/
theorem cu_m (hE : ∀ a b : Nat, a < b → b ≤ u → 0 ≤ E a b ∧ E a b ≤ 100000) {n : Nat} (hn : n ≤ u ∧ n ≤ 6) (h0 : n = 0 → u = 0) (hu : u ≤ 37) (nF : Nat → Int) (g : Nat) (hg : g ≤ n) : mAt (mNs E u nF (n + 1) (u + 1)) (Nat.cast n : Int) g = cuP E u n g := by
  induction g with
  | zero => rfl
  | succ g ih =>
    simp only [mAt, cuP]
    rw [ih (by omega)]
    obtain ⟨i1, i2⟩ := cu_ok hE hn h0 g (by omega)
    have i3 := cu_lt hE hn h0 g (by omega)
    have i4 := (cu_ok hE hn h0 (g + 1) (by omega)).1
    generalize hc : cuP E u n g = c at *
    have ej : (41 * ((Nat.cast n : Int) - (Nat.cast g : Int)) + c).toNat = 41 * (n - g) + c.toNat := by omega
    rw [ej]
    unfold mNs
    have m1 : (41 * (n - g) + c.toNat) % 41 = c.toNat := by omega
    have m2 : (41 * (n - g) + c.toNat) / 41 = n - g := by omega
    rw [m1, m2, if_pos (by omega)]
    unfold nx0
    obtain ⟨k, hk⟩ : ∃ k, n - g = k + 1 := ⟨n - g - 1, by omega⟩
    rw [hk] at i2 ⊢
    rw [show k + 1 - 1 = k by omega]
    refine xFo_2 ?_
    rw [xFo_1 _ _ _ _ 0]
    exact i2
end CU
