/-! the text: the class's reading is the reference's -/
def kRel (P : pT) (rd : Nat → Int) : Prop := (pW P = rd 0 ∧ pH P = rd 1) ∧ (∀ k : Nat, k < 81 → pG P k = rd (7 + k)) ∧ (∀ k : Nat, k < 4 → pQ P k = rd (2 + k)) ∧ (pS P = rd 6 ∧ pN P = 0) ∧ ((rd 0 = 0 ∧ rd 1 = 0) ∨ ((3 ≤ rd 0 ∧ rd 0 ≤ 9) ∧ 3 ≤ rd 1 ∧ rd 1 ≤ 9)) ∧ (∀ k : Nat, k < 81 → 0 ≤ rd (7 + k) ∧ rd (7 + k) ≤ 9) ∧ (∀ k : Nat, k < 4 → 0 ≤ rd (2 + k) ∧ rd (2 + k) ≤ 7) ∧ (2 ≤ rd 6 ∧ rd 6 ≤ 6) ∧ ∀ k : Nat, 88 ≤ k → k < 249 → rd k = 0
section TX
variable {tx mx : Nat → Int} {kn : Int}
theorem let_d (h : ∀ k : Nat, (Nat.cast k : Int) < kn → tx k = mx k) {p lo hi : Int} (hp : 0 ≤ p) (hlo : 0 ≤ lo) : ((lo ≤ kLet tx kn p - 48 ∧ kLet tx kn p - 48 ≤ hi) ↔ (lo ≤ nLet mx kn p - 48 ∧ nLet mx kn p - 48 ≤ hi)) ∧ ((lo ≤ kLet tx kn p - 48 ∧ kLet tx kn p - 48 ≤ hi) → kLet tx kn p = nLet mx kn p) ∧ (kLet tx kn p = 59 ↔ nLet mx kn p = 59) := by
  unfold kLet nLet
  by_cases q : p < kn
  · rw [if_pos ⟨hp, q⟩, if_pos q, h p.toNat (by omega)]
    exact ⟨Iff.rfl, fun _ => rfl, Iff.rfl⟩
  · rw [if_neg (fun z => q z.2), if_neg q]
    refine ⟨⟨fun z => by omega, fun z => by omega⟩, fun z => by omega, ⟨fun z => by omega, fun z => by omega⟩⟩
theorem mGd_full {D : Nat → Int} {lo hi : Int} (f : Nat) : ∀ j : Nat, (∀ i : Nat, j ≤ i → i < j + f → lo ≤ D i ∧ D i ≤ hi) → mGd D lo hi f j = j + f := by
  induction f with
  | zero => intro j _; rfl
  | succ f ih =>
    intro j h
    simp only [mGd]
    rw [if_pos (h j (by omega) (by omega)), ih (j + 1) (fun i a b => h i (by omega) (by omega))]
    omega
/-- so many figures and a ; behind: both say the same -/
theorem fig_eq (h : ∀ k : Nat, (Nat.cast k : Int) < kn → tx k = mx k) {a m lo hi : Int} (ha : 0 ≤ a) (hm : 0 ≤ m) (hlo : 0 ≤ lo) : (kOks tx kn a m lo hi ↔ ((Nat.cast (mFg mx kn (a + 1) m lo hi) : Int) = m ∧ nLet mx kn (a + 1 + m) = 59)) ∧ (kOks tx kn a m lo hi → ∀ i : Nat, (Nat.cast i : Int) < m → kF tx kn a i = mDg mx kn (a + 1) i ∧ lo ≤ mDg mx kn (a + 1) i ∧ mDg mx kn (a + 1) i ≤ hi) := by
  have ed : ∀ i : Nat, a + ((Nat.cast i : Int) + 1) = a + 1 + (Nat.cast i : Int) := fun i => by omega
  have dig : ∀ i : Nat, kDig tx kn a lo hi i ↔ (lo ≤ mDg mx kn (a + 1) i ∧ mDg mx kn (a + 1) i ≤ hi) := fun i => by
    unfold kDig mDg
    rw [ed]
    exact (let_d h (by omega) hlo).1
  have all : (∀ i : Nat, (Nat.cast i : Int) < m → kDig tx kn a lo hi i) ↔ (Nat.cast (mFg mx kn (a + 1) m lo hi) : Int) = m := by
    constructor
    · intro z
      unfold mFg
      rw [mGd_full m.toNat 0 (fun i _ hi => (dig i).mp (z i (by omega)))]
      omega
    · intro z i hi
      unfold mFg at z
      exact (dig i).mpr (mGd_all m.toNat 0 i (by omega) (by omega))
  have semi : kLet tx kn (a + m + 1) = 59 ↔ nLet mx kn (a + 1 + m) = 59 := by
    rw [show a + m + 1 = a + 1 + m by omega]
    exact (let_d h (lo := 0) (hi := 0) (by omega) (by omega)).2.2
  refine ⟨?_, fun z i hi => ?_⟩
  · unfold kOks
    rw [all, semi]
  · have := z.1 i hi
    refine ⟨?_, (dig i).mp this⟩
    unfold kF mDg
    rw [ed]
    unfold kDig at this
    rw [ed] at this
    rw [(let_d h (by omega) hlo).2.1 this]
theorem kFig_0 {a m lo hi : Int} (hm : 0 < m) : kFig tx kn a m lo hi = 0 ↔ ¬ kOks tx kn a m lo hi := by
  constructor
  · intro z q
    have := kFig_t q
    omega
  · intro z
    exact (kFig_f z).symm
theorem mFig_s {rd : Nat → Int} {sp to m lo hi rr : Int} (h : (Nat.cast (mFg mx kn sp m lo hi) : Int) = m) : mFig mx kn sp rd to m lo hi rr = (1, sp + m, sPut rd to.toNat m.toNat (mDg mx kn sp), rr) := by
  unfold mFig
  rw [if_pos h, h, show mFg mx kn sp m lo hi = m.toNat by omega]
theorem mFig_n {rd : Nat → Int} {sp to m lo hi rr : Int} (h : ¬ (Nat.cast (mFg mx kn sp m lo hi) : Int) = m) : (mFig mx kn sp rd to m lo hi rr).1 = 0 := by
  unfold mFig
  simp only
  rw [if_neg h]
/-- an item of figures: said so by both, or by none -/
theorem fig_both (h : ∀ k : Nat, (Nat.cast k : Int) < kn → tx k = mx k) {a m lo hi to rr : Int} {rd : Nat → Int} (ha : 0 ≤ a) (hm : 0 < m) (hlo : 0 ≤ lo) : (kFig tx kn a m lo hi = 0 ∧ ¬ ((mFig mx kn (a + 1) rd to m lo hi rr).1 = 1 ∧ nLet mx kn (mFig mx kn (a + 1) rd to m lo hi rr).2.1 = 59)) ∨ (kFig tx kn a m lo hi = m ∧ kOks tx kn a m lo hi ∧ mFig mx kn (a + 1) rd to m lo hi rr = (1, a + 1 + m, sPut rd to.toNat m.toNat (mDg mx kn (a + 1)), rr) ∧ nLet mx kn (a + 1 + m) = 59) := by
  have f := (fig_eq h ha (Int.le_of_lt hm) hlo (hi := hi)).1
  by_cases q : kOks tx kn a m lo hi
  · right
    obtain ⟨f1, f2⟩ := f.mp q
    exact ⟨(kFig_t q).symm, q, mFig_s f1, f2⟩
  · left
    refine ⟨(kFig_0 hm).mpr q, fun z => ?_⟩
    by_cases r : (Nat.cast (mFg mx kn (a + 1) m lo hi) : Int) = m
    · rw [mFig_s r] at z
      exact q (f.mpr ⟨r, z.2⟩)
    · rw [mFig_n r] at z
      have := z.1
      omega
theorem kItem_x {W H kr a : Int} (h : bP (0 < W) = kG tx kn a) : kItem tx kn W H kr a = 0 := by unfold kItem; rw [if_pos h]
theorem sPut_hit {g f : Nat → Int} {a j k : Nat} (h : a ≤ k ∧ k < a + j) : sPut g a j f k = f (k - a) := by unfold sPut; rw [if_pos h]
theorem sPut_mis {g f : Nat → Int} {a j k : Nat} (h : ¬ (a ≤ k ∧ k < a + j)) : sPut g a j f k = g k := by unfold sPut; rw [if_neg h]
/-- an item: said so by both, what it changes alike; or by none -/
theorem item_eq (h : ∀ k : Nat, (Nat.cast k : Int) < kn → tx k = mx k) {P : pT} {rd : Nat → Int} {kr a : Int} (hR : kRel P rd) (hkr : 0 ≤ kr ∧ kr ≤ 9) (ha : 0 ≤ a ∧ a < kn) : (kItem tx kn (pW P) (pH P) kr a = 0 ∧ ¬ ((mItm mx kn (mx a.toNat) (a + 1) rd kr).1 = 1 ∧ nLet mx kn (mItm mx kn (mx a.toNat) (a + 1) rd kr).2.1 = 59)) ∨ (¬ kItem tx kn (pW P) (pH P) kr a = 0 ∧ ((mItm mx kn (mx a.toNat) (a + 1) rd kr).1 = 1 ∧ nLet mx kn (mItm mx kn (mx a.toNat) (a + 1) rd kr).2.1 = 59) ∧ (mItm mx kn (mx a.toNat) (a + 1) rd kr).2.1 + 1 = a + (kItem tx kn (pW P) (pH P) kr a + 2) ∧ (mItm mx kn (mx a.toNat) (a + 1) rd kr).2.2.2 = (kTake tx kn P kr a).2 ∧ kRel (kTake tx kn P kr a).1 (mItm mx kn (mx a.toNat) (a + 1) rd kr).2.2.1) := by
  obtain ⟨⟨rW, rH⟩, rG, rQ, ⟨rS, rN⟩, rD, rg, rq, rs, rz⟩ := id hR
  have le : kLet tx kn a = mx a.toNat := by unfold kLet; rw [if_pos ha, h a.toNat (by omega)]
  have w0 : 0 ≤ pW P := by rw [rW]; omega
  have gg : bP (0 < pW P) = kG tx kn a ↔ ¬ (mx a.toNat = 103 ↔ rd 0 = 0) := by
    unfold kG
    rw [le]
    by_cases q : mx a.toNat = 103
    · rw [if_pos q]
      by_cases z : 0 < pW P
      · rw [bP_t z]; exact ⟨fun _ r => by have := r.mp q; omega, fun _ => rfl⟩
      · rw [bP_f z]; exact ⟨fun r => by omega, fun r => absurd ⟨fun _ => by omega, fun _ => q⟩ r⟩
    · rw [if_neg q]
      by_cases z : 0 < pW P
      · rw [bP_t z]; exact ⟨fun r => by omega, fun r => absurd ⟨fun y => absurd y q, fun y => by omega⟩ r⟩
      · rw [bP_f z]; exact ⟨fun _ r => q (r.mpr (by omega)), fun _ => rfl⟩
  by_cases hg : mx a.toNat = 103 ↔ rd 0 = 0
  · have hng : ¬ bP (0 < pW P) = kG tx kn a := fun z => (gg.mp z) hg
    by_cases k0 : mx a.toNat = 103
    · -- columns and rows
      have eK : kItem tx kn (pW P) (pH P) kr a = kFig tx kn a 2 3 9 := by unfold kItem; rw [if_neg hng, le, if_pos k0]
      rw [eK, mItm_g hg k0]
      rcases fig_both h (rd := rd) (to := 0) (rr := kr) ha.1 (show (0 : Int) < 2 by decide) (show (0 : Int) ≤ 3 by decide) (hi := 9) with ⟨a1, a2⟩ | ⟨a1, a2, a3, a4⟩
      · exact Or.inl ⟨a1, a2⟩
      · right
        have d := (fig_eq h ha.1 (show (0 : Int) ≤ 2 by decide) (show (0 : Int) ≤ 3 by decide) (hi := 9)).2 a2
        obtain ⟨x1, x2, x3⟩ := d 0 (by decide)
        obtain ⟨y1, y2, y3⟩ := d 1 (by decide)
        rw [a3, a1, kTake_g (by rw [le]; exact k0)]
        have p0 : sPut rd (0 : Int).toNat (2 : Int).toNat (mDg mx kn (a + 1)) 0 = mDg mx kn (a + 1) 0 := sPut_hit ⟨by decide, by decide⟩
        have p1 : sPut rd (0 : Int).toNat (2 : Int).toNat (mDg mx kn (a + 1)) 1 = mDg mx kn (a + 1) 1 := sPut_hit ⟨by decide, by decide⟩
        have pk : ∀ k : Nat, 2 ≤ k → sPut rd (0 : Int).toNat (2 : Int).toNat (mDg mx kn (a + 1)) k = rd k := fun k hk => sPut_mis (fun z => by have := z.2; change k < 0 + 2 at this; omega)
        refine ⟨by omega, ⟨rfl, a4⟩, by simp only; omega, rfl, ?_⟩
        simp only
        refine ⟨⟨by rw [p0]; exact x1, by rw [p1]; exact y1⟩, fun k hk => by rw [pk _ (by omega)]; exact rG k hk, fun k hk => by rw [pk _ (by omega)]; exact rQ k hk, ⟨by rw [pk _ (by omega)]; exact rS, rN⟩, Or.inr ⟨by rw [p0]; omega, by rw [p1]; omega⟩, fun k hk => by rw [pk _ (by omega)]; exact rg k hk, fun k hk => by rw [pk _ (by omega)]; exact rq k hk, by rw [pk _ (by omega)]; exact rs, fun k k1 k2 => by rw [pk _ (by omega)]; exact rz k k1 k2⟩
    · have hW3 : 3 ≤ rd 0 ∧ rd 0 ≤ 9 ∧ 3 ≤ rd 1 ∧ rd 1 ≤ 9 := by
        rcases rD with z | z
        · exact absurd (hg.mpr z.1) k0
        · omega
      by_cases k1 : mx a.toNat = 108
      · -- lights
        have eK : kItem tx kn (pW P) (pH P) kr a = kFig tx kn a 4 0 7 := by unfold kItem; rw [if_neg hng, le, if_neg k0, if_pos k1]
        rw [eK, mItm_l hg k1]
        rcases fig_both h (rd := rd) (to := 2) (rr := kr) ha.1 (show (0 : Int) < 4 by decide) (show (0 : Int) ≤ 0 by decide) (hi := 7) with ⟨a1, a2⟩ | ⟨a1, a2, a3, a4⟩
        · exact Or.inl ⟨a1, a2⟩
        · right
          have d := (fig_eq h ha.1 (show (0 : Int) ≤ 4 by decide) (show (0 : Int) ≤ 0 by decide) (hi := 7)).2 a2
          rw [a3, a1, kTake_l (by rw [le]; exact k0) (by rw [le]; exact k1)]
          have ph : ∀ k : Nat, k < 4 → sPut rd (2 : Int).toNat (4 : Int).toNat (mDg mx kn (a + 1)) (2 + k) = mDg mx kn (a + 1) k := fun k hk => by
            rw [sPut_hit ⟨by show 2 ≤ 2 + k; omega, by show 2 + k < 2 + 4; omega⟩]
            congr 1; show 2 + k - 2 = k; omega
          have pk : ∀ k : Nat, k < 2 ∨ 6 ≤ k → sPut rd (2 : Int).toNat (4 : Int).toNat (mDg mx kn (a + 1)) k = rd k := fun k hk => sPut_mis (fun z => by have z1 := z.1; have z2 := z.2; change 2 ≤ k at z1; change k < 2 + 4 at z2; omega)
          refine ⟨by omega, ⟨rfl, a4⟩, by simp only; omega, rfl, ?_⟩
          simp only
          refine ⟨⟨by rw [pk _ (by omega)]; exact rW, by rw [pk _ (by omega)]; exact rH⟩, fun k hk => by rw [pk _ (by omega)]; exact rG k hk, fun k hk => ?_, ⟨by rw [pk _ (by omega)]; exact rS, rN⟩, by rw [pk _ (by omega), pk _ (by omega)]; exact rD, fun k hk => by rw [pk _ (by omega)]; exact rg k hk, fun k hk => ?_, by rw [pk _ (by omega)]; exact rs, fun k k1 k2 => by rw [pk _ (by omega)]; exact rz k k1 k2⟩
          · rw [ph k hk]
            show sPut (pQ P) 0 4 (kF tx kn a) k = _
            rw [sPut_hit ⟨by omega, by omega⟩]
            exact (d k (by omega)).1
          · rw [ph k hk]
            have := (d k (by omega)).2
            omega
      · by_cases k2 : mx a.toNat = 114
        · -- a row
          by_cases k3 : kr + 1 ≤ rd 1
          · have eK : kItem tx kn (pW P) (pH P) kr a = kFig tx kn a (pW P) 0 9 := by unfold kItem; rw [if_neg hng, le, if_neg k0, if_neg k1, if_pos k2, if_neg (by omega)]
            rw [eK, mItm_r hg k2 k3, ← rW]
            rcases fig_both h (rd := rd) (to := 7 + 9 * kr) (rr := kr + 1) ha.1 (show 0 < pW P by omega) (show (0 : Int) ≤ 0 by decide) (hi := 9) with ⟨a1, a2⟩ | ⟨a1, a2, a3, a4⟩
            · exact Or.inl ⟨a1, a2⟩
            · right
              have d := (fig_eq h ha.1 (show 0 ≤ pW P by omega) (show (0 : Int) ≤ 0 by decide) (hi := 9)).2 a2
              rw [a3, a1, kTake_r (by rw [le]; exact k0) (by rw [le]; exact k1) (by rw [le]; exact k2)]
              have pk : ∀ k : Nat, k < 7 ∨ 88 ≤ k → sPut rd (7 + 9 * kr).toNat (pW P).toNat (mDg mx kn (a + 1)) k = rd k := fun k hk => sPut_mis (fun z => by omega)
              have pg : ∀ k : Nat, k < 81 → sPut (pG P) (9 * kr).toNat (pW P).toNat (kF tx kn a) k = sPut rd (7 + 9 * kr).toNat (pW P).toNat (mDg mx kn (a + 1)) (7 + k) ∧ 0 ≤ sPut rd (7 + 9 * kr).toNat (pW P).toNat (mDg mx kn (a + 1)) (7 + k) ∧ sPut rd (7 + 9 * kr).toNat (pW P).toNat (mDg mx kn (a + 1)) (7 + k) ≤ 9 := fun k hk => by
                by_cases z : (9 * kr).toNat ≤ k ∧ k < (9 * kr).toNat + (pW P).toNat
                · rw [sPut_hit z, sPut_hit (a := (7 + 9 * kr).toNat) (by omega), show 7 + k - (7 + 9 * kr).toNat = k - (9 * kr).toNat by omega]
                  exact d (k - (9 * kr).toNat) (by omega)
                · rw [sPut_mis z, sPut_mis (a := (7 + 9 * kr).toNat) (by omega)]
                  exact ⟨rG k hk, rg k hk⟩
              refine ⟨by omega, ⟨rfl, a4⟩, by simp only; omega, rfl, ?_⟩
              simp only
              refine ⟨⟨by rw [pk _ (by omega)]; exact rW, by rw [pk _ (by omega)]; exact rH⟩, fun k hk => (pg k hk).1, fun k hk => by rw [pk _ (by omega)]; exact rQ k hk, ⟨by rw [pk _ (by omega)]; exact rS, rN⟩, by rw [pk _ (by omega), pk _ (by omega)]; exact rD, fun k hk => (pg k hk).2, fun k hk => by rw [pk _ (by omega)]; exact rq k hk, by rw [pk _ (by omega)]; exact rs, fun k k1 k2 => by rw [pk _ (by omega)]; exact rz k k1 k2⟩
          · left
            have eK : kItem tx kn (pW P) (pH P) kr a = 0 := by unfold kItem; rw [if_neg hng, le, if_neg k0, if_neg k1, if_pos k2, if_pos (by omega)]
            rw [eK, mItm_rn hg k2 k3]
            exact ⟨rfl, fun z => by have := z.1; simp only at this; omega⟩
        · by_cases k3 : mx a.toNat = 115
          · -- shades
            have eK : kItem tx kn (pW P) (pH P) kr a = kFig tx kn a 1 2 6 := by unfold kItem; rw [if_neg hng, le, if_neg k0, if_neg k1, if_neg k2, if_pos k3]
            rw [eK, mItm_s hg k3]
            rcases fig_both h (rd := rd) (to := 6) (rr := kr) ha.1 (show (0 : Int) < 1 by decide) (show (0 : Int) ≤ 2 by decide) (hi := 6) with ⟨a1, a2⟩ | ⟨a1, a2, a3, a4⟩
            · exact Or.inl ⟨a1, a2⟩
            · right
              have d := (fig_eq h ha.1 (show (0 : Int) ≤ 1 by decide) (show (0 : Int) ≤ 2 by decide) (hi := 6)).2 a2
              obtain ⟨x1, x2, x3⟩ := d 0 (by decide)
              rw [a3, a1, kTake_s (by rw [le]; exact k0) (by rw [le]; exact k1) (by rw [le]; exact k2)]
              have p6 : sPut rd (6 : Int).toNat (1 : Int).toNat (mDg mx kn (a + 1)) 6 = mDg mx kn (a + 1) 0 := sPut_hit ⟨by decide, by decide⟩
              have pk : ∀ k : Nat, ¬ k = 6 → sPut rd (6 : Int).toNat (1 : Int).toNat (mDg mx kn (a + 1)) k = rd k := fun k hk => sPut_mis (fun z => by have z1 := z.1; have z2 := z.2; change 6 ≤ k at z1; change k < 6 + 1 at z2; omega)
              refine ⟨by omega, ⟨rfl, a4⟩, by simp only; omega, rfl, ?_⟩
              simp only
              refine ⟨⟨by rw [pk _ (by omega)]; exact rW, by rw [pk _ (by omega)]; exact rH⟩, fun k hk => by rw [pk _ (by omega)]; exact rG k hk, fun k hk => by rw [pk _ (by omega)]; exact rQ k hk, ⟨by rw [p6]; exact x1, rN⟩, by rw [pk _ (by omega), pk _ (by omega)]; exact rD, fun k hk => by rw [pk _ (by omega)]; exact rg k hk, fun k hk => by rw [pk _ (by omega)]; exact rq k hk, by rw [p6]; omega, fun k k1 k2 => by rw [pk _ (by omega)]; exact rz k k1 k2⟩
          · left
            have eK : kItem tx kn (pW P) (pH P) kr a = 0 := by unfold kItem; rw [if_neg hng, le, if_neg k0, if_neg k1, if_neg k2, if_neg k3]
            rw [eK, mItm_d hg ⟨k0, k1, k2, k3⟩]
            exact ⟨rfl, fun z => by have := z.1; simp only at this; omega⟩
  · left
    rw [kItem_x (gg.mpr hg), mItm_x hg]
    exact ⟨rfl, fun z => by have := z.1; simp only at this; omega⟩
theorem read_eq (h : ∀ k : Nat, (Nat.cast k : Int) < kn → tx k = mx k) (f : Nat) : ∀ (P : pT) (rd : Nat → Int) (kr a : Int), kRel P rd → kOK P kr → 0 ≤ a ∧ a ≤ kn → kn - a ≤ (Nat.cast f : Int) → (kRd tx kn f P kr a).1 = (mRd mx kn f a rd kr).1 ∧ ((mRd mx kn f a rd kr).1 = -4 → kRel (kRd tx kn f P kr a).2.1 (mRd mx kn f a rd kr).2.2.1) := by
  induction f with
  | zero => intro P rd kr a hR hK ha hf; exact ⟨rfl, fun _ => hR⟩
  | succ f ih =>
    intro P rd kr a hR hK ha hf
    simp only [kRd, mRd]
    by_cases e : kn ≤ a
    · rw [if_pos e, if_pos e]; exact ⟨rfl, fun _ => hR⟩
    · rw [if_neg e, if_neg e]
      rcases item_eq h hR ⟨hK.2.1, hK.2.2.1⟩ ⟨ha.1, by omega⟩ with ⟨a1, a2⟩ | ⟨a1, a2, a3, a4, a5⟩
      · rw [if_pos a1, if_neg a2]
        exact ⟨rfl, fun z => by simp only at z; omega⟩
      · rw [if_neg a1, if_pos a2, a3, a4]
        have k1 := kItem_e (tx := tx) (kn := kn) (W := pW P) (H := pH P) (kr := kr) (a := a) a1 ha.1 hK.1.1.1
        have k2 := kItem_R tx kn (pW P) (pH P) kr a ⟨hK.1.1.1, hK.1.1.2.1⟩
        exact ih _ _ _ _ a5 (kTake_ok hK a1) ⟨by omega, by omega⟩ (by omega)
end TX
theorem kRel_0 (P : pT) (rd : Nat → Int) : kRel (pClear P) (nClr rd) := by
  have z : ∀ k : Nat, k < 249 → (k < 2 ∨ 7 ≤ k) → nClr rd k = 0 := fun k h1 h2 => by unfold nClr; rw [if_pos h1, if_neg (by omega), if_neg (by omega)]
  have q : ∀ k : Nat, k < 4 → nClr rd (2 + k) = 7 := fun k hk => by unfold nClr; rw [if_pos (by omega), if_pos (by omega)]
  have s6 : nClr rd 6 = 4 := by unfold nClr; rw [if_pos (by omega), if_neg (by omega), if_pos rfl]
  refine ⟨⟨(z 0 (by omega) (by omega)).symm, (z 1 (by omega) (by omega)).symm⟩, fun k hk => ?_, fun k hk => ?_, ⟨s6.symm, rfl⟩, Or.inl ⟨z 0 (by omega) (by omega), z 1 (by omega) (by omega)⟩, fun k hk => by rw [z _ (by omega) (by omega)]; omega, fun k hk => by rw [q k hk]; omega, by rw [s6]; omega, fun k h1 h2 => z k h2 (by omega)⟩
  · rw [z _ (by omega) (by omega)]
    show zFill 81 0 (pG P) k = 0
    unfold zFill; rw [if_pos hk]
  · rw [q k hk]
    show zFill 4 7 (pQ P) k = 7
    unfold zFill; rw [if_pos hk]
/-- what is read, laid -/
theorem kRel_pic {P : pT} {rd : Nat → Int} (hP : pOK P) (h : kRel P rd) (h0 : ¬ rd 0 = 0) : rPic P rd := by
  obtain ⟨⟨rW, rH⟩, rG, rQ, ⟨rS, rN⟩, rD, rg, rq, rs, rz⟩ := h
  have hWH := rD.resolve_left (fun z => h0 z.1)
  have r88 : rd 88 = 0 := rz 88 (by omega) (by omega)
  refine ⟨pL P, pE P, pC P, ⟨rW, rH, fun k hk => ?_, by rw [rN]; exact r88.symm, fun _ _ => rfl, fun _ _ => rfl, fun _ _ => rfl, fun k hk => ?_, rS⟩, fun t ht => by rw [r88] at ht; omega, ?_, ⟨?_, ⟨hWH.1.1, hWH.2.1⟩, by rw [r88]; omega, fun k => ?_, fun k => ?_, rs, fun k hk => ?_⟩, fun t ht => by rw [r88] at ht; omega⟩
  · show pG P k = nG rd k
    unfold nG; rw [if_pos hk]; exact rG k hk
  · show pQ P k = nQ rd k
    unfold nQ; rw [if_pos hk]; exact rQ k hk
  · rw [r88]
    exact ⟨by omega, by omega, hP.2.1.2.2.1, hP.2.1.2.2.2⟩
  · refine ⟨by omega, by omega, by omega, by omega, fun k => ?_⟩
    unfold nG; split
    · exact rg k (by assumption)
    · omega
  · unfold nL; split
    · rw [rz _ (by omega) (by omega)]; omega
    · omega
  · unfold nQ; split
    · have := rq k (by assumption); omega
    · omega
  · by_cases k7 : k < 7
    · by_cases k6 : k = 6
      · subst k6; omega
      · by_cases k2 : k < 2
        · rcases (show k = 0 ∨ k = 1 by omega) with rfl | rfl <;> omega
        · have := rq (k - 2) (by omega)
          rw [show 2 + (k - 2) = k by omega] at this
          omega
    · by_cases k88 : k < 88
      · have := rg (k - 7) (by omega)
        rw [show 7 + (k - 7) = k by omega] at this
        omega
      · rw [rz k (by omega) hk]; omega
