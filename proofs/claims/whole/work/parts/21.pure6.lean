/-! the text -/
def kLet (tx : Nat → Int) (kn a : Int) : Int := if 0 ≤ a ∧ a < kn then tx a.toNat else 32
def kDig (tx : Nat → Int) (kn a lo hi : Int) (i : Nat) : Prop := lo ≤ kLet tx kn (a + ((Nat.cast i : Int) + 1)) - 48 ∧ kLet tx kn (a + ((Nat.cast i : Int) + 1)) - 48 ≤ hi
def kOks (tx : Nat → Int) (kn a m lo hi : Int) : Prop := (∀ i : Nat, (Nat.cast i : Int) < m → kDig tx kn a lo hi i) ∧ kLet tx kn (a + m + 1) = 59
noncomputable def kFig (tx : Nat → Int) (kn a m lo hi : Int) : Int := if bP (kOks tx kn a m lo hi) = 1 then m else 0
theorem kFig_t {tx : Nat → Int} {kn a m lo hi : Int} (h : kOks tx kn a m lo hi) : m = kFig tx kn a m lo hi := by unfold kFig; rw [if_pos (bP_t h)]
theorem kFig_f {tx : Nat → Int} {kn a m lo hi : Int} (h : ¬ kOks tx kn a m lo hi) : 0 = kFig tx kn a m lo hi := by unfold kFig; rw [if_neg (by rw [bP_f h]; omega)]
theorem kFig_ok {tx : Nat → Int} {kn a m lo hi : Int} (h : ¬ kFig tx kn a m lo hi = 0) : kOks tx kn a m lo hi ∧ kFig tx kn a m lo hi = m := by
  by_cases q : kOks tx kn a m lo hi
  · exact ⟨q, (kFig_t q).symm⟩
  · exact absurd (kFig_f q).symm h
theorem kLet_r {tx : Nat → Int} (h : ∀ k : Nat, 0 ≤ tx k ∧ tx k < 128) (kn a : Int) : 0 ≤ kLet tx kn a ∧ kLet tx kn a < 128 := by
  unfold kLet
  split
  · exact h _
  · omega
theorem kFig_r {tx : Nat → Int} {kn a m lo hi : Int} (hm : 0 ≤ m) : 0 ≤ kFig tx kn a m lo hi ∧ kFig tx kn a m lo hi ≤ m := by
  unfold kFig
  split <;> omega
def kG (tx : Nat → Int) (kn a : Int) : Int := if kLet tx kn a = 103 then 1 else 0
noncomputable def kItem (tx : Nat → Int) (kn W H kr a : Int) : Int :=
  if bP (0 < W) = kG tx kn a then 0 else if kLet tx kn a = 103 then kFig tx kn a 2 3 9 else if kLet tx kn a = 108 then kFig tx kn a 4 0 7 else if kLet tx kn a = 114 then (if H ≤ kr then 0 else kFig tx kn a W 0 9) else if kLet tx kn a = 115 then kFig tx kn a 1 2 6 else 0
theorem kItem_r {tx : Nat → Int} {kn W H kr a : Int} (hW : 0 ≤ W ∧ W ≤ 9) : 0 ≤ kItem tx kn W H kr a ∧ kItem tx kn W H kr a ≤ 9 := by
  have h1 := kFig_r (tx := tx) (kn := kn) (a := a) (m := 2) (lo := 3) (hi := 9) (by omega)
  have h2 := kFig_r (tx := tx) (kn := kn) (a := a) (m := 4) (lo := 0) (hi := 7) (by omega)
  have h3 := kFig_r (tx := tx) (kn := kn) (a := a) (m := W) (lo := 0) (hi := 9) (by omega)
  have h4 := kFig_r (tx := tx) (kn := kn) (a := a) (m := 1) (lo := 2) (hi := 6) (by omega)
  unfold kItem
  repeat' split
  all_goals omega
theorem kItem_R (tx : Nat → Int) (kn W H kr a : Int) (hW : 0 ≤ W ∧ W ≤ 9) : 0 ≤ kItem tx kn W H kr a ∧ kItem tx kn W H kr a ≤ 9 := kItem_r hW
/-- the figure i of an item -/
def kF (tx : Nat → Int) (kn a : Int) (i : Nat) : Int := kLet tx kn (a + ((Nat.cast i : Int) + 1)) - 48
def pSetG (P : pT) (g : Nat → Int) : pT := (pW P, pH P, g, pN P, pL P, pE P, pC P, pQ P, pS P)
def pSetQ (P : pT) (q : Nat → Int) : pT := (pW P, pH P, pG P, pN P, pL P, pE P, pC P, q, pS P)
def pSetS (P : pT) (n : Int) : pT := (pW P, pH P, pG P, pN P, pL P, pE P, pC P, pQ P, n)
def pSetWH (P : pT) (w h : Int) : pT := (w, h, pG P, pN P, pL P, pE P, pC P, pQ P, pS P)
def kTake (tx : Nat → Int) (kn : Int) (P : pT) (kr a : Int) : pT × Int :=
  if kLet tx kn a = 103 then (pSetWH P (kF tx kn a 0) (kF tx kn a 1), kr) else if kLet tx kn a = 108 then (pSetQ P (sPut (pQ P) 0 4 (kF tx kn a)), kr) else if kLet tx kn a = 114 then (pSetG P (sPut (pG P) (9 * kr).toNat (pW P).toNat (kF tx kn a)), kr + 1) else (pSetS P (kF tx kn a 0), kr)
theorem kTake_g {tx : Nat → Int} {kn : Int} {P : pT} {kr a : Int} (h : kLet tx kn a = 103) : kTake tx kn P kr a = (pSetWH P (kF tx kn a 0) (kF tx kn a 1), kr) := by unfold kTake; rw [if_pos h]
theorem kTake_l {tx : Nat → Int} {kn : Int} {P : pT} {kr a : Int} (h0 : ¬ kLet tx kn a = 103) (h : kLet tx kn a = 108) : kTake tx kn P kr a = (pSetQ P (sPut (pQ P) 0 4 (kF tx kn a)), kr) := by unfold kTake; rw [if_neg h0, if_pos h]
theorem kTake_r {tx : Nat → Int} {kn : Int} {P : pT} {kr a : Int} (h0 : ¬ kLet tx kn a = 103) (h1 : ¬ kLet tx kn a = 108) (h : kLet tx kn a = 114) : kTake tx kn P kr a = (pSetG P (sPut (pG P) (9 * kr).toNat (pW P).toNat (kF tx kn a)), kr + 1) := by unfold kTake; rw [if_neg h0, if_neg h1, if_pos h]
theorem kTake_s {tx : Nat → Int} {kn : Int} {P : pT} {kr a : Int} (h0 : ¬ kLet tx kn a = 103) (h1 : ¬ kLet tx kn a = 108) (h : ¬ kLet tx kn a = 114) : kTake tx kn P kr a = (pSetS P (kF tx kn a 0), kr) := by unfold kTake; rw [if_neg h0, if_neg h1, if_neg h]
/-- what an item that is so has -/
theorem kItem_g {tx : Nat → Int} {kn W H kr a : Int} (h : ¬ kItem tx kn W H kr a = 0) (hk : kLet tx kn a = 103) : kOks tx kn a 2 3 9 ∧ kItem tx kn W H kr a = 2 := by
  unfold kItem at *
  split at h
  · exact absurd rfl h
  · rename_i h0
    rw [if_neg h0, if_pos hk]
    exact kFig_ok h
theorem kItem_l {tx : Nat → Int} {kn W H kr a : Int} (h : ¬ kItem tx kn W H kr a = 0) (hk : kLet tx kn a = 108) : kOks tx kn a 4 0 7 ∧ kItem tx kn W H kr a = 4 := by
  have hn : ¬ kLet tx kn a = 103 := by omega
  have e : kItem tx kn W H kr a = if bP (0 < W) = kG tx kn a then 0 else kFig tx kn a 4 0 7 := by unfold kItem; rw [if_neg hn, if_pos hk]
  rw [e] at h ⊢
  by_cases h0 : bP (0 < W) = kG tx kn a
  · rw [if_pos h0] at h; exact absurd rfl h
  · rw [if_neg h0] at h ⊢
    exact kFig_ok h
theorem kItem_w {tx : Nat → Int} {kn W H kr a : Int} (h : ¬ kItem tx kn W H kr a = 0) (hk : kLet tx kn a = 114) : kOks tx kn a W 0 9 ∧ kItem tx kn W H kr a = W ∧ kr < H := by
  have hn : ¬ kLet tx kn a = 103 := by omega
  have hn2 : ¬ kLet tx kn a = 108 := by omega
  have e : kItem tx kn W H kr a = if bP (0 < W) = kG tx kn a then 0 else if H ≤ kr then 0 else kFig tx kn a W 0 9 := by unfold kItem; rw [if_neg hn, if_neg hn2, if_pos hk]
  rw [e] at h ⊢
  by_cases h0 : bP (0 < W) = kG tx kn a
  · rw [if_pos h0] at h; exact absurd rfl h
  · rw [if_neg h0] at h ⊢
    by_cases h1 : H ≤ kr
    · rw [if_pos h1] at h; exact absurd rfl h
    · rw [if_neg h1] at h ⊢
      exact ⟨(kFig_ok h).1, (kFig_ok h).2, by omega⟩
theorem kItem_n {tx : Nat → Int} {kn W H kr a : Int} (h : ¬ kItem tx kn W H kr a = 0) (h0 : ¬ kLet tx kn a = 103) (h1 : ¬ kLet tx kn a = 108) (h2 : ¬ kLet tx kn a = 114) : kOks tx kn a 1 2 6 ∧ kItem tx kn W H kr a = 1 := by
  unfold kItem at *
  split at h
  · exact absurd rfl h
  · rename_i hz
    rw [if_neg hz, if_neg h0, if_neg h1, if_neg h2]
    split at h
    · rename_i h3
      rw [if_pos h3]
      exact kFig_ok h
    · exact absurd rfl h
theorem kOks_e {tx : Nat → Int} {kn a m lo hi : Int} (h : kOks tx kn a m lo hi) (ha : 0 ≤ a) (hm : 0 ≤ m) : a + m + 2 ≤ kn := by
  have h2 := h.2
  unfold kLet at h2
  split at h2
  · omega
  · omega
theorem kItem_e {tx : Nat → Int} {kn W H kr a : Int} (h : ¬ kItem tx kn W H kr a = 0) (ha : 0 ≤ a) (hW : 0 ≤ W) : a + (kItem tx kn W H kr a + 2) ≤ kn := by
  by_cases h0 : kLet tx kn a = 103
  · obtain ⟨q, e⟩ := kItem_g h h0
    have := kOks_e q ha (by omega); omega
  · by_cases h1 : kLet tx kn a = 108
    · obtain ⟨q, e⟩ := kItem_l h h1
      have := kOks_e q ha (by omega); omega
    · by_cases h2 : kLet tx kn a = 114
      · obtain ⟨q, e, -⟩ := kItem_w h h2
        have := kOks_e q ha (by omega); omega
      · obtain ⟨q, e⟩ := kItem_n h h0 h1 h2
        have := kOks_e q ha (by omega); omega
theorem kF_r {tx : Nat → Int} {kn a m lo hi : Int} (h : kOks tx kn a m lo hi) (i : Nat) (hi' : (Nat.cast i : Int) < m) : lo ≤ kF tx kn a i ∧ kF tx kn a i ≤ hi := h.1 i hi'
theorem sPut_r {g f : Nat → Int} {a j : Nat} {lo hi : Int} (hg : ∀ k : Nat, lo ≤ g k ∧ g k ≤ hi) (hf : ∀ i : Nat, i < j → lo ≤ f i ∧ f i ≤ hi) : ∀ k : Nat, lo ≤ sPut g a j f k ∧ sPut g a j f k ≤ hi := by
  intro k
  unfold sPut
  split
  · exact hf _ (by omega)
  · exact hg k
theorem gOK_put {W H : Int} {g f : Nat → Int} {a j : Nat} (h : gOK W H g) (hf : ∀ i : Nat, i < j → 0 ≤ f i ∧ f i ≤ 9) : gOK W H (sPut g a j f) := ⟨h.1, h.2.1, h.2.2.1, h.2.2.2.1, sPut_r h.2.2.2.2 hf⟩
/-- what a reading keeps of a picture and of the rows told -/
def kOK (P : pT) (kr : Int) : Prop := pOK P ∧ 0 ≤ kr ∧ kr ≤ 9 ∧ (pS P = 0 ∨ (2 ≤ pS P ∧ pS P ≤ 6))
theorem kTake_ok {tx : Nat → Int} {kn : Int} {P : pT} {kr a : Int} (h : kOK P kr) (hi : ¬ kItem tx kn (pW P) (pH P) kr a = 0) : kOK (kTake tx kn P kr a).1 (kTake tx kn P kr a).2 := by
  obtain ⟨⟨hG, hO, hQ⟩, h1, h2, h3⟩ := h
  have hH := hG.2.2.2.1
  by_cases k0 : kLet tx kn a = 103
  · obtain ⟨q, -⟩ := kItem_g hi k0
    rw [kTake_g k0]
    have f0 := kF_r q 0 (by decide)
    have f1 := kF_r q 1 (by decide)
    exact ⟨⟨⟨by show 0 ≤ kF tx kn a 0; omega, by show kF tx kn a 0 ≤ 9; omega, by show 0 ≤ kF tx kn a 1; omega, by show kF tx kn a 1 ≤ 9; omega, hG.2.2.2.2⟩, hO, hQ⟩, h1, h2, h3⟩
  · by_cases k1 : kLet tx kn a = 108
    · obtain ⟨q, -⟩ := kItem_l hi k1
      rw [kTake_l k0 k1]
      refine ⟨⟨hG, hO, fun k => ?_⟩, h1, h2, h3⟩
      have := sPut_r (g := pQ P) (f := kF tx kn a) (a := 0) (j := 4) (lo := 0) (hi := 7) (fun k => ⟨(hQ k).1, by have := (hQ k).2; omega⟩) (fun i hi => kF_r q i (by omega)) k
      show 0 ≤ sPut (pQ P) 0 4 (kF tx kn a) k ∧ sPut (pQ P) 0 4 (kF tx kn a) k < 8
      omega
    · by_cases k2 : kLet tx kn a = 114
      · obtain ⟨q, -, hlt⟩ := kItem_w hi k2
        rw [kTake_r k0 k1 k2]
        exact ⟨⟨gOK_put hG (fun i hi => kF_r q i (by have := hG.1; omega)), hO, hQ⟩, by show 0 ≤ kr + 1; omega, by show kr + 1 ≤ 9; omega, h3⟩
      · obtain ⟨q, -⟩ := kItem_n hi k0 k1 k2
        rw [kTake_s k0 k1 k2]
        have f0 := kF_r q 0 (by decide)
        exact ⟨⟨hG, hO, hQ⟩, h1, h2, Or.inr (by show 2 ≤ kF tx kn a 0 ∧ kF tx kn a 0 ≤ 6; omega)⟩
/-- the reading, item by item: the fault or -4, the picture, the rows told -/
noncomputable def kRd (tx : Nat → Int) (kn : Int) : Nat → pT → Int → Int → Int × pT × Int
  | 0, P, kr, _ => (-4, P, kr)
  | f + 1, P, kr, a => if kn ≤ a then (-4, P, kr) else if kItem tx kn (pW P) (pH P) kr a = 0 then (a, P, kr) else kRd tx kn f (kTake tx kn P kr a).1 (kTake tx kn P kr a).2 (a + (kItem tx kn (pW P) (pH P) kr a + 2))
theorem kRd_e {tx : Nat → Int} {kn : Int} {n : Nat} {P : pT} {kr a : Int} (h : ¬ (n < 200 ∧ a < kn)) : kRd tx kn (200 - n) P kr a = (-4, P, kr) := by
  by_cases hn : n < 200
  · rw [fuel_s hn]; simp only [kRd]; rw [if_pos (by omega)]
  · rw [show 200 - n = 0 by omega]; rfl
theorem kRd_0 {tx : Nat → Int} {kn : Int} {n : Nat} {P : pT} {kr a : Int} (hn : n < 200) (ha : a < kn) (h : kItem tx kn (pW P) (pH P) kr a = 0) : kRd tx kn (200 - n) P kr a = (a, P, kr) := by
  rw [fuel_s hn]; simp only [kRd]; rw [if_neg (by omega), if_pos h]
theorem kRd_s {tx : Nat → Int} {kn : Int} {n : Nat} {P : pT} {kr a : Int} (hn : n < 200) (ha : a < kn) (h : ¬ kItem tx kn (pW P) (pH P) kr a = 0) : kRd tx kn (200 - n) P kr a = kRd tx kn (200 - (n + 1)) (kTake tx kn P kr a).1 (kTake tx kn P kr a).2 (a + (kItem tx kn (pW P) (pH P) kr a + 2)) := by
  rw [fuel_s hn]; simp only [kRd]; rw [if_neg (by omega), if_neg h]
