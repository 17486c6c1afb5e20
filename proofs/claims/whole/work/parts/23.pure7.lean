/-! the class's calls, in whole numbers: what is drawn now, how much can be undone, the next place of the ring, the ring -/
abbrev nT : Type := pT × Int × Int × (Nat → pT)
def nKeep (S : nT) : nT := (S.1, min (S.2.1 + 1) 6, (S.2.2.1 + 1) % 6, uG S.2.2.2 S.2.2.1.toNat (pCopy S.1 (S.2.2.2 S.2.2.1.toNat)))
def nSet (S : nT) (P : pT) : nT := (P, S.2)
theorem c9m {x y : Int} (hx : 0 ≤ x ∧ x < 9) : (9 * y + x) % 9 = x := by omega
theorem c9d {x y : Int} (hx : 0 ≤ x ∧ x < 9) : (9 * y + x) / 9 = y := by omega
noncomputable def pRub (c : Int) (P : pT) : pT := (pW P, pH P, pG P, (sRm c (pN P).toNat (pN P, pL P, pE P, pC P)).1, (sRm c (pN P).toNat (pN P, pL P, pE P, pC P)).2.1, (sRm c (pN P).toNat (pN P, pL P, pE P, pC P)).2.2.1, (sRm c (pN P).toNat (pN P, pL P, pE P, pC P)).2.2.2, pQ P, pS P)
noncomputable def pGo (P : pT) (c : Int) : Nat × Int := sGo (pN P) (pL P) (sT (pC P)) (fun z => gNext (pW P) (pH P) (pG P) z) 6 0 c
noncomputable def pAdd (c : Int) (P : pT) : pT := (pW P, pH P, pG P, pN P + 1, uI (pL P) (pN P).toNat (Nat.cast (pGo P c).1 : Int), uI (pE P) (pN P).toNat (pGo P c).2, sPut (pC P) (6 * (pN P).toNat) (pGo P c).1 (gWk (fun z => gNext (pW P) (pH P) (pG P) z) c), pQ P, pS P)
def pDel (s : Int) (P : pT) : pT := (pW P, pH P, pG P, pN P - 1, zSh 1 s.toNat ((pN P).toNat - 1 - s.toNat) (pL P), zSh 1 s.toNat ((pN P).toNat - 1 - s.toNat) (pE P), zSh 6 s.toNat ((pN P).toNat - 1 - s.toNat) (pC P), pQ P, pS P)
def cWrite (kn : Int) (tx : Nat → Int) (le : Int) : Int × Int × (Nat → Int) := if 32 ≤ le ∧ le ≤ 126 then (if kn < 200 then (kn + 1, kn + 1, uI tx kn.toNat le) else (-3, kn, tx)) else (-1, kn, tx)
noncomputable def cRaise (S : nT) (x y v : Int) : Int × nT := if hXY (pW S.1) (pH S.1) x y ∧ 0 ≤ v ∧ v ≤ 9 then (if gAt (pG S.1) x y = v then (-2, S) else (gAt (pG S.1) x y, nSet (nKeep S) (pRub (9 * y + x) (pSetG S.1 (uI (pG S.1) (9 * y + x).toNat v))))) else (-1, S)
theorem cRaise_b {S : nT} {x y v : Int} (h : ¬ (hXY (pW S.1) (pH S.1) x y ∧ 0 ≤ v ∧ v ≤ 9)) : cRaise S x y v = (-1, S) := by unfold cRaise; rw [if_neg h]
theorem cRaise_n {S : nT} {x y v : Int} (h : hXY (pW S.1) (pH S.1) x y ∧ 0 ≤ v ∧ v ≤ 9) (h2 : gAt (pG S.1) x y = v) : cRaise S x y v = (-2, S) := by unfold cRaise; rw [if_pos h, if_pos h2]
theorem cRaise_k {S : nT} {x y v : Int} (h : hXY (pW S.1) (pH S.1) x y ∧ 0 ≤ v ∧ v ≤ 9) (h2 : ¬ gAt (pG S.1) x y = v) : cRaise S x y v = (gAt (pG S.1) x y, nSet (nKeep S) (pRub (9 * y + x) (pSetG S.1 (uI (pG S.1) (9 * y + x).toNat v)))) := by unfold cRaise; rw [if_pos h, if_neg h2]
def cLight (S : nT) (q d : Int) : Int × nT := if (0 ≤ q ∧ q < 4) ∧ 0 ≤ d ∧ d < 8 then (if pQ S.1 q.toNat = d then (-2, S) else (pQ S.1 q.toNat, nSet (nKeep S) (pSetQ S.1 (uI (pQ S.1) q.toNat d)))) else (-1, S)
theorem cLight_b {S : nT} {q d : Int} (h : ¬ ((0 ≤ q ∧ q < 4) ∧ 0 ≤ d ∧ d < 8)) : cLight S q d = (-1, S) := by unfold cLight; rw [if_neg h]
theorem cLight_n {S : nT} {q d : Int} (h : (0 ≤ q ∧ q < 4) ∧ 0 ≤ d ∧ d < 8) (h2 : pQ S.1 q.toNat = d) : cLight S q d = (-2, S) := by unfold cLight; rw [if_pos h, if_pos h2]
theorem cLight_k {S : nT} {q d : Int} (h : (0 ≤ q ∧ q < 4) ∧ 0 ≤ d ∧ d < 8) (h2 : ¬ pQ S.1 q.toNat = d) : cLight S q d = (pQ S.1 q.toNat, nSet (nKeep S) (pSetQ S.1 (uI (pQ S.1) q.toNat d))) := by unfold cLight; rw [if_pos h, if_neg h2]
def cShades (S : nT) (n : Int) : Int × nT := if 2 ≤ n ∧ n ≤ 6 then (if pS S.1 = n then (-2, S) else (pS S.1, nSet (nKeep S) (pSetS S.1 n))) else (-1, S)
theorem cShades_b {S : nT} {n : Int} (h : ¬ (2 ≤ n ∧ n ≤ 6)) : cShades S n = (-1, S) := by unfold cShades; rw [if_neg h]
theorem cShades_n {S : nT} {n : Int} (h : 2 ≤ n ∧ n ≤ 6) (h2 : pS S.1 = n) : cShades S n = (-2, S) := by unfold cShades; rw [if_pos h, if_pos h2]
theorem cShades_k {S : nT} {n : Int} (h : 2 ≤ n ∧ n ≤ 6) (h2 : ¬ pS S.1 = n) : cShades S n = (pS S.1, nSet (nKeep S) (pSetS S.1 n)) := by unfold cShades; rw [if_pos h, if_neg h2]
def cUndo (S : nT) : Int × nT := if S.2.1 = 0 then (-2, S) else (S.2.1 - 1, (pCopy (S.2.2.2 ((S.2.2.1 + 6 - 1) % 6).toNat) S.1, S.2.1 - 1, (S.2.2.1 + 6 - 1) % 6, S.2.2.2))
theorem cUndo_n {S : nT} (h : S.2.1 = 0) : cUndo S = (-2, S) := by unfold cUndo; rw [if_pos h]
theorem cUndo_k {S : nT} (h : ¬ S.2.1 = 0) : cUndo S = (S.2.1 - 1, (pCopy (S.2.2.2 ((S.2.2.1 + 6 - 1) % 6).toNat) S.1, S.2.1 - 1, (S.2.2.1 + 6 - 1) % 6, S.2.2.2)) := by unfold cUndo; rw [if_neg h]
noncomputable def cDraw (S : nT) (x y : Int) : Int × nT := if hXY (pW S.1) (pH S.1) x y then (if pWhy S.1 (9 * y + x) = 0 then (if pN S.1 < 20 then (pN S.1 + 1 - 1, nSet (nKeep S) (pAdd (9 * y + x) S.1)) else (-3, S)) else (-2, S)) else (-1, S)
theorem cDraw_b {S : nT} {x y : Int} (h : ¬ hXY (pW S.1) (pH S.1) x y) : cDraw S x y = (-1, S) := by unfold cDraw; rw [if_neg h]
theorem cDraw_n {S : nT} {x y : Int} (h : hXY (pW S.1) (pH S.1) x y) (h2 : ¬ pWhy S.1 (9 * y + x) = 0) : cDraw S x y = (-2, S) := by unfold cDraw; rw [if_pos h, if_neg h2]
theorem cDraw_f {S : nT} {x y : Int} (h : hXY (pW S.1) (pH S.1) x y) (h2 : pWhy S.1 (9 * y + x) = 0) (h3 : ¬ pN S.1 < 20) : cDraw S x y = (-3, S) := by unfold cDraw; rw [if_pos h, if_pos h2, if_neg h3]
theorem cDraw_k {S : nT} {x y : Int} (h : hXY (pW S.1) (pH S.1) x y) (h2 : pWhy S.1 (9 * y + x) = 0) (h3 : pN S.1 < 20) : cDraw S x y = (pN S.1 + 1 - 1, nSet (nKeep S) (pAdd (9 * y + x) S.1)) := by unfold cDraw; rw [if_pos h, if_pos h2, if_pos h3]
def cRub (S : nT) (s : Int) : Int × nT := if 0 ≤ s ∧ s < pN S.1 then (pN S.1 - 1, nSet (nKeep S) (pDel s S.1)) else (-1, S)
theorem cRub_b {S : nT} {s : Int} (h : ¬ (0 ≤ s ∧ s < pN S.1)) : cRub S s = (-1, S) := by unfold cRub; rw [if_neg h]
theorem cRub_k {S : nT} {s : Int} (h : 0 ≤ s ∧ s < pN S.1) : cRub S s = (pN S.1 - 1, nSet (nKeep S) (pDel s S.1)) := by unfold cRub; rw [if_pos h]
def cFlow (P : pT) (x y wh : Int) : Int := if hXY (pW P) (pH P) x y ∧ 0 ≤ wh ∧ wh ≤ 1 then (if wh = 0 then gPitF (pW P) (pH P) (pG P) 81 (9 * y + x) else gStF (pW P) (pH P) (pG P) 81 (9 * y + x)) else -1
noncomputable def cBasin (P : pT) (x y : Int) : Int := if hXY (pW P) (pH P) x y then sumN (fun k => bP (gIn (pW P) (pH P) (Nat.cast k : Int) ∧ gPitF (pW P) (pH P) (pG P) 81 (Nat.cast k : Int) = 9 * y + x)) 81 else -1
noncomputable def cContrast (P : pT) (q d : Int) : Int := if (0 ≤ q ∧ q < 4) ∧ 0 ≤ d ∧ d < 8 then gContrast (pW P) (pH P) (pG P) q d else -1
noncomputable def cWhy (P : pT) (x y : Int) : Int := if hXY (pW P) (pH P) x y then pWhy P (9 * y + x) else -1
def cNone (z : Int) : Int := if z = -1 then -4 else z
noncomputable def cWhose (P : pT) (x y : Int) : Int := if hXY (pW P) (pH P) x y then cNone (sOwn (pL P) (sT (pC P)) (9 * y + x) (pN P).toNat 0) else -1
def cStroke (P : pT) (s k : Int) : Int := if (0 ≤ s ∧ s < pN P) ∧ -3 ≤ k then (if k = -1 then pL P s.toNat else if k = -2 then pE P s.toNat else if k = -3 then gAt (pG P) (sAt (pL P) (pC P) s 0 % 9) (sAt (pL P) (pC P) s 0 / 9) - gAt (pG P) (sAt (pL P) (pC P) s (pL P s.toNat - 1) % 9) (sAt (pL P) (pC P) s (pL P s.toNat - 1) / 9) else cNone (sAt (pL P) (pC P) s k)) else -1
noncomputable def cCount (P : pT) (bs kn wh : Int) : Int := if wh = 0 then pW P else if wh = 1 then pH P else if wh = 2 then pS P else if wh = 3 then pN P else if wh = 4 then sumN (pL P) (pN P).toNat else if wh = 5 then sumN (fun k => bP (gIn (pW P) (pH P) (Nat.cast k : Int) ∧ gKind (pW P) (pH P) (pG P) ((Nat.cast k : Int) % 9) ((Nat.cast k : Int) / 9) 0)) 81 else if wh = 6 then sumN (fun k => bP (gIn (pW P) (pH P) (Nat.cast k : Int) ∧ gKind (pW P) (pH P) (pG P) ((Nat.cast k : Int) % 9) ((Nat.cast k : Int) / 9) 1)) 81 else if wh = 7 then sumN (fun k => bP (gIn (pW P) (pH P) (Nat.cast k : Int) ∧ gKind (pW P) (pH P) (pG P) ((Nat.cast k : Int) % 9) ((Nat.cast k : Int) / 9) 2)) 81 else if wh = 8 then bs else if wh = 9 then kn else if wh = 10 then sumN (fun k => if gIn (pW P) (pH P) (Nat.cast k : Int) then pG P k else 0) 81 else -1
theorem sAt_r {n : Int} {lF cF : Nat → Int} (h : sOK n lF cF) {s k : Int} (hk : 0 ≤ k ∧ k < lF s.toNat) : 0 ≤ sAt lF cF s k ∧ sAt lF cF s k < 81 := by
  unfold sAt
  rw [if_pos hk]
  exact h.2.2.2 _
def cLay (D : Int × pT × Int) (P : pT) (bs : Int) : Int × pT × Int := if D.1 = -4 ∧ 0 < pW D.2.1 then (pW D.2.1 * pH D.2.1, pCopy D.2.1 P, 0) else (-2, P, bs)
theorem cLay_t {D : Int × pT × Int} {P : pT} {bs : Int} (h : D.1 = -4) (h2 : 0 < pW D.2.1) : cLay D P bs = (pW D.2.1 * pH D.2.1, pCopy D.2.1 P, 0) := by unfold cLay; rw [if_pos ⟨h, h2⟩]
theorem cLay_f {D : Int × pT × Int} {P : pT} {bs : Int} (h : ¬ (D.1 = -4 ∧ 0 < pW D.2.1)) : cLay D P bs = (-2, P, bs) := by unfold cLay; rw [if_neg h]
theorem kRd_ok {tx : Nat → Int} {kn : Int} (f : Nat) {P : pT} {kr a : Int} (h : kOK P kr) : kOK (kRd tx kn f P kr a).2.1 (kRd tx kn f P kr a).2.2 := by
  induction f generalizing P kr a with
  | zero => exact h
  | succ f ih =>
    simp only [kRd]
    split
    · exact h
    · split
      · exact h
      · exact ih (kTake_ok h (by assumption))
theorem kRd_r {tx : Nat → Int} {kn : Int} (f : Nat) {P : pT} {kr a : Int} (h : kOK P kr) (ha : 0 ≤ a ∧ a ≤ 300) (hk : kn ≤ 300) : -4 ≤ (kRd tx kn f P kr a).1 ∧ (kRd tx kn f P kr a).1 ≤ 300 := by
  induction f generalizing P kr a with
  | zero => simp only [kRd]; omega
  | succ f ih =>
    simp only [kRd]
    split
    · simp only; omega
    · split
      · simp only; omega
      · have h1 := kItem_e (tx := tx) (kn := kn) (W := pW P) (H := pH P) (kr := kr) (a := a) (by assumption) ha.1 h.1.1.1
        have h2 := kItem_R tx kn (pW P) (pH P) kr a ⟨h.1.1.1, h.1.1.2.1⟩
        exact ih (kTake_ok h (by assumption)) (by omega)
theorem kOK_0 {P : pT} (h : pOK P) : kOK (pClear P) 0 := ⟨pOK_clear h, by decide, by decide, Or.inr ⟨(by decide : (2 : Int) ≤ 4), (by decide : (4 : Int) ≤ 6)⟩⟩
theorem sOwn_r (lF : Nat → Int) (tF : Nat → Nat → Int) (c : Int) (m s : Nat) (h : m + s ≤ 100) : -1 ≤ sOwn lF tF c m s ∧ sOwn lF tF c m s ≤ 100 := by
  induction m generalizing s with
  | zero => simp only [sOwn]; omega
  | succ m ih =>
    simp only [sOwn]
    split
    · omega
    · exact ih (s + 1) (by omega)
theorem sAt_R {n : Int} {lF cF : Nat → Int} (h : sOK n lF cF) (s k : Int) : -1 ≤ sAt lF cF s k ∧ sAt lF cF s k < 81 := by
  unfold sAt
  split
  · have := h.2.2.2 (s * 6 + k).toNat; omega
  · omega
noncomputable def cLevel (P : pT) (D : wT) (sF pF : Nat → Int) (v wh : Int) : Int × (Nat → Int) × (Nat → Int) := if 1 ≤ v ∧ v ≤ 9 then (if wh = 0 then (D.1, D.2.1, D.2.2) else if wh = 1 then (vLine (pW P) (pH P) (pG P) v 81, sF, pF) else if wh = 2 then (sumN (fun k => bP (gUp (pW P) (pH P) (pG P) v (Nat.cast k : Int))) 81, sF, pF) else (-1, sF, pF)) else (-1, sF, pF)
def cBest (D : lT) (K : Nat → Int) (bS : Int) (bF kF : Nat → Int) (q : Int) : Int × Int × (Nat → Int) × (Nat → Int) := if q = -1 ∨ (0 ≤ q ∧ q < 4) then ((if q = -1 then D.1 else D.2 q.toNat), D.1, D.2, K) else (-1, bS, bF, kF)
theorem gWk_s (nx : Int → Int) (c : Int) (i : Nat) : gWk nx c (i + 1) = gWk nx (nx c) i := by
  induction i with
  | zero => rfl
  | succ i ih => exact congrArg nx ih
theorem sGo_r {n : Int} {lF : Nat → Int} {tF : Nat → Nat → Int} {nx : Int → Int} (hn : ∀ z, -1 ≤ nx z ∧ nx z ≤ 80) (f : Nat) : ∀ (j : Nat) (c : Int), 0 ≤ c ∧ c < 81 → j ≤ (sGo n lF tF nx f j c).1 ∧ (sGo n lF tF nx f j c).1 ≤ j + f ∧ ∀ i : Nat, j + i < (sGo n lF tF nx f j c).1 → 0 ≤ gWk nx c i ∧ gWk nx c i < 81 := by
  induction f with
  | zero => intro j c hc; simp only [sGo]; exact ⟨by omega, by omega, fun i hi => by omega⟩
  | succ f ih =>
    intro j c hc
    simp only [sGo]
    split
    · rename_i h0
      have h9 := sEnd_0 h0
      have h10 := hn c
      obtain ⟨a1, a2, a3⟩ := ih (j + 1) (nx c) (by omega)
      refine ⟨by omega, by omega, fun i hi => ?_⟩
      cases i with
      | zero => exact hc
      | succ i => rw [gWk_s]; exact a3 i (by omega)
    · refine ⟨by simp only; omega, by simp only; omega, fun i hi => ?_⟩
      simp only at hi
      have : i = 0 := by omega
      subst this
      exact hc
theorem pOK_add {P : pT} (h : pOK P) {c : Int} (hc : 0 ≤ c ∧ c < 81) (hn : pN P < 20) : pOK (pAdd c P) := by
  obtain ⟨hG, ⟨h1, h2, h3, h4⟩, hQ⟩ := h
  obtain ⟨-, a2, a3⟩ := sGo_r (n := pN P) (lF := pL P) (tF := sT (pC P)) (nx := fun z => gNext (pW P) (pH P) (pG P) z) (fun z => gNext_r hG z) 6 0 c hc
  refine ⟨hG, ⟨by show 0 ≤ pN P + 1; omega, by show pN P + 1 ≤ 20; omega, ?_, ?_⟩, hQ⟩
  · exact uI_r h3 ⟨by omega, by show (Nat.cast (pGo P c).1 : Int) ≤ 6; unfold pGo; omega⟩
  · have := sPut_r (g := pC P) (f := gWk (fun z => gNext (pW P) (pH P) (pG P) z) c) (a := 6 * (pN P).toNat) (j := (pGo P c).1) (lo := 0) (hi := 80) (fun k => ⟨(h4 k).1, by have := (h4 k).2; omega⟩) (fun i hi => by have := a3 i (by unfold pGo at hi; omega); omega)
    intro k
    have q := this k
    show 0 ≤ sPut _ _ _ _ k ∧ sPut _ _ _ _ k < 81
    omega
noncomputable def pHat : Nat → pT → pT
  | 0, P => P
  | f + 1, P => if pBegin P = -1 then P else pHat f (pAdd (pBegin P) P)
theorem pHat_n {f : Nat} {P : pT} (h : pBegin P = -1) : pHat f P = P := by
  cases f with
  | zero => rfl
  | succ f => simp only [pHat]; rw [if_pos h]
theorem pHat_s {P : pT} (hn : 0 ≤ pN P ∧ pN P < 20) (h : ¬ pBegin P = -1) : pHat (20 - (pN P).toNat) P = pHat (20 - (pN (pAdd (pBegin P) P)).toNat) (pAdd (pBegin P) P) := by
  rw [show 20 - (pN P).toNat = (20 - (pN (pAdd (pBegin P) P)).toNat) + 1 by show _ = 20 - (pN P + 1).toNat + 1; omega]
  simp only [pHat]
  rw [if_neg h]
noncomputable def cHatch (S : nT) : Int × nT := (pN (pHat (20 - (pN S.1).toNat) S.1) - pN S.1, nSet (nKeep S) (pHat (20 - (pN S.1).toNat) S.1))
