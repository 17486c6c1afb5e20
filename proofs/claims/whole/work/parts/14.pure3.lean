/-! a picture, in whole numbers: columns, rows, heights, strokes, lengths, ends, cells, lights, shades -/
abbrev pT : Type := Int × Int × (Nat → Int) × Int × (Nat → Int) × (Nat → Int) × (Nat → Int) × (Nat → Int) × Int
def pW (P : pT) : Int := P.1
def pH (P : pT) : Int := P.2.1
def pG (P : pT) : Nat → Int := P.2.2.1
def pN (P : pT) : Int := P.2.2.2.1
def pL (P : pT) : Nat → Int := P.2.2.2.2.1
def pE (P : pT) : Nat → Int := P.2.2.2.2.2.1
def pC (P : pT) : Nat → Int := P.2.2.2.2.2.2.1
def pQ (P : pT) : Nat → Int := P.2.2.2.2.2.2.2.1
def pS (P : pT) : Int := P.2.2.2.2.2.2.2.2
def pOK (P : pT) : Prop := gOK (pW P) (pH P) (pG P) ∧ sOK (pN P) (pL P) (pC P) ∧ ∀ k : Nat, 0 ≤ pQ P k ∧ pQ P k < 8
def pCopy (Q P : pT) : pT := (pW Q, pH Q, zCp (pG Q) (pG P) 0 0 81, pN Q, zTake (pN Q).toNat (pL Q) (pL P), zTake (pN Q).toNat (pE Q) (pE P), zTake (6 * (pN Q).toNat) (pC Q) (pC P), zCp (pQ Q) (pQ P) 0 0 4, pS Q)
def pClear (P : pT) : pT := (0, 0, zFill 81 0 (pG P), 0, pL P, pE P, pC P, zFill 4 7 (pQ P), 4)
noncomputable def pTone (P : pT) (x y : Int) : Int := gTone (pW P) (pH P) (pG P) x y (pQ P (gQ (pW P) (pH P) x y).toNat)
noncomputable def pWhy (P : pT) (c : Int) : Int := if gNext (pW P) (pH P) (pG P) c = -1 then 1 else if bP (gCrest (pW P) (pH P) (pG P) (c % 9) (c / 9) (-1)) = 1 then 2 else if bP (sOff (pN P) (pL P) (sT (pC P)) c) = 0 then 3 else if bP (sOff (pN P) (pL P) (sT (pC P)) (gNext (pW P) (pH P) (pG P) c)) = 1 then 0 else 4
theorem pWhy_r (P : pT) (c : Int) : 0 ≤ pWhy P c ∧ pWhy P c ≤ 4 := by
  unfold pWhy
  split
  · omega
  · split
    · omega
    · split
      · omega
      · split <;> omega
noncomputable def pSt (P : pT) : Nat → Int × Int
  | 0 => (-1, -1)
  | n + 1 => if gIn (pW P) (pH P) (Nat.cast n : Int) ∧ (pSt P n).2 < gSteep (pW P) (pH P) (pG P) ((Nat.cast n : Int) % 9) ((Nat.cast n : Int) / 9) ∧ pWhy P (Nat.cast n : Int) = 0 then ((Nat.cast n : Int), gSteep (pW P) (pH P) (pG P) ((Nat.cast n : Int) % 9) ((Nat.cast n : Int) / 9)) else pSt P n
theorem pSt_r {P : pT} (h : pOK P) (n : Nat) : -1 ≤ (pSt P n).1 ∧ ((pSt P n).1 < n ∨ (pSt P n).1 = -1) ∧ -1 ≤ (pSt P n).2 ∧ (pSt P n).2 ≤ 18 := by
  induction n with
  | zero => simp [pSt]
  | succ n ih =>
    have h1 := gSteep_r h.1 ((Nat.cast n : Int) % 9) ((Nat.cast n : Int) / 9)
    simp only [pSt]
    split
    · refine ⟨?_, ?_, ?_, ?_⟩ <;> simp only <;> omega
    · omega
noncomputable def pBegin (P : pT) : Int := (pSt P 81).1
theorem pBegin_r {P : pT} (h : pOK P) : -1 ≤ pBegin P ∧ pBegin P ≤ 80 := by
  have := pSt_r h 81
  unfold pBegin
  omega
/-- one place of a row of anything set anew -/
def uG {α : Type} (f : Nat → α) (i : Nat) (v : α) : Nat → α := fun k => if k = i then v else f k
section ZA
variable {p : Program} {l : Launch} {e : Env} {R : Room} {s : State} {m : MethodId} {args : Array Value} {below : List Frame} {meth : Method} {c : Code} {H : Heap} {locs : List Loc} {cells slots : Nat} {Q : State → Prop}
variable {cc : ByteArray} {pc : Nat} {ls : Array Slot} {rest : List Value} {G : zG} {A : Nat → Prop} {w : va_W} {a : Nat} {H0 : Heap}
theorem z_aald {n : Nat} {f : Nat → Option Nat} {i kz : Int} {b : Nat} (hexec : p.tables.exec = Jvm.exec) (hb : c.code = cc) (hK : zK G s) (hP : va_P G.1 vwCl w H) (q0 : Nat) (ha : w[q0]? = some (a, .inl (G.2.2.2.2, n, .inr (.inr (.inr (.inr f)))))) (hi : i = kz) (h0 : 0 ≤ kz ∧ kz < n) (hn : n < 2147483648) (hv : f kz.toNat = some b) (hdg : decode cc pc = .ok (.aaload, 1))
    (kk : W p l e R s m args below meth c H locs cells slots Q (F0 m (pc + 1) ls (.ref b :: rest))) : W p l e R s m args below meth c H locs cells slots Q (F0 m pc ls (.int (iV i) :: .ref a :: rest)) := by
  subst hi
  refine va_aldq hexec hb hK hP q0 3 ha rfl (iV_in h0.1 h0.2 hn) hdg ?_
  rw [iV_nat ⟨by omega, by omega⟩, hv]
  exact kk
end ZA
theorem zCp_r {f g : Nat → Int} {a b n : Nat} {lo hi : Int} (hf : ∀ k : Nat, lo ≤ f k ∧ f k < hi) (hg : ∀ k : Nat, lo ≤ g k ∧ g k < hi) : ∀ k : Nat, lo ≤ zCp f g a b n k ∧ zCp f g a b n k < hi := by
  intro k
  unfold zCp
  split
  · exact hf _
  · exact hg _
theorem pOK_copy {P Q : pT} (h : pOK P) (hq : pOK Q) : pOK (pCopy Q P) := by
  obtain ⟨⟨a1, a2, a3, a4, a5⟩, ⟨b1, b2, b3, b4⟩, c1⟩ := h
  obtain ⟨⟨d1, d2, d3, d4, d5⟩, ⟨e1, e2, e3, e4⟩, f1⟩ := hq
  refine ⟨⟨d1, d2, d3, d4, fun k => ?_⟩, ⟨e1, e2, fun k => ?_, fun k => ?_⟩, zCp_r f1 c1⟩
  · have := zCp_r (f := pG Q) (g := pG P) (a := 0) (b := 0) (n := 81) (lo := 0) (hi := 10) (fun k => ⟨(d5 k).1, by have := (d5 k).2; omega⟩) (fun k => ⟨(a5 k).1, by have := (a5 k).2; omega⟩) k
    show 0 ≤ zCp (pG Q) (pG P) 0 0 81 k ∧ zCp (pG Q) (pG P) 0 0 81 k ≤ 9
    omega
  · show 0 ≤ zTake _ (pL Q) (pL P) k ∧ zTake _ (pL Q) (pL P) k ≤ 6
    unfold zTake; split
    · exact e3 k
    · exact b3 k
  · show 0 ≤ zTake _ (pC Q) (pC P) k ∧ zTake _ (pC Q) (pC P) k < 81
    unfold zTake; split
    · exact e4 k
    · exact b4 k
theorem pOK_clear {P : pT} (h : pOK P) : pOK (pClear P) := by
  obtain ⟨⟨a1, a2, a3, a4, a5⟩, ⟨b1, b2, b3, b4⟩, c1⟩ := h
  refine ⟨⟨Int.le_refl 0, (by decide : (0 : Int) ≤ 9), Int.le_refl 0, (by decide : (0 : Int) ≤ 9), fun k => ?_⟩, ⟨Int.le_refl 0, (by decide : (0 : Int) ≤ 20), b3, b4⟩, fun k => ?_⟩
  · show 0 ≤ zFill 81 0 (pG P) k ∧ zFill 81 0 (pG P) k ≤ 9
    unfold zFill; split
    · omega
    · exact a5 k
  · show 0 ≤ zFill 4 7 (pQ P) k ∧ zFill 4 7 (pQ P) k < 8
    unfold zFill; split
    · omega
    · exact c1 k
