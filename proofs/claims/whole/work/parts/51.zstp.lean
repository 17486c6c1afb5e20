/-! a call of both: the same answer, and what is common stays so -/
def rTx (kn : Int) (tx : Nat → Int) (ml : Int) (mx : Nat → Int) : Prop := (0 ≤ kn ∧ kn ≤ 200) ∧ ml = kn ∧ (∀ k : Nat, 0 ≤ tx k ∧ tx k < 128) ∧ (∀ k : Nat, 0 ≤ mx k ∧ mx k < 128) ∧ ∀ k : Nat, (Nat.cast k : Int) < kn → tx k = mx k
theorem st_write {kn ml : Int} {tx mx : Nat → Int} (h : rTx kn tx ml mx) (le : Int) : (cWrite kn tx le).1 = (cWrite ml mx le).1 ∧ rTx (cWrite kn tx le).2.1 (cWrite kn tx le).2.2 (cWrite ml mx le).2.1 (cWrite ml mx le).2.2 := by
  obtain ⟨h1, rfl, h3, h4, h5⟩ := h
  unfold cWrite
  by_cases q : 32 ≤ le ∧ le ≤ 126
  · rw [if_pos q, if_pos q]
    by_cases r : ml < 200
    · rw [if_pos r, if_pos r]
      refine ⟨rfl, ⟨by simp only; omega, by simp only; omega⟩, rfl, uI_r' h3 (by omega), uI_r' h4 (by omega), fun k hk => ?_⟩
      simp only at hk ⊢
      unfold uI
      split
      · rfl
      · exact h5 k (by omega)
    · rw [if_neg r, if_neg r]
      exact ⟨rfl, h1, rfl, h3, h4, h5⟩
  · rw [if_neg q, if_neg q]
    exact ⟨rfl, h1, rfl, h3, h4, h5⟩
theorem st_wipe {kn ml : Int} {tx mx : Nat → Int} (h : rTx kn tx ml mx) : kn = ml ∧ rTx 0 tx 0 mx := by
  obtain ⟨h1, rfl, h3, h4, h5⟩ := h
  exact ⟨rfl, by decide, rfl, h3, h4, fun k hk => by omega⟩
theorem st_read {kn ml : Int} {tx mx rd : Nat → Int} {Q : pT} (h : rTx kn tx ml mx) (hQ : pOK Q) : (kRd tx kn 200 (pClear Q) 0 0).1 = (mRd mx ml 200 0 (nClr rd) 0).1 ∧ pOK (kRd tx kn 200 (pClear Q) 0 0).2.1 ∧ ((mRd mx ml 200 0 (nClr rd) 0).1 = -4 → kRel (kRd tx kn 200 (pClear Q) 0 0).2.1 (mRd mx ml 200 0 (nClr rd) 0).2.2.1) := by
  obtain ⟨h1, rfl, h3, h4, h5⟩ := h
  obtain ⟨a, b⟩ := read_eq h5 200 (pClear Q) (nClr rd) 0 0 (kRel_0 Q rd) (kOK_0 hQ) ⟨by omega, h1.1⟩ (by show ml - 0 ≤ (200 : Int); omega)
  exact ⟨a, (kRd_ok 200 (kOK_0 hQ)).1, b⟩
theorem st_lay {P : pT} {nw bf : Nat → Int} {bs bn un : Int} {K : Nat → pT} {D : Int × pT × Int} {M : mI4} (hP : pOK P) (hr : rPic P nw) (hps : rPst bs bn K un bf) (e : D.1 = M.1) (hD : pOK D.2.1) (hk : M.1 = -4 → kRel D.2.1 M.2.2.1) : (cLay D P bs).1 = (mLy M un nw).1 ∧ rPic (cLay D P bs).2.1 (mLy M un nw).2.2 ∧ rPst (cLay D P bs).2.2 bn K (mLy M un nw).2.1 bf := by
  by_cases q : M.1 = -4
  · have k := hk q
    obtain ⟨⟨k1, k2⟩, -, -, -, kd, -⟩ := id k
    by_cases r : M.2.2.1 0 = 0
    · rw [cLay_f (fun z => by have := z.2; omega), mLy_f (fun z => z.2 r)]
      exact ⟨rfl, hr, hps⟩
    · rw [cLay_t (by omega) (by omega), mLy_t ⟨q, r⟩]
      refine ⟨by simp only; rw [k1, k2], ?_, ?_⟩
      · exact rPic_c (g := zTake 249 M.2.2.1 nw) (fun j hj => by unfold zTake; rw [if_pos hj]) (rPic_copy hP (kRel_pic hD k r))
      · obtain ⟨-, p2, -, p4, -⟩ := hps
        exact ⟨by simp, p2, rfl, p4, fun i hi => by simp only at hi; omega⟩
  · rw [cLay_f (fun z => q (by rw [← e]; exact z.1)), mLy_f (fun z => q z.1)]
    exact ⟨rfl, hr, hps⟩
section ST
variable {nw L E C bf : Nat → Int} {bs bn un : Int} {K : Nat → pT}
theorem st_keep (h1 : sEq (nw 88) L E C nw) (h2 : sOK (nw 88) L C) (h3 : mOK nw) (h4 : mOne nw) (hp : rPst bs bn K un bf) : rPst (nKeep (nP nw L E C, bs, bn, K)).2.1 (nKeep (nP nw L E C, bs, bn, K)).2.2.1 (nKeep (nP nw L E C, bs, bn, K)).2.2.2 (mNt un bf nw).1 (mNt un bf nw).2 := ps_keep hp (nP_ok h2 h3) (rPic_i h1 h2 h3 h4)
theorem st_raise (h1 : sEq (nw 88) L E C nw) (h2 : sOK (nw 88) L C) (h3 : mOK nw) (h4 : mOne nw) (hp : rPst bs bn K un bf) (x y v : Int) : (cRaise (nP nw L E C, bs, bn, K) x y v).1 = (mRa un bf nw x y v).1 ∧ rPic (cRaise (nP nw L E C, bs, bn, K) x y v).2.1 (mRa un bf nw x y v).2.2.2 ∧ rPst (cRaise (nP nw L E C, bs, bn, K) x y v).2.2.1 (cRaise (nP nw L E C, bs, bn, K) x y v).2.2.2.1 (cRaise (nP nw L E C, bs, bn, K) x y v).2.2.2.2 (mRa un bf nw x y v).2.1 (mRa un bf nw x y v).2.2.1 := by
  have hW := h3.1.2.1
  have hH := h3.1.2.2.2.1
  by_cases q : hXY (nw 0) (nw 1) x y ∧ 0 ≤ v ∧ v ≤ 9
  · have eg : nw ((7 + 9 * y) + x).toNat = gAt (nG nw) x y := nG_at (by omega)
    rw [mRa_t q]
    by_cases r : gAt (nG nw) x y = v
    · rw [cRaise_n (S := (nP nw L E C, bs, bn, K)) q r]
      unfold mRv
      rw [mBec_t (by rw [eg]; exact r), if_pos rfl]
      exact ⟨rfl, rPic_i h1 h2 h3 h4, hp⟩
    · have ga := gAt_r h3.1 x y
      rw [cRaise_k (S := (nP nw L E C, bs, bn, K)) q r]
      unfold mRv
      rw [mBec_f (by rw [eg]; exact r), if_neg (by simp only; rw [eg]; omega)]
      exact ⟨eg.symm, ch_raise h1 h2 h3 h4 q.1 q.2, st_keep h1 h2 h3 h4 hp⟩
  · rw [cRaise_b (S := (nP nw L E C, bs, bn, K)) q, mRa_f q]
    exact ⟨rfl, rPic_i h1 h2 h3 h4, hp⟩
theorem st_light (h1 : sEq (nw 88) L E C nw) (h2 : sOK (nw 88) L C) (h3 : mOK nw) (h4 : mOne nw) (hp : rPst bs bn K un bf) (q d : Int) : (cLight (nP nw L E C, bs, bn, K) q d).1 = (mLi un bf nw q d).1 ∧ rPic (cLight (nP nw L E C, bs, bn, K) q d).2.1 (mLi un bf nw q d).2.2.2 ∧ rPst (cLight (nP nw L E C, bs, bn, K) q d).2.2.1 (cLight (nP nw L E C, bs, bn, K) q d).2.2.2.1 (cLight (nP nw L E C, bs, bn, K) q d).2.2.2.2 (mLi un bf nw q d).2.1 (mLi un bf nw q d).2.2.1 := by
  by_cases z : (0 ≤ q ∧ q < 4) ∧ 0 ≤ d ∧ d < 8
  · have eq : nw (2 + q).toNat = nQ nw q.toNat := nQ_at z.1
    rw [mLi_t (by omega)]
    by_cases r : nQ nw q.toNat = d
    · rw [cLight_n (S := (nP nw L E C, bs, bn, K)) z r, mBec_t (by rw [eq]; exact r)]
      exact ⟨rfl, rPic_i h1 h2 h3 h4, hp⟩
    · rw [cLight_k (S := (nP nw L E C, bs, bn, K)) z r, mBec_f (by rw [eq]; exact r)]
      exact ⟨eq.symm, ch_light h1 h2 h3 h4 z.1 z.2, st_keep h1 h2 h3 h4 hp⟩
  · rw [cLight_b (S := (nP nw L E C, bs, bn, K)) z, mLi_f (by omega)]
    exact ⟨rfl, rPic_i h1 h2 h3 h4, hp⟩
theorem st_shades (h1 : sEq (nw 88) L E C nw) (h2 : sOK (nw 88) L C) (h3 : mOK nw) (h4 : mOne nw) (hp : rPst bs bn K un bf) (n : Int) : (cShades (nP nw L E C, bs, bn, K) n).1 = (mSh un bf nw n).1 ∧ rPic (cShades (nP nw L E C, bs, bn, K) n).2.1 (mSh un bf nw n).2.2.2 ∧ rPst (cShades (nP nw L E C, bs, bn, K) n).2.2.1 (cShades (nP nw L E C, bs, bn, K) n).2.2.2.1 (cShades (nP nw L E C, bs, bn, K) n).2.2.2.2 (mSh un bf nw n).2.1 (mSh un bf nw n).2.2.1 := by
  by_cases z : 2 ≤ n ∧ n ≤ 6
  · rw [mSh_t z]
    by_cases r : nw 6 = n
    · rw [cShades_n (S := (nP nw L E C, bs, bn, K)) z r, mBec_t (show nw (6 : Int).toNat = n from r)]
      exact ⟨rfl, rPic_i h1 h2 h3 h4, hp⟩
    · rw [cShades_k (S := (nP nw L E C, bs, bn, K)) z r, mBec_f (show ¬ nw (6 : Int).toNat = n from r)]
      exact ⟨rfl, ch_shades h1 h2 h3 h4 z, st_keep h1 h2 h3 h4 hp⟩
  · rw [cShades_b (S := (nP nw L E C, bs, bn, K)) z, mSh_f z]
    exact ⟨rfl, rPic_i h1 h2 h3 h4, hp⟩
theorem st_undo (h1 : sEq (nw 88) L E C nw) (h2 : sOK (nw 88) L C) (h3 : mOK nw) (h4 : mOne nw) (hp : rPst bs bn K un bf) : (cUndo (nP nw L E C, bs, bn, K)).1 = (mUd un bf nw).1 ∧ rPic (cUndo (nP nw L E C, bs, bn, K)).2.1 (mUd un bf nw).2.2 ∧ rPst (cUndo (nP nw L E C, bs, bn, K)).2.2.1 (cUndo (nP nw L E C, bs, bn, K)).2.2.2.1 (cUndo (nP nw L E C, bs, bn, K)).2.2.2.2 (mUd un bf nw).2.1 bf := by
  have e : un = bs := hp.2.2.1
  by_cases z : bs = 0
  · rw [cUndo_n (S := (nP nw L E C, bs, bn, K)) z, mUd_0 (by omega)]
    exact ⟨rfl, rPic_i h1 h2 h3 h4, hp⟩
  · obtain ⟨a, b, -⟩ := ps_undo (nw := nw) hp (nP_ok (E := E) h2 h3) z
    rw [cUndo_k (S := (nP nw L E C, bs, bn, K)) z, mUd_s (by omega)]
    exact ⟨by simp only; omega, b, a⟩
theorem st_draw (h1 : sEq (nw 88) L E C nw) (h2 : sOK (nw 88) L C) (h3 : mOK nw) (h4 : mOne nw) (hp : rPst bs bn K un bf) (x y : Int) : (cDraw (nP nw L E C, bs, bn, K) x y).1 = (mDw un bf nw x y).1 ∧ rPic (cDraw (nP nw L E C, bs, bn, K) x y).2.1 (mDw un bf nw x y).2.2.2 ∧ rPst (cDraw (nP nw L E C, bs, bn, K) x y).2.2.1 (cDraw (nP nw L E C, bs, bn, K) x y).2.2.2.1 (cDraw (nP nw L E C, bs, bn, K) x y).2.2.2.2 (mDw un bf nw x y).2.1 (mDw un bf nw x y).2.2.1 := by
  have hW := h3.1.2.1
  have hH := h3.1.2.2.2.1
  have ew := an_why (E := E) h1 (9 * y + x)
  by_cases z : hXY (nw 0) (nw 1) x y
  · by_cases r : mWhy nw (9 * y + x) = 0
    · by_cases t : nw 88 = 20
      · rw [cDraw_f (S := (nP nw L E C, bs, bn, K)) z (ew.trans r) (by show ¬ nw 88 < 20; omega), mDw_f z r t]
        exact ⟨rfl, rPic_i h1 h2 h3 h4, hp⟩
      · have t2 : nw 88 < 20 := by have := h2.2.1; omega
        rw [cDraw_k (S := (nP nw L E C, bs, bn, K)) z (ew.trans r) t2, mDw_k z r t]
        exact ⟨rfl, ch_draw h1 h2 h3 h4 (by omega) t2, st_keep h1 h2 h3 h4 hp⟩
    · rw [cDraw_n (S := (nP nw L E C, bs, bn, K)) z (fun q => r (ew.symm.trans q)), mDw_n z r]
      exact ⟨rfl, rPic_i h1 h2 h3 h4, hp⟩
  · rw [cDraw_b (S := (nP nw L E C, bs, bn, K)) z, mDw_b z]
    exact ⟨rfl, rPic_i h1 h2 h3 h4, hp⟩
theorem st_rub (h1 : sEq (nw 88) L E C nw) (h2 : sOK (nw 88) L C) (h3 : mOK nw) (h4 : mOne nw) (hp : rPst bs bn K un bf) (t : Int) : (cRub (nP nw L E C, bs, bn, K) t).1 = (mRu un bf nw t).1 ∧ rPic (cRub (nP nw L E C, bs, bn, K) t).2.1 (mRu un bf nw t).2.2.2 ∧ rPst (cRub (nP nw L E C, bs, bn, K) t).2.2.1 (cRub (nP nw L E C, bs, bn, K) t).2.2.2.1 (cRub (nP nw L E C, bs, bn, K) t).2.2.2.2 (mRu un bf nw t).2.1 (mRu un bf nw t).2.2.1 := by
  by_cases z : 0 ≤ t ∧ t < nw 88
  · rw [cRub_k (S := (nP nw L E C, bs, bn, K)) z, mRu_t z]
    exact ⟨rfl, ch_rub h1 h2 h3 h4 z, st_keep h1 h2 h3 h4 hp⟩
  · rw [cRub_b (S := (nP nw L E C, bs, bn, K)) z, mRu_f z]
    exact ⟨rfl, rPic_i h1 h2 h3 h4, hp⟩
theorem st_hatch (h1 : sEq (nw 88) L E C nw) (h2 : sOK (nw 88) L C) (h3 : mOK nw) (h4 : mOne nw) (hp : rPst bs bn K un bf) : (cHatch (nP nw L E C, bs, bn, K)).1 = mHa 20 nw 88 - nw 88 ∧ rPic (cHatch (nP nw L E C, bs, bn, K)).2.1 (mHa 20 nw) ∧ rPst (cHatch (nP nw L E C, bs, bn, K)).2.2.1 (cHatch (nP nw L E C, bs, bn, K)).2.2.2.1 (cHatch (nP nw L E C, bs, bn, K)).2.2.2.2 (mNt un bf nw).1 (mNt un bf nw).2 := by
  have h0 := h3.2.2.1.1
  obtain ⟨a, b⟩ := ch_hatch 20 nw L E C h1 h2 h3 h4 (by show 20 - nw 88 ≤ (20 : Int); omega)
  refine ⟨?_, a, st_keep h1 h2 h3 h4 hp⟩
  show pN (pHat (20 - (nw 88).toNat) (nP nw L E C)) - nw 88 = _
  rw [b]
theorem st_turn (h1 : sEq (nw 88) L E C nw) (h2 : sOK (nw 88) L C) (h3 : mOK nw) (h4 : mOne nw) (hp : rPst bs bn K un bf) {D M : lT} (hD : ∀ k : Nat, k < 4 → D.2 k = M.2 k) (hr : ∀ k : Nat, 0 ≤ M.2 k ∧ M.2 k < 8) : (cTurn D (nP nw L E C, bs, bn, K)).1 = sumN (fun k => bP (¬ nQ nw k = M.2 k)) 4 ∧ rPic (cTurn D (nP nw L E C, bs, bn, K)).2.1 (sPut nw 2 4 M.2) ∧ rPst (cTurn D (nP nw L E C, bs, bn, K)).2.2.1 (cTurn D (nP nw L E C, bs, bn, K)).2.2.2.1 (cTurn D (nP nw L E C, bs, bn, K)).2.2.2.2 (mNt un bf nw).1 (mNt un bf nw).2 := by
  refine ⟨?_, ch_turn h1 h2 h3 h4 hD hr, st_keep h1 h2 h3 h4 hp⟩
  exact sumN_c (fun k hk => by rw [hD k hk]; rfl)
end ST
/-- the class's picture in its normal form -/
theorem zPic_like {G : zG} {a : Nat → Nat} {P Q : pT} {H : Heap} (h : pLike P Q) (hP : va_P G.1 vwCl (zPic G a P) H) : va_P G.1 vwCl (zPic G a Q) H := by
  obtain ⟨a1, a2, a3, a4, a5, a6, a7, a8, a9⟩ := h
  have c0 := hP 0 _ rfl
  have c1 := hP 1 _ rfl
  have c2 := hP 2 _ rfl
  have c3 := hP 3 _ rfl
  have c4 := hP 4 _ rfl
  have c5 := hP 5 _ rfl
  have c6 := hP 6 _ rfl
  have c7 := hP 7 _ rfl
  rw [a9] at c0
  rw [a1, a2] at c1
  rw [a4] at c3
  have d2 : H[a 2]? = some (vp_cell G.2.1 (81, .inl (fun k => iV (pG Q k)))) := by
    rw [← vp_cell_g (cA := G.2.1) (n := 81) (f := fun k => iV (pG P k)) (g := fun k => iV (pG Q k)) (fun k hk => by show iV (pG P k) = iV (pG Q k); rw [a3 k hk])]; exact c2
  have d4 : H[a 4]? = some (vp_cell G.2.1 (20, .inl (fun k => iV (pL Q k)))) := by
    rw [← vp_cell_g (cA := G.2.1) (n := 20) (f := fun k => iV (pL P k)) (g := fun k => iV (pL Q k)) (fun k hk => by show iV (pL P k) = iV (pL Q k); rw [a5 k hk])]; exact c4
  have d5 : H[a 5]? = some (vp_cell G.2.1 (20, .inl (fun k => iV (pE Q k)))) := by
    rw [← vp_cell_g (cA := G.2.1) (n := 20) (f := fun k => iV (pE P k)) (g := fun k => iV (pE Q k)) (fun k hk => by show iV (pE P k) = iV (pE Q k); rw [a6 k hk])]; exact c5
  have d6 : H[a 6]? = some (vp_cell G.2.1 (120, .inl (fun k => iV (pC Q k)))) := by
    rw [← vp_cell_g (cA := G.2.1) (n := 120) (f := fun k => iV (pC P k)) (g := fun k => iV (pC Q k)) (fun k hk => by show iV (pC P k) = iV (pC Q k); rw [a7 k hk])]; exact c6
  have d7 : H[a 7]? = some (vp_cell G.2.1 (4, .inl (fun k => iV (pQ Q k)))) := by
    rw [← vp_cell_g (cA := G.2.1) (n := 4) (f := fun k => iV (pQ P k)) (g := fun k => iV (pQ Q k)) (fun k hk => by show iV (pQ P k) = iV (pQ Q k); rw [a8 k hk])]; exact c7
  intro k q hq
  match k, hq with
  | 0, hq => cases hq; exact c0
  | 1, hq => cases hq; exact c1
  | 2, hq => cases hq; exact d2
  | 3, hq => cases hq; exact c3
  | 4, hq => cases hq; exact d4
  | 5, hq => cases hq; exact d5
  | 6, hq => cases hq; exact d6
  | 7, hq => cases hq; exact d7
  | k + 8, hq => simp [zPic] at hq
theorem va_P_app {D : va_G} {cl : List vw_C} {w1 w2 : va_W} {H : Heap} : va_P D cl (w1 ++ w2) H ↔ va_P D cl w1 H ∧ va_P D cl w2 H := by
  rw [va_P_mem, va_P_mem, va_P_mem]
  constructor
  · intro h
    exact ⟨fun q hq => h q (List.mem_append_left _ hq), fun q hq => h q (List.mem_append_right _ hq)⟩
  · rintro ⟨h1, h2⟩ q hq
    rcases List.mem_append.mp hq with z | z
    · exact h1 q z
    · exact h2 q z
theorem va_D_fst {A : Nat → Prop} {w w2 : va_W} (e : w.map Prod.fst = w2.map Prod.fst) (h : va_D A w) : va_D A w2 := by
  rw [va_D_nd] at h ⊢
  refine ⟨by rw [← e]; exact h.1, fun q hq => ?_⟩
  have : q.1 ∈ w.map Prod.fst := by rw [e]; exact List.mem_map.mpr ⟨q, hq, rfl⟩
  obtain ⟨z, hz, ez⟩ := List.mem_map.mp this
  rw [← ez]
  exact h.2 z hz
