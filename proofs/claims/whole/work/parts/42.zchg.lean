/-! strokes as lists: what is rubbed out from the last on, and from the first on -/
abbrev sR : Type := List Int × Int
def tOf (L E : Nat → Int) (T : Nat → Nat → Int) (t : Nat) : sR := ((List.range (L t).toNat).map (T t), E t)
def lOf (n : Nat) (f : Nat → sR) : List sR := (List.range n).map f
theorem lOf_g (n : Nat) (f : Nat → sR) (t : Nat) : (lOf n f)[t]? = if t < n then some (f t) else none := by
  unfold lOf
  rw [List.getElem?_map]
  by_cases h : t < n
  · rw [if_pos h, List.getElem?_range h]; rfl
  · rw [if_neg h, List.getElem?_eq_none (by rw [List.length_range]; omega)]; rfl
theorem lOf_len (n : Nat) (f : Nat → sR) : (lOf n f).length = n := by unfold lOf; simp
theorem lOf_c {n : Nat} {f g : Nat → sR} (h : ∀ t : Nat, t < n → f t = g t) : lOf n f = lOf n g := by
  apply List.ext_getElem?
  intro t
  rw [lOf_g, lOf_g]
  by_cases q : t < n
  · rw [if_pos q, if_pos q, h t q]
  · rw [if_neg q, if_neg q]
theorem lOf_er {n : Nat} {f g : Nat → sR} {s : Nat} (hs : s < n) (h : ∀ t : Nat, t < n - 1 → g t = if t < s then f t else f (t + 1)) : (lOf n f).eraseIdx s = lOf (n - 1) g := by
  apply List.ext_getElem?
  intro t
  rw [List.getElem?_eraseIdx, lOf_g, lOf_g, lOf_g]
  by_cases q : t < n - 1
  · rw [if_pos q, h t q]
    by_cases r : t < s
    · rw [if_pos r, if_pos r, if_pos (by omega)]
    · rw [if_neg r, if_neg r, if_pos (by omega)]
  · rw [if_neg q]
    by_cases r : t < s
    · omega
    · rw [if_neg r, if_neg (by omega)]
def nrR (c : Int) (r : sR) : Prop := ∃ a ∈ r.1, sBy a c
theorem nrR_t {L E : Nat → Int} {T : Nat → Nat → Int} {t : Nat} {c : Int} : nrR c (tOf L E T t) ↔ sNear L T t c := by
  unfold nrR tOf sNear
  constructor
  · rintro ⟨a, h1, h2⟩
    obtain ⟨k, h3, rfl⟩ := List.mem_map.mp h1
    have := List.mem_range.mp h3
    exact ⟨k, by omega, h2⟩
  · rintro ⟨k, h1, h2⟩
    exact ⟨T t k, List.mem_map.mpr ⟨k, List.mem_range.mpr (by omega), rfl⟩, h2⟩
noncomputable def kpR (c : Int) (r : sR) : Bool := decide (bP (nrR c r) = 0)
theorem kpR_t {c : Int} {r : sR} (h : nrR c r) : kpR c r = false := by unfold kpR; rw [bP_t h]; rfl
theorem kpR_f {c : Int} {r : sR} (h : ¬ nrR c r) : kpR c r = true := by unfold kpR; rw [bP_f h]; rfl
def lS (S : sS) : List sR := lOf S.1.toNat (tOf S.2.1 S.2.2.1 (sT S.2.2.2))
theorem lS_del {S : sS} (hS : sOK S.1 S.2.1 S.2.2.2) {s : Nat} (hs : s < S.1.toNat) : lS (sDel S s) = (lS S).eraseIdx s := by
  obtain ⟨n, L, E, C⟩ := S
  obtain ⟨h0, h20, hL, hC⟩ := hS
  simp only at h0 h20 hL hC hs
  symm
  have e : lS (sDel (n, L, E, C) s) = lOf (n.toNat - 1) (tOf (zSh 1 s (n.toNat - 1 - s) L) (zSh 1 s (n.toNat - 1 - s) E) (sT (zSh 6 s (n.toNat - 1 - s) C))) := by
    unfold lS sDel
    simp only
    rw [show (n - 1).toNat = n.toNat - 1 by omega]
  rw [e]
  refine lOf_er hs (fun t ht => ?_)
  have hLt := hL t
  have hLs := hL (t + 1)
  by_cases r : t < s
  · rw [if_pos r]
    have e1 : zSh 1 s (n.toNat - 1 - s) L t = L t := by unfold zSh; rw [if_neg (by omega)]
    have e2 : zSh 1 s (n.toNat - 1 - s) E t = E t := by unfold zSh; rw [if_neg (by omega)]
    unfold tOf
    rw [e1, e2]
    congr 1
    apply List.map_congr_left
    intro k hk
    have := List.mem_range.mp hk
    show zSh 6 s (n.toNat - 1 - s) C (6 * t + k) = C (6 * t + k)
    unfold zSh
    rw [if_neg (by omega)]
  · rw [if_neg r]
    have e1 : zSh 1 s (n.toNat - 1 - s) L t = L (t + 1) := by unfold zSh; rw [if_pos (by omega)]
    have e2 : zSh 1 s (n.toNat - 1 - s) E t = E (t + 1) := by unfold zSh; rw [if_pos (by omega)]
    unfold tOf
    rw [e1, e2]
    congr 1
    apply List.map_congr_left
    intro k hk
    have := List.mem_range.mp hk
    show zSh 6 s (n.toNat - 1 - s) C (6 * t + k) = C (6 * (t + 1) + k)
    unfold zSh
    rw [if_pos (by omega)]
    congr 1
    omega
theorem sOK_D {S : sS} (hS : sOK S.1 S.2.1 S.2.2.2) (s : Nat) (hn : 0 < S.1) : sOK (sDel S s).1 (sDel S s).2.1 (sDel S s).2.2.2 := by
  obtain ⟨n, L, E, C⟩ := S
  exact sOK_del hS hn
theorem take_er {α : Type} (l : List α) (m : Nat) (h : m < l.length) : (l.eraseIdx m).take m = l.take m ∧ (l.eraseIdx m).drop m = l.drop (m + 1) := by
  rw [List.eraseIdx_eq_take_drop_succ]
  have e : (l.take m).length = m := by rw [List.length_take]; omega
  exact ⟨List.take_left' e, List.drop_left' e⟩
theorem lOf_drop {n : Nat} {f : Nat → sR} {t : Nat} (h : t < n) : (lOf n f).drop t = f t :: (lOf n f).drop (t + 1) := by
  have hl : t < (lOf n f).length := by rw [lOf_len]; exact h
  rw [List.drop_eq_getElem_cons hl]
  congr 1
  have := lOf_g n f t
  rw [if_pos h, List.getElem?_eq_getElem hl] at this
  exact Option.some.inj this
theorem lOf_take {n : Nat} {f : Nat → sR} {t : Nat} (h : t < n) : (lOf n f).take (t + 1) = (lOf n f).take t ++ [f t] := by
  rw [List.take_succ, lOf_g, if_pos h]; rfl
theorem sRm_l (c : Int) (m : Nat) : ∀ S : sS, sOK S.1 S.2.1 S.2.2.2 → m ≤ S.1.toNat → lS (sRm c m S) = ((lS S).take m).filter (kpR c) ++ (lS S).drop m ∧ sOK (sRm c m S).1 (sRm c m S).2.1 (sRm c m S).2.2.2 := by
  induction m with
  | zero => intro S hS _; exact ⟨by simp [sRm], hS⟩
  | succ m ih =>
    intro S hS hm
    have h0 := hS.1
    simp only [sRm]
    by_cases q : sNear S.2.1 (sT S.2.2.2) m c
    · rw [if_pos (bP_t q)]
      have hl : m < (lS S).length := by unfold lS; rw [lOf_len]; omega
      obtain ⟨i1, i2⟩ := ih (sDel S m) (sOK_D hS m (by omega)) (by show m ≤ (S.1 - 1).toNat; omega)
      refine ⟨?_, i2⟩
      rw [i1, lS_del hS (by omega), (take_er _ _ hl).1, (take_er _ _ hl).2]
      have e : (lS S).take (m + 1) = (lS S).take m ++ [tOf S.2.1 S.2.2.1 (sT S.2.2.2) m] := lOf_take (by omega)
      rw [e, List.filter_append]
      simp [kpR_t (nrR_t (E := S.2.2.1).mpr q)]
    · rw [if_neg (by rw [bP_f q]; omega)]
      obtain ⟨i1, i2⟩ := ih S hS (by omega)
      refine ⟨?_, i2⟩
      rw [i1]
      have e : (lS S).take (m + 1) = (lS S).take m ++ [tOf S.2.1 S.2.2.1 (sT S.2.2.2) m] := lOf_take (by omega)
      have e2 : (lS S).drop m = tOf S.2.1 S.2.2.1 (sT S.2.2.2) m :: (lS S).drop (m + 1) := lOf_drop (by omega)
      rw [e, e2, List.filter_append]
      simp [kpR_f (fun r => q (nrR_t (E := S.2.2.1).mp r))]
def lM (nw : Nat → Int) : List sR := lOf (nw 88).toNat (tOf (nL nw) (nE nw) (nCe nw))
theorem mRb_L {nw : Nat → Int} {t u : Nat} (ht : (Nat.cast t : Int) < nw 88) (h20 : nw 88 ≤ 20) (hu : (Nat.cast u : Int) < nw 88 - 1) : nL (mRb nw t) u = (if u < t then nL nw u else nL nw (u + 1)) ∧ nE (mRb nw t) u = (if u < t then nE nw u else nE nw (u + 1)) ∧ ∀ k : Nat, k < 6 → nCe (mRb nw t) u k = if u < t then nCe nw u k else nCe nw (u + 1) k := by
  refine ⟨?_, ?_, fun k hk => ?_⟩
  · unfold nL
    rw [if_pos (by omega), mRb_hi (by omega)]
    by_cases r : u < t
    · rw [if_pos r, if_neg (by omega), if_pos (by omega)]
    · rw [if_neg r, if_pos (by omega), if_pos (by omega), show 95 + 8 * u + 8 = 95 + 8 * (u + 1) by omega]
  · unfold nE
    rw [if_pos (by omega), mRb_hi (by omega)]
    by_cases r : u < t
    · rw [if_pos r, if_neg (by omega), if_pos (by omega)]
    · rw [if_neg r, if_pos (by omega), if_pos (by omega), show 96 + 8 * u + 8 = 96 + 8 * (u + 1) by omega]
  · unfold nCe
    rw [mRb_hi (by omega)]
    by_cases r : u < t
    · rw [if_pos r, if_neg (by omega)]
    · rw [if_neg r, if_pos (by omega)]; congr 1; omega
theorem lM_rb {nw : Nat → Int} (hM : mOK nw) {t : Nat} (ht : (Nat.cast t : Int) < nw 88) : lM (mRb nw t) = (lM nw).eraseIdx t := by
  obtain ⟨-, -, h88, hL, -⟩ := hM
  symm
  unfold lM
  rw [mRb_88, show (nw 88 - 1).toNat = (nw 88).toNat - 1 by omega]
  refine lOf_er (by omega) (fun u hu => ?_)
  obtain ⟨a, b, d⟩ := mRb_L (u := u) ht h88.2 (by omega)
  have l1 := (hL u).2
  have l2 := (hL (u + 1)).2
  unfold tOf
  rw [a, b]
  by_cases r : u < t
  · rw [if_pos r, if_pos r, if_pos r]
    congr 1
    apply List.map_congr_left
    intro k hk
    have := List.mem_range.mp hk
    rw [d k (by omega), if_pos r]
  · rw [if_neg r, if_neg r, if_neg r]
    congr 1
    apply List.map_congr_left
    intro k hk
    have := List.mem_range.mp hk
    rw [d k (by omega), if_neg r]
theorem mOne_rb {nw : Nat → Int} (hM : mOK nw) (hO : mOne nw) {t : Nat} (ht : (Nat.cast t : Int) < nw 88) : mOne (mRb nw t) := fun u hu => by
  rw [mRb_88] at hu
  rw [(mRb_L ht hM.2.2.1.2 hu).1]
  split
  · exact hO u (by omega)
  · exact hO (u + 1) (by omega)
theorem mRm_l (c : Int) (f : Nat) : ∀ (t : Nat) (nw : Nat → Int), mOK nw → mOne nw → (Nat.cast t : Int) ≤ nw 88 → nw 88 - (Nat.cast t : Int) ≤ (Nat.cast f : Int) → lM (mRm c f t nw) = (lM nw).take t ++ ((lM nw).drop t).filter (kpR c) ∧ mOK (mRm c f t nw) ∧ mOne (mRm c f t nw) ∧ ∀ k : Nat, k < 88 → mRm c f t nw k = nw k := by
  induction f with
  | zero =>
    intro t nw hM hO ht hf
    rw [mRm_e (by omega)]
    have hl : (lM nw).length ≤ t := by unfold lM; rw [lOf_len]; omega
    refine ⟨?_, hM, hO, fun _ _ => rfl⟩
    rw [List.take_of_length_le hl, List.drop_eq_nil_of_le hl]; simp
  | succ f ih =>
    intro t nw hM hO ht hf
    by_cases h : (Nat.cast t : Int) < nw 88
    · have hl : t < (lM nw).length := by unfold lM; rw [lOf_len]; omega
      have e2 : (lM nw).drop t = tOf (nL nw) (nE nw) (nCe nw) t :: (lM nw).drop (t + 1) := lOf_drop (by omega)
      by_cases q : sNear (nL nw) (nCe nw) t c
      · rw [mRm_t (by omega) h q, show f + 1 - 1 = f by omega]
        obtain ⟨i1, i2, i3, i4⟩ := ih t (mRb nw t) (mOK_rb hM h) (mOne_rb hM hO h) (by rw [mRb_88]; omega) (by rw [mRb_88]; omega)
        refine ⟨?_, i2, i3, fun k hk => (i4 k hk).trans (mRb_lo hk)⟩
        rw [i1, lM_rb hM h, (take_er _ _ hl).1, (take_er _ _ hl).2, e2]
        simp [kpR_t (nrR_t (E := nE nw).mpr q)]
      · rw [mRm_f (by omega) h q, show f + 1 - 1 = f by omega]
        obtain ⟨i1, i2, i3, i4⟩ := ih (t + 1) nw hM hO (by omega) (by omega)
        refine ⟨?_, i2, i3, i4⟩
        have e : (lM nw).take (t + 1) = (lM nw).take t ++ [tOf (nL nw) (nE nw) (nCe nw) t] := lOf_take (by omega)
        rw [i1, e, e2]
        simp [kpR_f (fun r => q (nrR_t (E := nE nw).mp r))]
    · rw [mRm_e (by omega)]
      have hl : (lM nw).length ≤ t := by unfold lM; rw [lOf_len]; omega
      refine ⟨?_, hM, hO, fun _ _ => rfl⟩
      rw [List.take_of_length_le hl, List.drop_eq_nil_of_le hl]; simp
theorem tOf_eq {L E L2 E2 : Nat → Int} {T T2 : Nat → Nat → Int} {t : Nat} (h1 : 0 ≤ L t) (h2 : 0 ≤ L2 t) : tOf L E T t = tOf L2 E2 T2 t ↔ L t = L2 t ∧ E t = E2 t ∧ ∀ k : Nat, (Nat.cast k : Int) < L t → T t k = T2 t k := by
  unfold tOf
  constructor
  · intro h
    have a := congrArg Prod.fst h
    have b := congrArg Prod.snd h
    simp only at a b
    have l := congrArg List.length a
    simp only [List.length_map, List.length_range] at l
    refine ⟨by omega, b, fun k hk => ?_⟩
    have g := congrArg (fun x => x[k]?) a
    simp only [List.getElem?_map] at g
    rw [List.getElem?_range (by omega), List.getElem?_range (by omega)] at g
    exact Option.some.inj g
  · rintro ⟨a, b, d⟩
    rw [a, b]
    congr 1
    apply List.map_congr_left
    intro k hk
    have := List.mem_range.mp hk
    exact d k (by omega)
theorem l_of_sEq {L E C nw : Nat → Int} (hL : ∀ k : Nat, 0 ≤ L k) (hN : ∀ k : Nat, 0 ≤ nL nw k) (h : sEq (nw 88) L E C nw) : lS (nw 88, L, E, C) = lM nw := by
  unfold lS lM
  refine lOf_c (fun t ht => (tOf_eq (hL t) (hN t)).mpr ?_)
  exact h t (by omega)
theorem sEq_of_l {n : Int} {L E C nw : Nat → Int} (hL : ∀ k : Nat, 0 ≤ L k) (hN : ∀ k : Nat, 0 ≤ nL nw k) (hn : 0 ≤ n ∧ 0 ≤ nw 88) (h : lS (n, L, E, C) = lM nw) : n = nw 88 ∧ sEq n L E C nw := by
  unfold lS lM at h
  simp only at h
  have l := congrArg List.length h
  rw [lOf_len, lOf_len] at l
  refine ⟨by omega, fun t ht => ?_⟩
  have g := congrArg (fun x => x[t]?) h
  simp only [lOf_g] at g
  rw [if_pos (by omega), if_pos (by omega)] at g
  exact (tOf_eq (hL t) (hN t)).mp (Option.some.inj g)
/-! what changes the picture -/
section CH
variable {nw L E C : Nat → Int}
theorem nG_u {k : Nat} {v : Int} (hk : k < 81) : nG (uI nw (7 + k) v) = uI (nG nw) k v := by
  funext j
  unfold nG uI
  by_cases h : j = k
  · subst h; rw [if_pos hk, if_pos rfl, if_pos rfl]
  · rw [if_neg h]
    dsimp only
    by_cases h2 : j < 81
    · rw [if_pos h2, if_pos h2, if_neg (by omega)]
    · rw [if_neg h2, if_neg h2]
theorem nu_L {k : Nat} {v : Int} (hk : k < 88) : nL (uI nw k v) = nL nw ∧ nE (uI nw k v) = nE nw ∧ nCe (uI nw k v) = nCe nw := by
  refine ⟨?_, ?_, ?_⟩
  · funext j; unfold nL; split
    · exact uI_ne _ _ (by omega)
    · rfl
  · funext j; unfold nE; split
    · exact uI_ne _ _ (by omega)
    · rfl
  · funext j i; unfold nCe; exact uI_ne _ _ (by omega)
theorem sEq_u {k : Nat} {v n : Int} (hk : k < 88) (h : sEq n L E C nw) : sEq n L E C (uI nw k v) := by
  obtain ⟨a, b, d⟩ := nu_L (nw := nw) (v := v) hk
  unfold sEq
  rw [a, b, d]; exact h
theorem mOne_u {k : Nat} {v : Int} (hk : k < 88) (h : mOne nw) : mOne (uI nw k v) := by
  unfold mOne
  rw [(nu_L hk).1, uI_ne _ _ (by omega)]; exact h
theorem mOK_u {k : Nat} {v : Int} (hM : mOK nw) (h2 : (2 ≤ k ∧ k < 6 ∧ 0 ≤ v ∧ v < 8) ∨ (k = 6 ∧ 2 ≤ v ∧ v ≤ 6)) : mOK (uI nw k v) := by
  obtain ⟨a1, a2, a3, a4, a5, a6, a7⟩ := hM
  have hk : k < 7 ∧ 2 ≤ k := by omega
  have eG : nG (uI nw k v) = nG nw := by
    funext j; unfold nG; split
    · exact uI_ne _ _ (by omega)
    · rfl
  refine ⟨?_, ?_, ?_, ?_, fun j => ?_, ?_, fun j hj => ?_⟩
  · rw [eG, uI_ne _ _ (by omega), uI_ne _ _ (by omega)]; exact a1
  · rw [uI_ne _ _ (by omega), uI_ne _ _ (by omega)]; exact a2
  · rw [uI_ne _ _ (by omega)]; exact a3
  · rw [(nu_L (by omega)).1]; exact a4
  · have := a5 j
    unfold nQ at *
    split
    · rw [if_pos (by assumption)] at this
      unfold uI; split
      · omega
      · exact this
    · omega
  · unfold uI; split
    · omega
    · exact a6
  · have := a7 j hj
    unfold uI; split
    · omega
    · exact this
theorem ch_light (h1 : sEq (nw 88) L E C nw) (h2 : sOK (nw 88) L C) (h3 : mOK nw) (h4 : mOne nw) {q d : Int} (hq : 0 ≤ q ∧ q < 4) (hd : 0 ≤ d ∧ d < 8) : rPic (pSetQ (nP nw L E C) (uI (nQ nw) q.toNat d)) (uI nw (2 + q).toNat d) := by
  have e : pSetQ (nP nw L E C) (uI (nQ nw) q.toNat d) = nP (uI nw (2 + q).toNat d) L E C := by
    have eG : nG (uI nw (2 + q).toNat d) = nG nw := by
      funext j; unfold nG; split
      · exact uI_ne _ _ (by omega)
      · rfl
    have eQ : nQ (uI nw (2 + q).toNat d) = uI (nQ nw) q.toNat d := by
      funext j
      unfold nQ uI
      by_cases h : j = q.toNat
      · rw [if_pos (by omega), if_pos (by omega), if_pos h]
      · rw [if_neg h]
        dsimp only
        by_cases h5 : j < 4
        · rw [if_pos h5, if_pos h5, if_neg (by omega)]
        · rw [if_neg h5, if_neg h5]
    unfold nP
    rw [eG, eQ, uI_ne _ _ (by omega), uI_ne _ _ (by omega), uI_ne _ _ (by omega), uI_ne _ _ (by omega)]
    rfl
  rw [e]
  have e8 : uI nw (2 + q).toNat d 88 = nw 88 := uI_ne _ _ (by omega)
  refine rPic_i ?_ ?_ (mOK_u h3 (Or.inl (by omega))) (mOne_u (by omega) h4)
  · rw [e8]; exact sEq_u (by omega) h1
  · rw [e8]; exact h2
theorem ch_shades (h1 : sEq (nw 88) L E C nw) (h2 : sOK (nw 88) L C) (h3 : mOK nw) (h4 : mOne nw) {n : Int} (hn : 2 ≤ n ∧ n ≤ 6) : rPic (pSetS (nP nw L E C) n) (uI nw 6 n) := by
  have e : pSetS (nP nw L E C) n = nP (uI nw 6 n) L E C := by
    have eG : nG (uI nw 6 n) = nG nw := by
      funext j; unfold nG; split
      · exact uI_ne _ _ (by omega)
      · rfl
    have eQ : nQ (uI nw 6 n) = nQ nw := by
      funext j; unfold nQ; split
      · exact uI_ne _ _ (by omega)
      · rfl
    unfold nP
    rw [eG, eQ, uI_ne _ _ (by omega), uI_ne _ _ (by omega), uI_ne _ _ (by omega), uI_same]
    rfl
  rw [e]
  have e8 : uI nw 6 n 88 = nw 88 := uI_ne _ _ (by omega)
  refine rPic_i ?_ ?_ (mOK_u h3 (Or.inr (by omega))) (mOne_u (by omega) h4)
  · rw [e8]; exact sEq_u (by omega) h1
  · rw [e8]; exact h2
theorem ch_turn (h1 : sEq (nw 88) L E C nw) (h2 : sOK (nw 88) L C) (h3 : mOK nw) (h4 : mOne nw) {D D2 : Nat → Int} (hD : ∀ k : Nat, k < 4 → D k = D2 k) (hr : ∀ k : Nat, 0 ≤ D2 k ∧ D2 k < 8) : rPic (pSetQ (nP nw L E C) (zTake 4 D (nQ nw))) (sPut nw 2 4 D2) := by
  have lo : ∀ k : Nat, k < 2 ∨ 6 ≤ k → sPut nw 2 4 D2 k = nw k := fun k hk => by unfold sPut; rw [if_neg (by omega)]
  have eG : nG (sPut nw 2 4 D2) = nG nw := by
    funext j; unfold nG; split
    · exact lo _ (by omega)
    · rfl
  have eL : nL (sPut nw 2 4 D2) = nL nw := by
    funext j; unfold nL; split
    · exact lo _ (by omega)
    · rfl
  have eE : nE (sPut nw 2 4 D2) = nE nw := by
    funext j; unfold nE; split
    · exact lo _ (by omega)
    · rfl
  have eC : nCe (sPut nw 2 4 D2) = nCe nw := by
    funext j i; unfold nCe; exact lo _ (by omega)
  have eQ : nQ (sPut nw 2 4 D2) = zTake 4 D (nQ nw) := by
    funext j
    unfold nQ zTake sPut
    dsimp only
    by_cases h5 : j < 4
    · rw [if_pos h5, if_pos h5, if_pos (by omega), hD j h5]; congr 1; omega
    · rw [if_neg h5, if_neg h5, if_neg h5]
  have e : pSetQ (nP nw L E C) (zTake 4 D (nQ nw)) = nP (sPut nw 2 4 D2) L E C := by
    unfold nP
    rw [eG, eQ, lo 0 (by omega), lo 1 (by omega), lo 88 (by omega), lo 6 (by omega)]
    rfl
  rw [e]
  obtain ⟨a1, a2, a3, a4, a5, a6, a7⟩ := id h3
  refine rPic_i ?_ ?_ ⟨?_, ?_, ?_, ?_, fun j => ?_, ?_, fun j hj => ?_⟩ ?_
  · rw [lo 88 (by omega)]; unfold sEq; rw [eL, eE, eC]; exact h1
  · rw [lo 88 (by omega)]; exact h2
  · rw [eG, lo 0 (by omega), lo 1 (by omega)]; exact a1
  · rw [lo 0 (by omega), lo 1 (by omega)]; exact a2
  · rw [lo 88 (by omega)]; exact a3
  · rw [eL]; exact a4
  · rw [eQ]; unfold zTake; split
    · rw [hD j (by assumption)]; exact hr j
    · exact a5 j
  · rw [lo 6 (by omega)]; exact a6
  · unfold sPut; split
    · have := hr (j - 2); omega
    · exact a7 j hj
  · unfold mOne; rw [eL, lo 88 (by omega)]; exact h4
theorem ch_rub (h1 : sEq (nw 88) L E C nw) (h2 : sOK (nw 88) L C) (h3 : mOK nw) (h4 : mOne nw) {t : Int} (ht : 0 ≤ t ∧ t < nw 88) : rPic (pDel t (nP nw L E C)) (mRb nw t.toNat) := by
  have hL : ∀ k : Nat, 0 ≤ L k := fun k => (h2.2.2.1 k).1
  have e := lS_del (S := (nw 88, L, E, C)) h2 (s := t.toNat) (by show _ < (nw 88).toNat; omega)
  rw [l_of_sEq hL (fun k => (h3.2.2.2.1 k).1) h1, ← lM_rb h3 (by omega)] at e
  have o := sOK_D (S := (nw 88, L, E, C)) h2 t.toNat (by show 0 < nw 88; omega)
  have m1 := mOK_rb h3 (t := t.toNat) (by omega)
  obtain ⟨q1, q2⟩ := sEq_of_l (fun k => (o.2.2.1 k).1) (fun k => (m1.2.2.2.1 k).1) ⟨o.1, m1.2.2.1.1⟩ e
  have eG : nG (mRb nw t.toNat) = nG nw := by
    funext j; unfold nG; split
    · exact mRb_lo (by omega)
    · rfl
  have eQ : nQ (mRb nw t.toNat) = nQ nw := by
    funext j; unfold nQ; split
    · exact mRb_lo (by omega)
    · rfl
  refine ⟨(sDel (nw 88, L, E, C) t.toNat).2.1, (sDel (nw 88, L, E, C) t.toNat).2.2.1, (sDel (nw 88, L, E, C) t.toNat).2.2.2, ?_, by rw [← q1]; exact q2, by rw [← q1]; exact o, m1, mOne_rb h3 h4 (by omega)⟩
  have : nP (mRb nw t.toNat) (sDel (nw 88, L, E, C) t.toNat).2.1 (sDel (nw 88, L, E, C) t.toNat).2.2.1 (sDel (nw 88, L, E, C) t.toNat).2.2.2 = pDel t (nP nw L E C) := by
    unfold nP
    rw [eG, eQ, mRb_lo (k := 0) (by omega), mRb_lo (k := 1) (by omega), mRb_lo (k := 6) (by omega), mRb_88]
    rfl
  rw [this]
  exact pLike.rf _
/-- a height told anew -/
theorem ch_raise (h1 : sEq (nw 88) L E C nw) (h2 : sOK (nw 88) L C) (h3 : mOK nw) (h4 : mOne nw) {x y v : Int} (hx : hXY (nw 0) (nw 1) x y) (hv : 0 ≤ v ∧ v ≤ 9) : rPic (pRub (9 * y + x) (pSetG (nP nw L E C) (uI (nG nw) (9 * y + x).toNat v))) (mRm (9 * y + x) 20 0 (uI nw ((7 + 9 * y) + x).toNat v)) := by
  have hW := h3.1.2.1
  have hH := h3.1.2.2.2.1
  have ek : ((7 + 9 * y) + x).toNat = 7 + (9 * y + x).toNat := by omega
  rw [ek]
  have m0 := mOK_uG h3 (c := (9 * y + x).toNat) (by omega) hv
  have o0 : mOne (uI nw (7 + (9 * y + x).toNat) v) := mOne_u (by omega) h4
  have e8 : uI nw (7 + (9 * y + x).toNat) v 88 = nw 88 := uI_ne _ _ (by omega)
  obtain ⟨n1, n2, n3, n4⟩ := mRm_l (9 * y + x) 20 0 (uI nw (7 + (9 * y + x).toNat) v) m0 o0 (by rw [e8]; exact h2.1) (by rw [e8]; have := h2.2.1; show nw 88 - 0 ≤ 20; omega)
  obtain ⟨c1, c2⟩ := sRm_l (9 * y + x) (nw 88).toNat (nw 88, L, E, C) h2 (Nat.le_refl _)
  have e9 : lS (nw 88, L, E, C) = lM (uI nw (7 + (9 * y + x).toNat) v) := by
    have := l_of_sEq (fun k => (h2.2.2.1 k).1) (fun k => (m0.2.2.2.1 k).1) (by rw [e8]; exact sEq_u (by omega) h1)
    rw [e8] at this
    exact this
  have hl : (lS (nw 88, L, E, C)).length = (nw 88).toNat := by unfold lS; exact lOf_len _ _
  rw [List.take_of_length_le (by omega), List.drop_eq_nil_of_le (by omega), List.append_nil] at c1
  rw [List.take_zero, List.drop_zero, List.nil_append, ← e9, ← c1] at n1
  obtain ⟨q1, q2⟩ := sEq_of_l (fun k => (c2.2.2.1 k).1) (fun k => (n2.2.2.2.1 k).1) ⟨c2.1, n2.2.2.1.1⟩ n1.symm
  have eG : nG (mRm (9 * y + x) 20 0 (uI nw (7 + (9 * y + x).toNat) v)) = uI (nG nw) (9 * y + x).toNat v := by
    rw [← nG_u (by omega)]
    funext j; unfold nG; split
    · exact n4 _ (by omega)
    · rfl
  have eQ : nQ (mRm (9 * y + x) 20 0 (uI nw (7 + (9 * y + x).toNat) v)) = nQ nw := by
    funext j; unfold nQ; split
    · rw [n4 _ (by omega), uI_ne _ _ (by omega)]
    · rfl
  refine ⟨(sRm (9 * y + x) (nw 88).toNat (nw 88, L, E, C)).2.1, (sRm (9 * y + x) (nw 88).toNat (nw 88, L, E, C)).2.2.1, (sRm (9 * y + x) (nw 88).toNat (nw 88, L, E, C)).2.2.2, ?_, by rw [← q1]; exact q2, by rw [← q1]; exact c2, n2, n3⟩
  have : nP (mRm (9 * y + x) 20 0 (uI nw (7 + (9 * y + x).toNat) v)) (sRm (9 * y + x) (nw 88).toNat (nw 88, L, E, C)).2.1 (sRm (9 * y + x) (nw 88).toNat (nw 88, L, E, C)).2.2.1 (sRm (9 * y + x) (nw 88).toNat (nw 88, L, E, C)).2.2.2 = pRub (9 * y + x) (pSetG (nP nw L E C) (uI (nG nw) (9 * y + x).toNat v)) := by
    unfold nP
    rw [eG, eQ, n4 0 (by omega), n4 1 (by omega), n4 6 (by omega), uI_ne _ _ (by omega), uI_ne _ _ (by omega), uI_ne _ _ (by omega), ← q1]
    rfl
  rw [this]
  exact pLike.rf _
end CH
