/-! the hills: pieces, found by walking and by labels -/
abbrev upN (W H : Int) (g : Nat → Int) (v : Int) (k : Nat) : Prop := gUp W H g v (Nat.cast k : Int)
def adjN (W H : Int) (a b : Nat) : Prop := ∃ n : Nat, n < 4 ∧ gNb W H (Nat.cast a : Int) (2 * (Nat.cast n : Int)) = (Nat.cast b : Int)
def conN (W H : Int) (g : Nat → Int) (v : Int) (a b : Nat) : Prop := ∀ S : Nat → Prop, S a → (∀ x y : Nat, S x → upN W H g v x → upN W H g v y → adjN W H x y → S y) → S b
def minN (W H : Int) (g : Nat → Int) (v : Int) (a : Nat) : Prop := upN W H g v a ∧ ∀ b : Nat, upN W H g v b → conN W H g v a b → a ≤ b
section LV
variable {W H : Int} {g : Nat → Int} {v : Int}
theorem con_r (a : Nat) : conN W H g v a a := fun _ h _ => h
theorem con_s {a b : Nat} (ha : upN W H g v a) (hb : upN W H g v b) (h : adjN W H a b) : conN W H g v a b := fun _ h1 h2 => h2 a b h1 ha hb h
theorem con_t {a b c : Nat} (h1 : conN W H g v a b) (h2 : conN W H g v b c) : conN W H g v a c := fun S s1 s2 => h2 S (h1 S s1 s2) s2
theorem con_up {a b : Nat} (ha : upN W H g v a) (h : conN W H g v a b) : upN W H g v b := h (fun x => upN W H g v x) ha (fun _ _ _ _ uy _ => uy)
theorem up_81 (hW : W ≤ 9) (hH : H ≤ 9) {a : Nat} (h : upN W H g v a) : a < 81 := by
  have := h.1
  omega
theorem adj_sym (hW : W ≤ 9) {a b : Nat} (ha : gIn W H (Nat.cast a : Int)) (h : adjN W H a b) : adjN W H b a := by
  obtain ⟨n, hn, e⟩ := h
  have r0 : zR (2 * (Nat.cast 0 : Int)).toNat = 0 := rfl
  have r1 : zR (2 * (Nat.cast 1 : Int)).toNat = 1 := rfl
  have r2 : zR (2 * (Nat.cast 2 : Int)).toNat = 0 := rfl
  have r3 : zR (2 * (Nat.cast 3 : Int)).toNat = -1 := rfl
  have b0 : zB (2 * (Nat.cast 0 : Int)).toNat = -1 := rfl
  have b1 : zB (2 * (Nat.cast 1 : Int)).toNat = 0 := rfl
  have b2 : zB (2 * (Nat.cast 2 : Int)).toNat = 1 := rfl
  have b3 : zB (2 * (Nat.cast 3 : Int)).toNat = 0 := rfl
  rcases (show n = 0 ∨ n = 1 ∨ n = 2 ∨ n = 3 by omega) with rfl | rfl | rfl | rfl
  · unfold gNb at e
    rw [r0, b0] at e
    split at e
    · refine ⟨2, by omega, ?_⟩
      unfold gNb
      rw [r2, b2, if_pos (by omega)]
      omega
    · omega
  · unfold gNb at e
    rw [r1, b1] at e
    split at e
    · refine ⟨3, by omega, ?_⟩
      unfold gNb
      rw [r3, b3, if_pos (by omega)]
      omega
    · omega
  · unfold gNb at e
    rw [r2, b2] at e
    split at e
    · refine ⟨0, by omega, ?_⟩
      unfold gNb
      rw [r0, b0, if_pos (by omega)]
      omega
    · omega
  · unfold gNb at e
    rw [r3, b3] at e
    split at e
    · refine ⟨1, by omega, ?_⟩
      unfold gNb
      rw [r1, b1, if_pos (by omega)]
      omega
    · omega
theorem con_sym (hW : W ≤ 9) {a b : Nat} (h : conN W H g v a b) : conN W H g v b a := h (fun x => conN W H g v x a) (con_r a) (fun _ _ hx ux uy hxy => con_t (con_s uy ux (adj_sym hW ux.1 hxy)) hx)
theorem sum_01 {s : Nat → Int} (n : Nat) (h : ∀ k : Nat, k < n → s k = 0 ∨ s k = 1) : 0 ≤ sumN s n ∧ sumN s n ≤ n ∧ ((∃ k : Nat, k < n ∧ s k = 0) → sumN s n ≤ (Nat.cast n : Int) - 1) := by
  induction n with
  | zero => exact ⟨by simp [sumN], by simp [sumN], fun ⟨k, hk, _⟩ => by omega⟩
  | succ n ih =>
    obtain ⟨a, b, d⟩ := ih (fun k hk => h k (by omega))
    have hn := h n (by omega)
    simp only [sumN]
    refine ⟨by omega, by omega, fun ⟨k, hk, hz⟩ => ?_⟩
    by_cases q : k = n
    · subst q; omega
    · have := d ⟨k, by omega, hz⟩; omega
/-- what holds while a piece is walked from c0, s0 having been seen -/
def wInv (W H : Int) (g : Nat → Int) (v : Int) (c0 : Nat) (s0 : Nat → Int) (S : wT) : Prop :=
  (1 ≤ S.1 ∧ S.1 ≤ 81) ∧ (∀ k : Nat, k < 81 → S.2.1 k = 0 ∨ S.2.1 k = 1) ∧ (∀ k : Nat, k < 81 → (S.2.1 k = 1 ↔ s0 k = 1 ∨ ∃ j : Nat, (Nat.cast j : Int) < S.1 ∧ S.2.2 j = (Nat.cast k : Int))) ∧ (∀ j : Nat, (Nat.cast j : Int) < S.1 → ∃ k : Nat, k < 81 ∧ S.2.2 j = (Nat.cast k : Int) ∧ upN W H g v k ∧ conN W H g v c0 k) ∧ S.1 + sumN s0 81 = sumN S.2.1 81 ∧ S.2.2 0 = (Nat.cast c0 : Int)
/-- what a step keeps -/
def wKep (S T : wT) : Prop := S.1 ≤ T.1 ∧ (∀ j : Nat, (Nat.cast j : Int) < S.1 → T.2.2 j = S.2.2 j) ∧ ∀ k : Nat, k < 81 → S.2.1 k = 1 → T.2.1 k = 1
theorem wKep_r (S : wT) : wKep S S := ⟨Int.le_refl _, fun _ _ => rfl, fun _ _ h => h⟩
theorem wKep_t {S T R : wT} (h : wKep S T) (k : wKep T R) : wKep S R := ⟨Int.le_trans h.1 k.1, fun j hj => (k.2.1 j (Int.lt_of_lt_of_le hj h.1)).trans (h.2.1 j hj), fun i hi q => k.2.2 i hi (h.2.2 i hi q)⟩
theorem wD_inv (hG : gOK W H g) {c0 : Nat} {s0 : Nat → Int} (hs0 : ∀ k : Nat, k < 81 → s0 k = 0 ∨ s0 k = 1) {S : wT} (h : wInv W H g v c0 s0 S) {i n : Nat} (hi : (Nat.cast i : Int) < S.1) (hn : n < 4) : wInv W H g v c0 s0 (wD W H g v i n S) ∧ wKep S (wD W H g v i n S) ∧ ∀ b : Nat, gNb W H (S.2.2 i) (2 * (Nat.cast n : Int)) = (Nat.cast b : Int) → upN W H g v b → (wD W H g v i n S).2.1 b = 1 := by
  obtain ⟨f, s, p⟩ := S
  obtain ⟨h1, h2, h3, h4, h5, h6⟩ := h
  simp only at h1 h2 h3 h4 h5 h6 hi ⊢
  have hW := hG.2.1
  have hH := hG.2.2.2.1
  by_cases q : gUp W H g v (gNb W H (p i) (2 * (Nat.cast n : Int))) ∧ s (gNb W H (p i) (2 * (Nat.cast n : Int))).toNat = 0 ∧ f < 81
  · rw [wD_t rfl q.1 q.2.1 q.2.2]
    obtain ⟨ki, k1, k2, k3, k4⟩ := h4 i hi
    generalize ho : gNb W H (p i) (2 * (Nat.cast n : Int)) = o at *
    have o0 : 0 ≤ o := q.1.1.1
    have eo : (Nat.cast o.toNat : Int) = o := by omega
    have uo : upN W H g v o.toNat := by
      show gUp W H g v (Nat.cast o.toNat : Int)
      rw [eo]; exact q.1
    have o81 := up_81 hW hH uo
    have ado : adjN W H ki o.toNat := ⟨n, hn, by rw [← k2, ho, eo]⟩
    refine ⟨⟨by omega, fun k hk => ?_, fun k hk => ?_, fun j hj => ?_, ?_, ?_⟩, ⟨by simp only; omega, fun j hj => ?_, fun k hk hk1 => ?_⟩, fun b hb ub => ?_⟩
    · simp only; unfold uI; split
      · exact Or.inr rfl
      · exact h2 k hk
    · simp only
      by_cases z : k = o.toNat
      · subst z
        rw [uI_same]
        exact ⟨fun _ => Or.inr ⟨f.toNat, by omega, by rw [uI_same]; omega⟩, fun _ => rfl⟩
      · rw [uI_ne _ _ z, h3 k hk]
        constructor
        · rintro (a | ⟨j, j1, j2⟩)
          · exact Or.inl a
          · exact Or.inr ⟨j, by omega, by rw [uI_ne _ _ (by omega)]; exact j2⟩
        · rintro (a | ⟨j, j1, j2⟩)
          · exact Or.inl a
          · by_cases y : j = f.toNat
            · subst y; rw [uI_same] at j2; omega
            · rw [uI_ne _ _ y] at j2
              exact Or.inr ⟨j, by omega, j2⟩
    · simp only at hj ⊢
      by_cases y : j = f.toNat
      · subst y
        rw [uI_same]
        exact ⟨o.toNat, o81, by omega, uo, con_t k4 (con_s k3 uo ado)⟩
      · rw [uI_ne _ _ y]
        exact h4 j (by omega)
    · simp only
      rw [sumN_uI, if_pos o81, q.2.1]; omega
    · simp only
      rw [uI_ne _ _ (by omega)]; exact h6
    · simp only at hj ⊢
      exact uI_ne _ _ (by omega)
    · simp only at hk1 ⊢
      unfold uI; split
      · rfl
      · exact hk1
    · have : b = o.toNat := by omega
      subst this
      exact uI_same _ _ _
  · rw [wD_f rfl q]
    refine ⟨⟨h1, h2, h3, h4, h5, h6⟩, wKep_r _, fun b hb ub => ?_⟩
    have b81 := up_81 hW hH ub
    rcases h2 b b81 with z | z
    · exfalso
      refine q ⟨by rw [hb]; exact ub, by rw [hb, cst0]; exact z, ?_⟩
      have e := (sum_01 81 h2).2.2 ⟨b, b81, z⟩
      have e0 := (sum_01 81 hs0).1
      rw [← h5] at e
      have e1 : f + sumN s0 81 ≤ 81 - 1 := e
      omega
    · exact z
theorem wI4_inv (hG : gOK W H g) {c0 : Nat} {s0 : Nat → Int} (hs0 : ∀ k : Nat, k < 81 → s0 k = 0 ∨ s0 k = 1) {i : Nat} (f : Nat) : ∀ (n : Nat) (S : wT), n + f ≤ 4 → wInv W H g v c0 s0 S → (Nat.cast i : Int) < S.1 → wInv W H g v c0 s0 (wI4 W H g v i f n S) ∧ wKep S (wI4 W H g v i f n S) ∧ ∀ m : Nat, n ≤ m → m < n + f → ∀ b : Nat, gNb W H (S.2.2 i) (2 * (Nat.cast m : Int)) = (Nat.cast b : Int) → upN W H g v b → (wI4 W H g v i f n S).2.1 b = 1 := by
  induction f with
  | zero => intro n S _ h _; exact ⟨h, wKep_r _, fun m a b => by omega⟩
  | succ f ih =>
    intro n S hn h hi
    obtain ⟨a, b, d⟩ := wD_inv hG hs0 h hi (n := n) (by omega)
    obtain ⟨x, y, z⟩ := ih (n + 1) (wD W H g v i n S) (by omega) a (Int.lt_of_lt_of_le hi b.1)
    refine ⟨x, wKep_t b y, fun m m1 m2 c hc uc => ?_⟩
    by_cases q : m = n
    · subst q
      exact y.2.2 c (up_81 hG.2.1 hG.2.2.2.1 uc) (d c hc uc)
    · exact z m (by omega) (by omega) c (by rw [b.2.1 i hi]; exact hc) uc
def wCl (W H : Int) (g : Nat → Int) (v : Int) (i : Nat) (S : wT) : Prop := ∀ j : Nat, j < i → ∀ m : Nat, m < 4 → ∀ b : Nat, gNb W H (S.2.2 j) (2 * (Nat.cast m : Int)) = (Nat.cast b : Int) → upN W H g v b → S.2.1 b = 1
theorem wOut_inv (hG : gOK W H g) {c0 : Nat} {s0 : Nat → Int} (hs0 : ∀ k : Nat, k < 81 → s0 k = 0 ∨ s0 k = 1) (f : Nat) : ∀ (i : Nat) (S : wT), 81 ≤ i + f → wInv W H g v c0 s0 S → (Nat.cast i : Int) ≤ S.1 → wCl W H g v i S → wInv W H g v c0 s0 (wOut W H g v f i S) ∧ wCl W H g v (wOut W H g v f i S).1.toNat (wOut W H g v f i S) := by
  induction f with
  | zero =>
    intro i S hf h hi hc
    refine ⟨h, ?_⟩
    have := h.1
    have e : S.1.toNat = i := by omega
    show wCl W H g v S.1.toNat S
    rw [e]; exact hc
  | succ f ih =>
    intro i S hf h hi hc
    simp only [wOut]
    by_cases q : (Nat.cast i : Int) < S.1
    · rw [if_pos q]
      obtain ⟨a, b, d⟩ := wI4_inv hG hs0 (i := i) 4 0 S (by omega) h q
      refine ih (i + 1) _ (by omega) a (by have := b.1; omega) (fun j hj m hm c hcc uc => ?_)
      have c81 := up_81 hG.2.1 hG.2.2.2.1 uc
      by_cases z : j = i
      · subst z
        rw [b.2.1 j q] at hcc
        exact d m (by omega) (by omega) c hcc uc
      · rw [b.2.1 j (by omega)] at hcc
        exact b.2.2 c c81 (hc j (by omega) m hm c hcc uc)
    · rw [if_neg q]
      have e : S.1.toNat = i := by omega
      rw [e]
      exact ⟨h, hc⟩
/-- a walk finds just its piece -/
theorem wPiece_is (hG : gOK W H g) {c0 : Nat} {s0 pF : Nat → Int} (hs0 : ∀ k : Nat, k < 81 → s0 k = 0 ∨ s0 k = 1) (hcl : ∀ a b : Nat, a < 81 → s0 a = 1 → upN W H g v a → upN W H g v b → adjN W H a b → s0 b = 1) (hu : upN W H g v c0) (h0 : s0 c0 = 0) : (∀ k : Nat, k < 81 → (wPiece W H g v (Nat.cast c0 : Int) s0 pF).2.1 k = 0 ∨ (wPiece W H g v (Nat.cast c0 : Int) s0 pF).2.1 k = 1) ∧ ∀ k : Nat, k < 81 → ((wPiece W H g v (Nat.cast c0 : Int) s0 pF).2.1 k = 1 ↔ s0 k = 1 ∨ (upN W H g v k ∧ conN W H g v c0 k)) := by
  have hW := hG.2.1
  have hH := hG.2.2.2.1
  have c81 := up_81 hW hH hu
  have i0 : wInv W H g v c0 s0 (1, uI s0 (Nat.cast c0 : Int).toNat 1, uI pF 0 (Nat.cast c0 : Int)) := by
    rw [cst0]
    refine ⟨by simp, fun k hk => ?_, fun k hk => ?_, fun j hj => ?_, ?_, (show uI pF 0 (Nat.cast c0 : Int) 0 = (Nat.cast c0 : Int) from uI_same _ _ _)⟩
    · simp only; unfold uI; split
      · exact Or.inr rfl
      · exact hs0 k hk
    · simp only
      by_cases z : k = c0
      · subst z
        rw [uI_same]
        exact ⟨fun _ => Or.inr ⟨0, by simp, uI_same _ _ _⟩, fun _ => rfl⟩
      · rw [uI_ne _ _ z]
        constructor
        · exact fun a => Or.inl a
        · rintro (a | ⟨j, j1, j2⟩)
          · exact a
          · have : j = 0 := by omega
            subst this
            rw [uI_same] at j2
            omega
    · have : j = 0 := by simp only at hj; omega
      subst this
      exact ⟨c0, c81, (show uI pF 0 (Nat.cast c0 : Int) 0 = (Nat.cast c0 : Int) from uI_same _ _ _), hu, con_r c0⟩
    · simp only
      rw [sumN_uI, if_pos c81, h0]; omega
  obtain ⟨a, b⟩ := wOut_inv hG hs0 81 0 _ (by omega) i0 (by simp) (fun j hj => by omega)
  have ew : wPiece W H g v (Nat.cast c0 : Int) s0 pF = wOut W H g v 81 0 (1, uI s0 (Nat.cast c0 : Int).toNat 1, uI pF 0 (Nat.cast c0 : Int)) := rfl
  rw [ew]
  generalize wOut W H g v 81 0 (1, uI s0 (Nat.cast c0 : Int).toNat 1, uI pF 0 (Nat.cast c0 : Int)) = T at *
  obtain ⟨a1, a2, a3, a4, a5, a6⟩ := a
  refine ⟨a2, fun k hk => ⟨fun q => ?_, fun q => ?_⟩⟩
  · rcases (a3 k hk).mp q with r | ⟨j, j1, j2⟩
    · exact Or.inl r
    · obtain ⟨k2, k3, k4, k5, k6⟩ := a4 j j1
      have : k2 = k := by omega
      subst this
      exact Or.inr ⟨k5, k6⟩
  · rcases q with r | ⟨uk, ck⟩
    · exact (a3 k hk).mpr (Or.inl r)
    · have fin : ∃ j : Nat, (Nat.cast j : Int) < T.1 ∧ T.2.2 j = (Nat.cast k : Int) := ck (fun x => ∃ j : Nat, (Nat.cast j : Int) < T.1 ∧ T.2.2 j = (Nat.cast x : Int)) ⟨0, by omega, a6⟩ (fun x y ⟨j, j1, j2⟩ ux uy hxy => by
        have y81 := up_81 hW hH uy
        obtain ⟨m, m1, m2⟩ := hxy
        have sy := b j (by omega) m m1 y (by rw [j2]; exact m2) uy
        rcases (a3 y y81).mp sy with r | r
        · exfalso
          obtain ⟨k2, k3, k4, k5, k6⟩ := a4 j j1
          have e : k2 = x := by omega
          subst e
          have cy : conN W H g v y c0 := con_t (con_s uy k5 (adj_sym hW k5.1 ⟨m, m1, m2⟩)) (con_sym hW k6)
          have : s0 c0 = 1 := (cy (fun z => z < 81 ∧ s0 z = 1) ⟨y81, r⟩ (fun p q ⟨p1, p2⟩ up uq hpq => ⟨up_81 hW hH uq, hcl p q p1 p2 up uq hpq⟩)).2
          omega
        · exact r)
      exact (a3 k hk).mpr (Or.inr fin)
/-- the class counts the least cells of the pieces -/
theorem wH_is (hG : gOK W H g) (f : Nat) : ∀ (n : Nat) (S : wT), n + f = 81 → (∀ k : Nat, k < 81 → S.2.1 k = 0 ∨ S.2.1 k = 1) → (∀ k : Nat, k < 81 → (S.2.1 k = 1 ↔ upN W H g v k ∧ ∃ c : Nat, c < n ∧ upN W H g v c ∧ conN W H g v c k)) → S.1 = sumN (fun k => bP (minN W H g v k)) n → (wH W H g v f n S).1 = sumN (fun k => bP (minN W H g v k)) 81 := by
  have hW := hG.2.1
  have hH := hG.2.2.2.1
  induction f with
  | zero => intro n S hn h1 h2 h3; rw [show n = 81 by omega] at h3; exact h3
  | succ f ih =>
    intro n S hn h1 h2 h3
    simp only [wH]
    by_cases un : upN W H g v n
    · by_cases q : S.2.1 n = 0
      · rw [if_pos ⟨bP_t un, q⟩]
        have none_ : ¬ ∃ c : Nat, c < n ∧ upN W H g v c ∧ conN W H g v c n := fun z => by
          have := (h2 n (by omega)).mpr ⟨un, z⟩; omega
        have mn : minN W H g v n := ⟨un, fun b ub cb => by
          by_cases z : n ≤ b
          · exact z
          · exact absurd ⟨b, by omega, ub, con_sym hW cb⟩ none_⟩
        obtain ⟨p1, p2⟩ := wPiece_is hG (pF := S.2.2) h1 (fun a b a81 sa ua ub hab => by
          obtain ⟨-, c, c1, c2, c3⟩ := (h2 a a81).mp sa
          exact (h2 b (up_81 hW hH ub)).mpr ⟨ub, c, c1, c2, con_t c3 (con_s ua ub hab)⟩) un q
        refine ih (n + 1) _ (by omega) p1 (fun k hk => ?_) ?_
        · rw [p2 k hk, h2 k hk]
          constructor
          · rintro (⟨uk, c, c1, c2⟩ | ⟨uk, ck⟩)
            · exact ⟨uk, c, by omega, c2⟩
            · exact ⟨uk, n, by omega, un, ck⟩
          · rintro ⟨uk, c, c1, c2, c3⟩
            by_cases z : c = n
            · subst z; exact Or.inr ⟨uk, c3⟩
            · exact Or.inl ⟨uk, c, by omega, c2, c3⟩
        · show S.1 + 1 = _
          rw [h3]
          exact sumN_t (P := fun k => minN W H g v k) mn
      · rw [if_neg (fun z => q z.2)]
        have sn : S.2.1 n = 1 := (h1 n (by omega)).resolve_left q
        obtain ⟨-, c, c1, c2, c3⟩ := (h2 n (by omega)).mp sn
        have nm : ¬ minN W H g v n := fun z => by
          have := z.2 c c2 (con_sym hW c3); omega
        refine ih (n + 1) S (by omega) h1 (fun k hk => ?_) ?_
        · rw [h2 k hk]
          constructor
          · rintro ⟨uk, d, d1, d2⟩; exact ⟨uk, d, by omega, d2⟩
          · rintro ⟨uk, d, d1, d2, d3⟩
            by_cases z : d = n
            · subst z; exact ⟨uk, c, c1, c2, con_t c3 d3⟩
            · exact ⟨uk, d, by omega, d2, d3⟩
        · rw [h3]; exact sumN_f (P := fun k => minN W H g v k) nm
    · rw [if_neg (fun z => by have := z.1; rw [bP_f un] at this; omega)]
      refine ih (n + 1) S (by omega) h1 (fun k hk => ?_) ?_
      · rw [h2 k hk]
        constructor
        · rintro ⟨uk, d, d1, d2⟩; exact ⟨uk, d, by omega, d2⟩
        · rintro ⟨uk, d, d1, d2, d3⟩
          by_cases z : d = n
          · subst z; exact absurd d2 un
          · exact ⟨uk, d, by omega, d2, d3⟩
      · rw [h3]; exact sumN_f (P := fun k => minN W H g v k) (fun z => un z.1)
end LV
/-! the reference's labels -/
section LM
variable {nw : Nat → Int} {v : Int}
theorem mUp_up {k : Nat} : mUp nw v ((Nat.cast k : Int) % 9) ((Nat.cast k : Int) / 9) ↔ upN (nw 0) (nw 1) (nG nw) v k := by
  unfold mUp
  show _ ↔ gIn (nw 0) (nw 1) (Nat.cast k : Int) ∧ _
  exact ⟨fun h => ⟨⟨by omega, h.1⟩, h.2⟩, fun h => ⟨h.1.2, h.2⟩⟩
/-- the cell beside one, where it is up -/
theorem nb_up (hM : mOK nw) {t : Nat} (ht : t < 324) (h : mUp nw v (hX t) (hY t)) : upN (nw 0) (nw 1) (nG nw) v (9 * hY t + hX t).toNat ∧ adjN (nw 0) (nw 1) (t / 4) (9 * hY t + hX t).toNat := by
  have hW := hM.1.2.1
  have hc := h.1
  have e : (Nat.cast (9 * hY t + hX t).toNat : Int) = 9 * hY t + hX t := by omega
  refine ⟨?_, t % 4, by omega, ?_⟩
  · refine mUp_up.mp ?_
    rw [e, c9m (by omega), c9d (by omega)]; exact h
  · unfold gNb
    have e2 : (2 * (Nat.cast (t % 4) : Int)).toNat = 2 * (t % 4) := by omega
    rw [e2, e]
    exact if_pos hc
theorem up_nb {a b : Nat} (ha : a < 81) (hb : upN (nw 0) (nw 1) (nG nw) v b) (h : adjN (nw 0) (nw 1) a b) (hW : nw 0 ≤ 9) : ∃ t : Nat, t < 324 ∧ t / 4 = a ∧ mUp nw v (hX t) (hY t) ∧ (9 * hY t + hX t).toNat = b := by
  obtain ⟨n, hn, e⟩ := h
  have q1 : (4 * a + n) / 4 = a := by omega
  have q2 : (4 * a + n) % 4 = n := by omega
  refine ⟨4 * a + n, by omega, q1, ?_⟩
  have e2 : (2 * (Nat.cast n : Int)).toNat = 2 * n := by omega
  have ex : hX (4 * a + n) = (Nat.cast a : Int) % 9 + zR (2 * n) := by show (Nat.cast ((4 * a + n) / 4) : Int) % 9 + zR (2 * ((4 * a + n) % 4)) = _; rw [q1, q2]
  have ey : hY (4 * a + n) = (Nat.cast a : Int) / 9 + zB (2 * n) := by show (Nat.cast ((4 * a + n) / 4) : Int) / 9 + zB (2 * ((4 * a + n) % 4)) = _; rw [q1, q2]
  rw [ex, ey]
  unfold gNb at e
  rw [e2] at e
  split at e
  · rename_i hc
    refine ⟨?_, by omega⟩
    have m := mUp_up.mpr hb
    rw [← e, c9m (by omega), c9d (by omega)] at m
    exact m
  · omega
def hInv (nw : Nat → Int) (v : Int) (h : Nat → Int) : Prop := ∀ k : Nat, k < 81 → (¬ upN (nw 0) (nw 1) (nG nw) v k → h k = -4) ∧ (upN (nw 0) (nw 1) (nG nw) v k → 0 ≤ h k ∧ h k ≤ (Nat.cast k : Int) ∧ upN (nw 0) (nw 1) (nG nw) v (h k).toNat ∧ conN (nw 0) (nw 1) (nG nw) v k (h k).toNat)
theorem mPs_inv (hM : mOK nw) {m : Int} {h : Nat → Int} (hi : hInv nw v h) (n : Nat) (hn : n ≤ 324) : hInv nw v (mPs nw v (m, h) n).2 := by
  induction n with
  | zero => exact hi
  | succ n ih =>
    have i1 := ih (by omega)
    by_cases q : mRxP nw v n (mPs nw v (m, h) n).2
    · rw [mPs_t q]
      obtain ⟨q1, q2, q3⟩ := q
      obtain ⟨u1, u2⟩ := nb_up hM (by omega) q2
      have n81 := up_81 hM.1.2.1 hM.1.2.2.2.1 u1
      have uc : upN (nw 0) (nw 1) (nG nw) v (n / 4) := Classical.byContradiction (fun z => q1 ((i1 (n / 4) (by omega)).1 z))
      intro k hk
      simp only
      by_cases z : k = n / 4
      · subst z
        rw [uI_same]
        refine ⟨fun r => absurd uc r, fun _ => ?_⟩
        obtain ⟨-, x⟩ := i1 (9 * hY n + hX n).toNat n81
        obtain ⟨x1, x2, x3, x4⟩ := x u1
        obtain ⟨-, y⟩ := i1 (n / 4) (by omega)
        obtain ⟨y1, y2, -⟩ := y uc
        exact ⟨x1, by omega, x3, con_t (con_s uc u1 u2) x4⟩
      · rw [uI_ne _ _ z]
        exact i1 k hk
    · rw [mPs_f q]; exact i1
theorem mPs_fix {h : Nat → Int} (n : Nat) (hn : n ≤ 324) (h0 : (mPs nw v (0, h) n).1 = 0) : ∀ t : Nat, t < n → ¬ mRxP nw v t h := by
  induction n with
  | zero => intro t ht; omega
  | succ n ih =>
    by_cases q : mRxP nw v n (mPs nw v (0, h) n).2
    · rw [mPs_t q] at h0; simp only at h0; omega
    · rw [mPs_f q] at h0
      intro t ht
      by_cases z : t = n
      · subst z
        rw [(mPs_sm t (by omega)).1 h0] at q
        exact q
      · exact ih (by omega) h0 t (by omega)
theorem mWl_is (hM : mOK nw) (f : Nat) : ∀ h : Nat → Int, hOK h → hInv nw v h → hSm h < (Nat.cast f : Int) → hInv nw v (mWl nw v f h) ∧ ∀ t : Nat, t < 324 → ¬ mRxP nw v t (mWl nw v f h) := by
  induction f with
  | zero => intro h hk _ hs; have := hSm_0 hk; omega
  | succ f ih =>
    intro h hk hi hs
    obtain ⟨p1, p2, p3⟩ := mPs_sm (nw := nw) (v := v) (h := h) 324 (Nat.le_refl _)
    by_cases q : (mPs nw v (0, h) 324).1 = 0
    · rw [mWl_0 (by omega) q, p1 q]
      exact ⟨hi, mPs_fix 324 (Nat.le_refl _) q⟩
    · rw [mWl_s (by omega) q, show f + 1 - 1 = f by omega]
      have := p2.resolve_left q
      exact ih _ (mPs_ok hM hk (by simp) 324).1 (mPs_inv hM hi 324 (Nat.le_refl _)) (by omega)
theorem lab_min (hM : mOK nw) {h : Nat → Int} (hi : hInv nw v h) (hf : ∀ t : Nat, t < 324 → ¬ mRxP nw v t h) {k : Nat} (hk : k < 81) : h k = (Nat.cast k : Int) ↔ minN (nw 0) (nw 1) (nG nw) v k := by
  have hW := hM.1.2.1
  have hH := hM.1.2.2.2.1
  have le : ∀ a b : Nat, upN (nw 0) (nw 1) (nG nw) v a → upN (nw 0) (nw 1) (nG nw) v b → adjN (nw 0) (nw 1) a b → h a ≤ h b := fun a b ua ub hab => by
    have a81 := up_81 hW hH ua
    obtain ⟨t, t1, t2, t3, t4⟩ := up_nb a81 ub hab hW
    have ha := ((hi a a81).2 ua).1
    by_cases z : h a ≤ h b
    · exact z
    · exact absurd (mRx_i t2 (by omega) t3 (by rw [t4]; omega)) (hf t t1)
  have eq : ∀ a b : Nat, upN (nw 0) (nw 1) (nG nw) v a → conN (nw 0) (nw 1) (nG nw) v a b → h b = h a := fun a b _ hab => hab (fun x => h x = h a) rfl (fun x y hx ux uy hxy => by
    have := le x y ux uy hxy
    have := le y x uy ux (adj_sym hW ux.1 hxy)
    omega)
  constructor
  · intro e
    have uk : upN (nw 0) (nw 1) (nG nw) v k := Classical.byContradiction (fun z => by have := (hi k hk).1 z; omega)
    refine ⟨uk, fun b ub cb => ?_⟩
    have := ((hi b (up_81 hW hH ub)).2 ub).2.1
    have := eq k b uk cb
    omega
  · rintro ⟨uk, m⟩
    obtain ⟨x1, x2, x3, x4⟩ := (hi k hk).2 uk
    have := m _ x3 x4
    omega
theorem mHf_inv (hF : Nat → Int) : hInv nw v (mHf nw v hF 81) := fun k hk => by
  have e : mHf nw v hF 81 k = if bP (mUp nw v ((Nat.cast k : Int) % 9) ((Nat.cast k : Int) / 9)) = 1 then (Nat.cast k : Int) else -4 := by unfold mHf; rw [if_pos hk]
  rw [e]
  constructor
  · intro z
    rw [if_neg (by rw [bP_f (fun r => z (mUp_up.mp r))]; omega)]
  · intro z
    rw [if_pos (bP_t (mUp_up.mpr z)), cst0]
    exact ⟨by omega, by omega, z, con_r k⟩
theorem an_hills {L E C hF sF pF : Nat → Int} (hM : mOK nw) : (wH (nw 0) (nw 1) (nG nw) v 81 0 (0, zFill 81 0 sF, pF)).1 = sumN (fun k => bP (mWl nw v 7000 (mHf nw v hF 81) k = (Nat.cast k : Int))) 81 := by
  have a := wH_is (v := v) hM.1 81 0 (0, zFill 81 0 sF, pF) (by omega) (fun k hk => Or.inl (by show zFill 81 0 sF k = 0; unfold zFill; rw [if_pos hk])) (fun k hk => ⟨fun q => by
    have e : zFill 81 0 sF k = 0 := by unfold zFill; rw [if_pos hk]
    have q2 : zFill 81 0 sF k = 1 := q
    omega, fun ⟨_, c, hc, _⟩ => by omega⟩) rfl
  rw [a]
  have k0 := mHf_ok nw v hF
  obtain ⟨b1, b2⟩ := mWl_is hM 7000 (mHf nw v hF 81) k0 (mHf_inv hF) (by have := hSm_0 k0; show _ < (7000 : Int); omega)
  generalize mWl nw v 7000 (mHf nw v hF 81) = r at *
  exact sumN_c (fun k hk => (bP_c (lab_min hM b1 b2 hk)).symm)
end LM
