theorem law_776 {p : Program} {l : Launch} {e : Env} {s : State} {m : MethodId} {below : List Frame} {meth : Method} {c : Code} {b : Nat} {G : zG} {A : Nat → Nat → Nat} {a : Nat → Nat} {L : Nat} {xs : Nat → Int32} (C : lwC p s m meth c b L xs G) {n : Nat} (kk : lwN p l e s m below meth c b G A a (n + 4) 18) : lwN p l e s m below meth c b G A a n 776 := by
  obtain ⟨X, hX, hbl, hL, hr, hlocks⟩ := C
  have hx := X.1
  have hb := X.2.1
  intro kn tx kr P sP bs bn rK bS bF kF x9 sF pF mLen mSpot mUn mRr mPit mFar mTm mtx nw rd bf kf lq tnF ofF lsF nxF hF H locs hRel hP hD hS ls hl
  refine z_iinc (x := (Nat.cast n : Int)) (k := 3) hx hb dL_law_776 hl rfl (by decide) rfl (fun ls hl => ?_)
  refine lv_goto (tgt := 18) hx hb dL_law_779 (by decide) ?_
  exact kk kn tx kr P sP bs bn rK bS bF kF x9 sF pF mLen mSpot mUn mRr mPit mFar mTm mtx nw rd bf kf lq tnF ofF lsF nxF hF _ _ hRel hP hD hS ls (lv_sub hl [1, 2, 3, 0] rfl)
set_option maxHeartbeats 4000000 in
theorem law_18 {p : Program} {l : Launch} {e : Env} {s : State} {m : MethodId} {below : List Frame} {meth : Method} {c : Code} {b : Nat} {G : zG} {A : Nat → Nat → Nat} {a : Nat → Nat} {L : Nat} {xs : Nat → Int32} (C : lwC p s m meth c b L xs G) {n : Nat} (hn : n ≤ 2048) (kk : n + 4 ≤ L → lwN p l e s m below meth c b G A a n 776) : lwN p l e s m below meth c b G A a n 18 := by
  obtain ⟨X, hX, hbl, hL, hr, hlocks⟩ := id C
  have hx := X.1
  have hb := X.2.1
  have hbA : ¬ (fun q : Nat => s.heap.size ≤ q) b := Nat.not_le.mpr hbl
  intro kn tx kr P sP bs bn rK bS bF kF x9 sF pF mLen mSpot mUn mRr mPit mFar mTm mtx nw rd bf kf lq tnF ofF lsF nxF hF H locs hRel hP hD hS ls hl
  refine lv_iload_n hx hb dL_law_18 rfl (lv_at hl 3 rfl) ?_
  refine lv_aload_n hx hb dL_law_19 rfl (lv_at hl 0 rfl) ?_
  refine va_slen hx hb hX hbl hbA hS dL_law_20 ?_
  refine z_top (z := (Nat.cast L : Int)) rfl ?_
  refine lv_iconst (v := iV 4) hx hb dL_law_21 (by decide) ?_
  refine z_isub hx hb dL_law_22 ?_
  refine z_icmp_gt (tgt := 782) hx hb ⟨by omega, by omega⟩ ⟨by omega, by omega⟩ dL_law_23 (by decide) (fun _ => ?_) (fun hg => ?_)
  · refine lv_iconst (v := 1) hx hb dL_law_782 (by decide) ?_
    refine va_forget (fun q hq => hS.2.2 q hq) ?_
    refine W.widen (k := 600000) (n := 7302250) (by decide) (by decide) ?_
    exact lw_ret hx hb hr hlocks dL_law_783
  · have hn4 : n + 4 ≤ L := by omega
    have kk := kk hn4
    have hP0 := hP
    have hD0 := hD
    have hRel0 := hRel
    obtain ⟨hT, ⟨Ls, Es, Cs, hk, h1, h2, h3, h4⟩, hsP, hPs, hLa, hSh, hLe⟩ := hRel
    have hP : va_P G.1 vwCl (lwW G A a kn tx kr (nP nw Ls Es Cs) sP bs bn rK bS bF kF x9 sF pF mLen mSpot mUn mRr mPit mFar mTm mtx nw rd bf kf lq tnF ofF lsF nxF hF) H := by
      have q := va_P_app.mp hP0
      have q2 := va_P_app.mp q.2
      exact va_P_app.mpr ⟨q.1, va_P_app.mpr ⟨zPic_like hk q2.1, q2.2⟩⟩
    have hD : va_D (fun q => s.heap.size ≤ q) (lwW G A a kn tx kr (nP nw Ls Es Cs) sP bs bn rK bS bF kF x9 sF pF mLen mSpot mUn mRr mPit mFar mTm mtx nw rd bf kf lq tnF ofF lsF nxF hF) := va_D_fst (w := lwW G A a kn tx kr P sP bs bn rK bS bF kF x9 sF pF mLen mSpot mUn mRr mPit mFar mTm mtx nw rd bf kf lq tnF ofF lsF nxF hF) rfl hD0
    refine lv_aload_n hx hb dL_law_26 rfl (lv_at hl 0 rfl) ?_
    refine lv_iload_n hx hb dL_law_27 rfl (lv_at hl 3 rfl) ?_
    refine z_sld hx hb hX hbl hbA hS (by omega) (by omega) hL dL_law_28 ?_
    obtain ⟨u, eu⟩ : ∃ u : Int, (xs (Nat.cast n : Int).toNat).toInt = u := ⟨_, rfl⟩
    refine z_eq eu ?_
    refine lv_bipush (v := iV 31) hx hb dL_law_29 (by decide) ?_
    refine z_iand31 hx hb dL_law_31 ?_
    by_cases q0 : u % 32 = 0
    · exact z_tsw (tgt := 144) (k := 0) (off := 112) hx hb dL_law_32 q0 ⟨⟨by decide, by decide⟩, by decide, by decide, rfl⟩ (by decide) (lc_write C hn4 kk kn tx kr sP bs bn rK bS bF kF x9 sF pF Ls Es Cs mLen mSpot mUn mRr mPit mFar mTm mtx nw rd bf kf lq tnF ofF lsF nxF hF H locs hT h1 h2 h3 h4 hsP hPs hLa hSh hLe hP hD hS ls hl)
    by_cases q1 : u % 32 = 1
    · exact z_tsw (tgt := 167) (k := 1) (off := 135) hx hb dL_law_32 q1 ⟨⟨by decide, by decide⟩, by decide, by decide, rfl⟩ (by decide) (lc_wipe C hn4 kk kn tx kr sP bs bn rK bS bF kF x9 sF pF Ls Es Cs mLen mSpot mUn mRr mPit mFar mTm mtx nw rd bf kf lq tnF ofF lsF nxF hF H locs hT h1 h2 h3 h4 hsP hPs hLa hSh hLe hP hD hS ls hl)
    by_cases q2 : u % 32 = 2
    · exact z_tsw (tgt := 180) (k := 2) (off := 148) hx hb dL_law_32 q2 ⟨⟨by decide, by decide⟩, by decide, by decide, rfl⟩ (by decide) (lc_fault C hn4 kk kn tx kr sP bs bn rK bS bF kF x9 sF pF Ls Es Cs mLen mSpot mUn mRr mPit mFar mTm mtx nw rd bf kf lq tnF ofF lsF nxF hF H locs hT h1 h2 h3 h4 hsP hPs hLa hSh hLe hP hD hS ls hl)
    by_cases q3 : u % 32 = 3
    · exact z_tsw (tgt := 193) (k := 3) (off := 161) hx hb dL_law_32 q3 ⟨⟨by decide, by decide⟩, by decide, by decide, rfl⟩ (by decide) (lc_lay C hn4 kk kn tx kr sP bs bn rK bS bF kF x9 sF pF Ls Es Cs mLen mSpot mUn mRr mPit mFar mTm mtx nw rd bf kf lq tnF ofF lsF nxF hF H locs hT h1 h2 h3 h4 hsP hPs hLa hSh hLe hP hD hS ls hl)
    by_cases q4 : u % 32 = 4
    · exact z_tsw (tgt := 206) (k := 4) (off := 174) hx hb dL_law_32 q4 ⟨⟨by decide, by decide⟩, by decide, by decide, rfl⟩ (by decide) (lc_raise C hn4 kk kn tx kr sP bs bn rK bS bF kF x9 sF pF Ls Es Cs mLen mSpot mUn mRr mPit mFar mTm mtx nw rd bf kf lq tnF ofF lsF nxF hF H locs hT h1 h2 h3 h4 hsP hPs hLa hSh hLe hP hD hS ls hl)
    by_cases q5 : u % 32 = 5
    · exact z_tsw (tgt := 249) (k := 5) (off := 217) hx hb dL_law_32 q5 ⟨⟨by decide, by decide⟩, by decide, by decide, rfl⟩ (by decide) (lc_light C hn4 kk kn tx kr sP bs bn rK bS bF kF x9 sF pF Ls Es Cs mLen mSpot mUn mRr mPit mFar mTm mtx nw rd bf kf lq tnF ofF lsF nxF hF H locs hT h1 h2 h3 h4 hsP hPs hLa hSh hLe hP hD hS ls hl)
    by_cases q6 : u % 32 = 6
    · exact z_tsw (tgt := 282) (k := 6) (off := 250) hx hb dL_law_32 q6 ⟨⟨by decide, by decide⟩, by decide, by decide, rfl⟩ (by decide) (lc_shades C hn4 kk kn tx kr sP bs bn rK bS bF kF x9 sF pF Ls Es Cs mLen mSpot mUn mRr mPit mFar mTm mtx nw rd bf kf lq tnF ofF lsF nxF hF H locs hT h1 h2 h3 h4 hsP hPs hLa hSh hLe hP hD hS ls hl)
    by_cases q7 : u % 32 = 7
    · exact z_tsw (tgt := 305) (k := 7) (off := 273) hx hb dL_law_32 q7 ⟨⟨by decide, by decide⟩, by decide, by decide, rfl⟩ (by decide) (lc_undo C hn4 kk kn tx kr sP bs bn rK bS bF kF x9 sF pF Ls Es Cs mLen mSpot mUn mRr mPit mFar mTm mtx nw rd bf kf lq tnF ofF lsF nxF hF H locs hT h1 h2 h3 h4 hsP hPs hLa hSh hLe hP hD hS ls hl)
    by_cases q8 : u % 32 = 8
    · exact z_tsw (tgt := 318) (k := 8) (off := 286) hx hb dL_law_32 q8 ⟨⟨by decide, by decide⟩, by decide, by decide, rfl⟩ (by decide) (lc_cell C hn4 kk kn tx kr sP bs bn rK bS bF kF x9 sF pF Ls Es Cs mLen mSpot mUn mRr mPit mFar mTm mtx nw rd bf kf lq tnF ofF lsF nxF hF H locs hT h1 h2 h3 h4 hsP hPs hLa hSh hLe hP hD hS ls hl)
    by_cases q9 : u % 32 = 9
    · exact z_tsw (tgt := 361) (k := 9) (off := 329) hx hb dL_law_32 q9 ⟨⟨by decide, by decide⟩, by decide, by decide, rfl⟩ (by decide) (lc_flow C hn4 kk kn tx kr sP bs bn rK bS bF kF x9 sF pF Ls Es Cs mLen mSpot mUn mRr mPit mFar mTm mtx nw rd bf kf lq tnF ofF lsF nxF hF H locs hT h1 h2 h3 h4 hsP hPs hLa hSh hLe hP hD hS ls hl)
    by_cases q10 : u % 32 = 10
    · exact z_tsw (tgt := 404) (k := 10) (off := 372) hx hb dL_law_32 q10 ⟨⟨by decide, by decide⟩, by decide, by decide, rfl⟩ (by decide) (lc_basin C hn4 kk kn tx kr sP bs bn rK bS bF kF x9 sF pF Ls Es Cs mLen mSpot mUn mRr mPit mFar mTm mtx nw rd bf kf lq tnF ofF lsF nxF hF H locs hT h1 h2 h3 h4 hsP hPs hLa hSh hLe hP hD hS ls hl)
    by_cases q11 : u % 32 = 11
    · exact z_tsw (tgt := 437) (k := 11) (off := 405) hx hb dL_law_32 q11 ⟨⟨by decide, by decide⟩, by decide, by decide, rfl⟩ (by decide) (lc_contrast C hn4 kk kn tx kr sP bs bn rK bS bF kF x9 sF pF Ls Es Cs mLen mSpot mUn mRr mPit mFar mTm mtx nw rd bf kf lq tnF ofF lsF nxF hF H locs hT h1 h2 h3 h4 hsP hPs hLa hSh hLe hP hD hS ls hl)
    by_cases q12 : u % 32 = 12
    · exact z_tsw (tgt := 470) (k := 12) (off := 438) hx hb dL_law_32 q12 ⟨⟨by decide, by decide⟩, by decide, by decide, rfl⟩ (by decide) (lc_best C hn4 kk kn tx kr sP bs bn rK bS bF kF x9 sF pF Ls Es Cs mLen mSpot mUn mRr mPit mFar mTm mtx nw rd bf kf lq tnF ofF lsF nxF hF H locs hT h1 h2 h3 h4 hsP hPs hLa hSh hLe hP hD hS ls hl)
    by_cases q13 : u % 32 = 13
    · exact z_tsw (tgt := 493) (k := 13) (off := 461) hx hb dL_law_32 q13 ⟨⟨by decide, by decide⟩, by decide, by decide, rfl⟩ (by decide) (lc_turn C hn4 kk kn tx kr sP bs bn rK bS bF kF x9 sF pF Ls Es Cs mLen mSpot mUn mRr mPit mFar mTm mtx nw rd bf kf lq tnF ofF lsF nxF hF H locs hT h1 h2 h3 h4 hsP hPs hLa hSh hLe hP hD hS ls hl)
    by_cases q14 : u % 32 = 14
    · exact z_tsw (tgt := 506) (k := 14) (off := 474) hx hb dL_law_32 q14 ⟨⟨by decide, by decide⟩, by decide, by decide, rfl⟩ (by decide) (lc_shade C hn4 kk kn tx kr sP bs bn rK bS bF kF x9 sF pF Ls Es Cs mLen mSpot mUn mRr mPit mFar mTm mtx nw rd bf kf lq tnF ofF lsF nxF hF H locs hT h1 h2 h3 h4 hsP hPs hLa hSh hLe hP hD hS ls hl)
    by_cases q15 : u % 32 = 15
    · exact z_tsw (tgt := 529) (k := 15) (off := 497) hx hb dL_law_32 q15 ⟨⟨by decide, by decide⟩, by decide, by decide, rfl⟩ (by decide) (lc_error C hn4 kk kn tx kr sP bs bn rK bS bF kF x9 sF pF Ls Es Cs mLen mSpot mUn mRr mPit mFar mTm mtx nw rd bf kf lq tnF ofF lsF nxF hF H locs hT h1 h2 h3 h4 hsP hPs hLa hSh hLe hP hD hS ls hl)
    by_cases q16 : u % 32 = 16
    · exact z_tsw (tgt := 552) (k := 16) (off := 520) hx hb dL_law_32 q16 ⟨⟨by decide, by decide⟩, by decide, by decide, rfl⟩ (by decide) (lc_level C hn4 kk kn tx kr sP bs bn rK bS bF kF x9 sF pF Ls Es Cs mLen mSpot mUn mRr mPit mFar mTm mtx nw rd bf kf lq tnF ofF lsF nxF hF H locs hT h1 h2 h3 h4 hsP hPs hLa hSh hLe hP hD hS ls hl)
    by_cases q17 : u % 32 = 17
    · exact z_tsw (tgt := 585) (k := 17) (off := 553) hx hb dL_law_32 q17 ⟨⟨by decide, by decide⟩, by decide, by decide, rfl⟩ (by decide) (lc_why C hn4 kk kn tx kr sP bs bn rK bS bF kF x9 sF pF Ls Es Cs mLen mSpot mUn mRr mPit mFar mTm mtx nw rd bf kf lq tnF ofF lsF nxF hF H locs hT h1 h2 h3 h4 hsP hPs hLa hSh hLe hP hD hS ls hl)
    by_cases q18 : u % 32 = 18
    · exact z_tsw (tgt := 618) (k := 18) (off := 586) hx hb dL_law_32 q18 ⟨⟨by decide, by decide⟩, by decide, by decide, rfl⟩ (by decide) (lc_draw C hn4 kk kn tx kr sP bs bn rK bS bF kF x9 sF pF Ls Es Cs mLen mSpot mUn mRr mPit mFar mTm mtx nw rd bf kf lq tnF ofF lsF nxF hF H locs hT h1 h2 h3 h4 hsP hPs hLa hSh hLe hP hD hS ls hl)
    by_cases q19 : u % 32 = 19
    · exact z_tsw (tgt := 651) (k := 19) (off := 619) hx hb dL_law_32 q19 ⟨⟨by decide, by decide⟩, by decide, by decide, rfl⟩ (by decide) (lc_rub C hn4 kk kn tx kr sP bs bn rK bS bF kF x9 sF pF Ls Es Cs mLen mSpot mUn mRr mPit mFar mTm mtx nw rd bf kf lq tnF ofF lsF nxF hF H locs hT h1 h2 h3 h4 hsP hPs hLa hSh hLe hP hD hS ls hl)
    by_cases q20 : u % 32 = 20
    · exact z_tsw (tgt := 674) (k := 20) (off := 642) hx hb dL_law_32 q20 ⟨⟨by decide, by decide⟩, by decide, by decide, rfl⟩ (by decide) (lc_hatch C hn4 kk kn tx kr sP bs bn rK bS bF kF x9 sF pF Ls Es Cs mLen mSpot mUn mRr mPit mFar mTm mtx nw rd bf kf lq tnF ofF lsF nxF hF H locs hT h1 h2 h3 h4 hsP hPs hLa hSh hLe hP hD hS ls hl)
    by_cases q21 : u % 32 = 21
    · exact z_tsw (tgt := 687) (k := 21) (off := 655) hx hb dL_law_32 q21 ⟨⟨by decide, by decide⟩, by decide, by decide, rfl⟩ (by decide) (lc_stroke C hn4 kk kn tx kr sP bs bn rK bS bF kF x9 sF pF Ls Es Cs mLen mSpot mUn mRr mPit mFar mTm mtx nw rd bf kf lq tnF ofF lsF nxF hF H locs hT h1 h2 h3 h4 hsP hPs hLa hSh hLe hP hD hS ls hl)
    by_cases q22 : u % 32 = 22
    · exact z_tsw (tgt := 720) (k := 22) (off := 688) hx hb dL_law_32 q22 ⟨⟨by decide, by decide⟩, by decide, by decide, rfl⟩ (by decide) (lc_whose C hn4 kk kn tx kr sP bs bn rK bS bF kF x9 sF pF Ls Es Cs mLen mSpot mUn mRr mPit mFar mTm mtx nw rd bf kf lq tnF ofF lsF nxF hF H locs hT h1 h2 h3 h4 hsP hPs hLa hSh hLe hP hD hS ls hl)
    by_cases q23 : u % 32 = 23
    · exact z_tsw (tgt := 753) (k := 23) (off := 721) hx hb dL_law_32 q23 ⟨⟨by decide, by decide⟩, by decide, by decide, rfl⟩ (by decide) (lc_count C hn4 kk kn tx kr sP bs bn rK bS bF kF x9 sF pF Ls Es Cs mLen mSpot mUn mRr mPit mFar mTm mtx nw rd bf kf lq tnF ofF lsF nxF hF H locs hT h1 h2 h3 h4 hsP hPs hLa hSh hLe hP hD hS ls hl)
    exact z_tswd (tgt := 776) hx hb ⟨by omega, by omega⟩ dL_law_32 (Or.inr (by omega)) (by decide) (kk kn tx kr P sP bs bn rK bS bF kF x9 sF pF mLen mSpot mUn mRr mPit mFar mTm mtx nw rd bf kf lq tnF ofF lsF nxF hF H locs hRel0 hP0 hD0 hS ls hl)
theorem law_loop {p : Program} {l : Launch} {e : Env} {s : State} {m : MethodId} {below : List Frame} {meth : Method} {c : Code} {b : Nat} {G : zG} {A : Nat → Nat → Nat} {a : Nat → Nat} {L : Nat} {xs : Nat → Int32} (C : lwC p s m meth c b L xs G) : ∀ k n : Nat, n ≤ 2048 → L < n + k → lwN p l e s m below meth c b G A a n 18 := by
  have hL := C.2.2.2.1
  intro k
  induction k with
  | zero => exact fun n h0 h1 => law_18 C h0 (fun h => absurd h (by omega))
  | succ k ih => exact fun n h0 h1 => law_18 C h0 (fun h => law_776 C (ih (n + 4) (by omega) (by omega)))
