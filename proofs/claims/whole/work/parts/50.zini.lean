/-! the first ground -/
theorem ini_1 : (mRd (sPut (fun _ => 0) 0 76 zTx) 76 200 0 (nClr (fun _ => 0)) 0).1 = -4 := by decide +kernel
theorem ini_2 : ∀ k : Nat, k < 249 → (mRd (sPut (fun _ => 0) 0 76 zTx) 76 200 0 (nClr (fun _ => 0)) 0).2.2.1 k = mNow0 k := by decide +kernel
theorem ini_pic {rD : Int × pT × Int} (hRD : kRd (sPut (fun _ => 0) 0 76 zTx) 76 200 (pClear pP0) 0 0 = rD) : rPic rD.2.1 mNow0 ∧ pOK rD.2.1 := by
  have hk := kRd_ok (tx := sPut (fun _ => 0) 0 76 zTx) (kn := 76) 200 (a := 0) (kOK_0 pOK_0)
  obtain ⟨-, e⟩ := read_eq (tx := sPut (fun _ => 0) 0 76 zTx) (mx := sPut (fun _ => 0) 0 76 zTx) (kn := 76) (fun _ _ => rfl) 200 (pClear pP0) (nClr (fun _ => 0)) 0 0 (kRel_0 pP0 (fun _ => 0)) (kOK_0 pOK_0) (by decide) (by decide)
  have e := e ini_1
  rw [hRD] at hk e
  have h0 := ini_2 0 (by omega)
  have m0 : mNow0 0 = 7 := by decide +kernel
  exact ⟨rPic_c ini_2 (kRel_pic hk.1 e (by rw [h0, m0]; decide)), hk.1⟩
