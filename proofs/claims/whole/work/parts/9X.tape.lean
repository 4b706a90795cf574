/-! THE PURE PROOFS, 9A1: the start: the tape. -/
theorem taInit {g : GT} {N : Nat} {h : PH} (hM : 200 ≤ N) (en : hN h = 8) (ka : hK h 7 = (8, 0)) (k0 : hK h 8 = (22, 1000)) (k1 : hK h 9 = (23, 28)) (x : TxW h) : Wp (Ta_init g N 7 h) (fun _ h2 => FrGr (fun b => 7 ≤ b ∧ b ≤ 9) 2 1028 h h2 ∧ hR h2 7 0 = some 8 ∧ hR h2 7 9 = some 9 ∧ hI h2 7 1 = 0 ∧ ∀ j, j < 28 → hJ h2 9 j = jv (K32 j)) := by
  unfold Ta_init
  rw [show ix 1000 = 1000 from by decide, show ix 28 = 28 from by decide, en]
  have f0 : FrGr (fun b => 7 ≤ b ∧ b ≤ 9) 0 0 h h := FrGr.rf
  have f1 := f0.nw (kd := (22, 1000)) (m := 1000) (by rw [en]; exact k0) (by show 7 ≤ _ ∧ _ ≤ 9; omega)
  refine Wp_ck (by decide) (Wp_lt (Wp_ck (by rw [f1.2.1, ka]) (Wp_lt (Wp_lt (Wp_lt (Wp_lt (Wp_lt (Wp_lt (Wp_lt (Wp_lt (Wp_lt ?_)))))))))))
  have s7 : (fun b => 7 ≤ b ∧ b ≤ 9) 7 := ⟨by omega, by omega⟩
  have f2 := (((((((((f1.wR (a := 7) (i := 0) (v := some 8) s7).wI (a := 7) (i := 1) (v := 0) s7).wI (a := 7) (i := 2) (v := 3) s7).wI (a := 7) (i := 3) (v := 0) s7).wI (a := 7) (i := 4) (v := 0) s7).wI (a := 7) (i := 5) (v := 0) s7).wI (a := 7) (i := 6) (v := -1) s7).wJ (a := 7) (i := 7) (v := 0) s7).wI (a := 7) (i := 8) (v := 0) s7)
  have r0 : hR (wI (wJ (wI (wI (wI (wI (wI (wI (wR (nw h (22, 1000) 1000) 7 0 (some 8)) 7 1 0) 7 2 3) 7 3 0) 7 4 0) 7 5 0) 7 6 (-1)) 7 7 0) 7 8 0) 7 0 = some 8 := by rw [hR_wI, hR_wJ, hR_wI, hR_wI, hR_wI, hR_wI, hR_wI, hR_wI, hR_wR, if_pos ⟨rfl, rfl⟩]
  have i1 : hI (wI (wJ (wI (wI (wI (wI (wI (wI (wR (nw h (22, 1000) 1000) 7 0 (some 8)) 7 1 0) 7 2 3) 7 3 0) 7 4 0) 7 5 0) 7 6 (-1)) 7 7 0) 7 8 0) 7 1 = 0 := by rw [hI_wI, if_neg (by omega), hI_wJ, hI_wI, if_neg (by omega), hI_wI, if_neg (by omega), hI_wI, if_neg (by omega), hI_wI, if_neg (by omega), hI_wI, if_neg (by omega), hI_wI, if_pos ⟨rfl, rfl⟩]
  generalize wI (wJ (wI (wI (wI (wI (wI (wI (wR (nw h (22, 1000) 1000) 7 0 (some 8)) 7 1 0) 7 2 3) 7 3 0) 7 4 0) 7 5 0) 7 6 (-1)) 7 7 0) 7 8 0 = h3 at f2 r0 i1 ⊢
  have n3 : hN h3 = 9 := by rw [f2.1.1, en]
  rw [n3]
  have f4 := (f2.nw (kd := (23, 28)) (m := 28) (by rw [en]; exact k1) (by show 7 ≤ _ ∧ _ ≤ 9; omega)).wR (a := 7) (i := 9) (v := some 9) s7
  have r4 : hR (wR (nw h3 (23, 28) 28) 7 9 (some 9)) 7 0 = some 8 := by rw [hR_wR, if_neg (by omega), hR_nw, if_neg (by omega)]; exact r0
  have r9 : hR (wR (nw h3 (23, 28) 28) 7 9 (some 9)) 7 9 = some 9 := by rw [hR_wR, if_pos ⟨rfl, rfl⟩]
  have i4 : hI (wR (nw h3 (23, 28) 28) 7 9 (some 9)) 7 1 = 0 := by rw [hI_wR, hI_nw, if_neg (by omega)]; exact i1
  have j4 : ∀ j, hJ (wR (nw h3 (23, 28) 28) 7 9 (some 9)) 9 j = 0 := fun j => by rw [hJ_wR, hJ_nw, if_pos n3.symm]
  have e4 := f4.2.1
  rw [hK_wR] at e4
  refine Wp_ck (by decide) (Wp_lt (Wp_ck (by rw [e4, ka]) (Wp_lt ?_)))
  generalize wR (nw h3 (23, 28) 28) 7 9 (some 9) = h4 at f4 r4 r9 i4 j4 ⊢
  have y : TxW h4 := ⟨by rw [f4.2.1]; exact x.1, by rw [(f4.2.2 1 (by omega)).2.2.2]; exact x.2.1, by rw [(f4.2.2 1 (by omega)).1]; exact x.2.2.1, by rw [f4.2.1]; exact x.2.2.2.1, fun j => by rw [(f4.2.2 2 (by omega)).1]; exact x.2.2.2.2 j⟩
  have w := laysWordsL (g := g) (N := N) y (by rw [f4.2.1]; exact ka) r9 (by rw [f4.2.1]; exact k1) 154 0 0 (fun _ => 0) h4 (by omega) (by omega) FrS.rf (fun j _ => by rw [j4]; exact jl0) N (by omega)
  refine Wp_mono w ?_
  rintro - h5 ⟨f5, e5⟩
  have fB : FrGr (fun b => 7 ≤ b ∧ b ≤ 9) 0 0 h4 h5 := (FrS.gr f5).up (fun b z => by omega)
  exact ⟨f4.tr fB, by rw [f5.2.2.1]; exact r4, by rw [f5.2.2.1]; exact r9, by rw [f5.I (by omega)]; exact i4, fun j hj => by rw [e5 j hj, wRun_K j hj]⟩
