/-! THE PURE PROOFS, 9A9: THE LAW: it answers true. -/
theorem lawTrue {gt : GT} {N len : Nat} {h : PH} (hN1 : 30000 ≤ N) (n0 : hN h = 6) (kd : ∀ q ∈ KX, hK h q.1 = q.2) (k0 : hK h 0 = (26, len)) (hl : len ≤ 4900) (tx : TxW h) (tf : TextF h) (eE : hE h = 0) (eS : hS h ≤ 10000) : Wp (La_law gt N (some 0) h) (fun v h2 => v = true ∧ ∃ c g, c ≤ 90000 ∧ LeI c g h2) := by
  unfold La_law
  rw [n0]
  have f1 := (FrGr.rf (S := fun b => 6 ≤ b) (h := h)).nw (kd := (10, 0)) (m := 18) (by rw [n0]; exact kd (6, (10, 0)) (by decide +kernel)) (by show 6 ≤ hN h + 0; omega)
  refine Wp_lt ?_
  generalize nw h (10, 0) 18 = h1 at f1 ⊢
  have K1 := f1.2.1
  have tx1 : TxW h1 := ⟨by rw [K1]; exact tx.1, by rw [(f1.2.2 1 (by omega)).2.2.2]; exact tx.2.1, by rw [(f1.2.2 1 (by omega)).1]; exact tx.2.2.1, by rw [K1]; exact tx.2.2.2.1, fun j => by rw [(f1.2.2 2 (by omega)).1]; exact tx.2.2.2.2 j⟩
  refine Wp_ck (by rw [K1, kd (6, (10, 0)) (by decide +kernel)]) (Wp_bd2 (leInitDone (g := gt) (by omega) (by rw [f1.1.1, n0]) (fun q hq => by rw [K1]; exact kd q hq) tx1) ?_)
  rintro - h2 ld
  obtain ⟨eK, ⟨eN, eS2, eE2⟩, low, pf, -⟩ := id ld
  have K2 : hK h2 = hK h := eK.trans K1
  rw [eN]
  refine Wp_lt ?_
  have f3 := (FrGr.rf (S := fun b => 92 ≤ b) (h := h2)).nw (kd := (11, 0)) (m := 54) (by rw [eN, K2]; exact kd (92, (11, 0)) (by decide +kernel)) (by show 92 ≤ hN h2 + 0; omega)
  have z3 : ∀ j, hI (nw h2 (11, 0) 54) 92 j = 0 ∧ hZ (nw h2 (11, 0) 54) 92 j = false := fun j => ⟨by rw [hI_nw, if_pos eN.symm], by rw [hZ_nw, if_pos eN.symm]⟩
  generalize nw h2 (11, 0) 54 = h3 at f3 z3 ⊢
  have K3 : hK h3 = hK h := f3.2.1.trans K2
  refine Wp_ck (by rw [K3, kd (92, (11, 0)) (by decide +kernel)]) (Wp_bd2 (moInitM (by omega) (by rw [f3.1.1, eN]) (fun q hq => by rw [K3]; exact kd q (kx_kl q hq)) (fun q hq l => by rw [(f3.2.2 q.1.1 (by omega)).2.2.2]; exact pf q (pl_fin q hq l)) z3) ?_)
  rintro - h4 ⟨f4, s4, rm⟩
  have K4 : hK h4 = hK h := f4.2.1.trans K3
  have e4 : hN h4 = 126 := by rw [f4.1.1, f3.1.1, eN]
  rw [e4, show ix 1 = 1 from by decide]
  refine Wp_ck (by decide) (Wp_lt ?_)
  have f5 := (FrGr.rf (S := fun b => b = 126) (h := h4)).nw (kd := (23, 1)) (m := 1) (by rw [e4, K4]; exact kd (126, (23, 1)) (by decide +kernel)) (by show hN h4 + 0 = 126; omega)
  generalize nw h4 (23, 1) 1 = h5 at f5 ⊢
  have K5 : hK h5 = hK h := f5.2.1.trans K4
  have s5 : Shp h5 := ⟨fun q hq => by rw [K5]; exact kd q (kx_kl q hq), fun q hq => by
    have e : ∀ q ∈ PL, q.1.1 ≠ 126 := by decide +kernel
    rw [(f5.2.2 q.1.1 (e q hq)).2.2.2]
    exact s4.2 q hq⟩
  have keep : ∀ b, b < 92 → hI h5 b = hI h2 b ∧ hJ h5 b = hJ h2 b ∧ hZ h5 b = hZ h2 b ∧ hR h5 b = hR h2 b := fun b hb => by
    have a := f5.2.2 b (by omega)
    have c := f4.2.2 b (by omega)
    have d := f3.2.2 b (by omega)
    exact ⟨(a.1.trans c.1).trans d.1, (a.2.1.trans c.2.1).trans d.2.1, (a.2.2.1.trans c.2.2.1).trans d.2.2.1, (a.2.2.2.trans c.2.2.2).trans d.2.2.2⟩
  have lowI : ∀ b, b < 6 → hI h5 b = hI h b ∧ hR h5 b = hR h b := fun b hb => ⟨((keep b (by omega)).1.trans (low b hb).1).trans (f1.2.2 b (by omega)).1, ((keep b (by omega)).2.2.2.trans (low b hb).2).trans (f1.2.2 b (by omega)).2.2.2⟩
  have tf5 : TextF h5 := by
    unfold TextF at tf ⊢
    rw [K5, (lowI 3 (by omega)).1, (lowI 3 (by omega)).2, (lowI 4 (by omega)).1]
    exact tf
  have a1 := f1.1
  have a3 := f3.1
  have a4 := f4.1
  have a5 := f5.1
  have le := leStart ld (fun q hq => by rw [K5]; exact kd q hq) s5 tf5 keep (by rw [a5.1, e4]) (by rw [a5.2.2, a4.2.2, a3.2.2, eE2, a1.2.2, eE]) (by omega)
  have rm5 : RestM g0 h5 := rm.cg s5 (fun b hb => ⟨(f5.2.2 b (by unfold LowM at hb; omega)).1, (f5.2.2 b (by unfold LowM at hb; omega)).2.2.1⟩) (by rw [(f5.2.2 92 (by omega)).1]) (by rw [(f5.2.2 92 (by omega)).1])
  exact lawLoop (len := len) (by omega) (by omega) 700 0 0 g0 h5 (by omega) (by omega) (by omega) ⟨le, rm5, g0_ok, by rw [K5]; exact k0⟩ N (by omega)
