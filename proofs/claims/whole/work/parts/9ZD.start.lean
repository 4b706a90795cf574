/-! THE PURE PROOFS, 9A7: the start: the class, made and moved in. -/
abbrev E0 : Nat → Ex := fun _ => xnum 0
def LeDone (h0 h : PH) : Prop := hK h = hK h0 ∧ (hN h = 92 ∧ hS h ≤ hS h0 + 10000 ∧ hE h = hE h0) ∧ (∀ b, b < 6 → hI h b = hI h0 b ∧ hR h b = hR h0 b) ∧ PtO PFin h ∧ (hI h 7 1 = 0 ∧ ∀ j, j < 28 → hJ h 9 j = jv (K32 j)) ∧ hI h 17 0 = iv 0 ∧ (hZ h 36 1 = decide ((0 : Int) = 1) ∧ hZ h 36 2 = decide ((1 : Int) = 1)) ∧ (hZ h 39 1 = decide ((1 : Int) = 1) ∧ hZ h 39 2 = decide ((1 : Int) = 1)) ∧ (hZ h 42 1 = decide ((0 : Int) = 1) ∧ hZ h 42 2 = decide ((0 : Int) = 1)) ∧ hI h 45 7 = 0 ∧ MvL 0 H1 C1 E0 h
theorem kx_kl : ∀ q ∈ KL, q ∈ KX := fun _ hq => List.mem_append.mpr (Or.inr hq)
theorem leInitDone {g : GT} {N : Nat} {h0 : PH} (hN1 : 3000 ≤ N) (n0 : hN h0 = 7) (kd : ∀ q ∈ KX, hK h0 q.1 = q.2) (tx : TxW h0) : Wp (Le_init g N 6 h0) (fun _ h => LeDone h0 h) := by
  refine leInitAll hN1 n0 kd tx (fun h2 p => ?_)
  obtain ⟨eK, ⟨eN, eS, eE⟩, low, pf, v7, v16, v36, v39, v42, v45⟩ := p
  have sc : ShC h2 := ⟨fun q hq => by rw [eK]; exact kd q (kx_kl q hq), fun q hq l => pf q (pl_fin q hq l)⟩
  have v16' : (∀ f, f < 13 → hI h2 16 f = iv (cf H1 f)) ∧ hI h2 16 13 = iv 0 ∧ hI h2 17 0 = iv 0 ∧ (∀ m : Nat, 0 < m → m < 4 → hI h2 17 m = iv (wsm H1 m)) ∧ (∀ k, k < 96 → hI h2 18 k = iv (C1 k)) ∧ ∀ q k : Nat, q < 24 → k < 4 → hI h2 19 (4 * q + k) = iv (cw C1 1 q k) := v16
  obtain ⟨w1, w2, w3, w4, w5, w6⟩ := v16'
  refine Wp_bd2 (moveInC (m := 0) (H := H1) (C := C1) (E := E0) (by omega) sc w1 (fun n hn => ?_) w5 w6 ⟨w2, fun k hk => absurd hk (Nat.not_lt_zero k)⟩ (fun i hi => absurd hi (Nat.not_lt_zero i)) rfl (by omega) (Nat.zero_le _)) ?_
  · by_cases c : n = 0
    · subst c
      exact w3
    · exact w4 n (by omega) hn
  · rintro - h3 ⟨f, z, mv⟩
    have nS : ∀ b, ¬ SMv b → hI h3 b = hI h2 b ∧ hJ h3 b = hJ h2 b := fun b hb => ⟨(f.2.2.2 b hb).1, (f.2.2.2 b hb).2.1⟩
    have e7 : hI h2 7 1 = 0 ∧ ∀ j, j < 28 → hJ h2 9 j = jv (K32 j) := v7
    have e45 : hI h2 45 7 = 0 := v45
    have e36 : hZ h2 36 1 = decide ((0 : Int) = 1) ∧ hZ h2 36 2 = decide ((1 : Int) = 1) := v36
    have e39 : hZ h2 39 1 = decide ((1 : Int) = 1) ∧ hZ h2 39 2 = decide ((1 : Int) = 1) := v39
    have e42 : hZ h2 42 1 = decide ((0 : Int) = 1) ∧ hZ h2 42 2 = decide ((0 : Int) = 1) := v42
    refine Wp_ret ⟨f.2.1.trans eK, ⟨?_, ?_, ?_⟩, fun b hb => ⟨(nS b (by unfold SMv; omega)).1.trans (low b hb).1, ?_⟩, fun q hq => ?_, ⟨?_, fun j hj => ?_⟩, ?_, ?_, ?_, ?_, ?_, mv⟩
    · show h3.1.1 = 92
      rw [f.1]; exact eN
    · show h3.1.2.1 ≤ _
      rw [f.1]
      have : hS h2 ≤ hS h0 + 10000 := by omega
      exact this
    · show h3.1.2.2 = _
      rw [f.1]; exact eE
    · rw [f.2.2.1]; exact (low b hb).2
    · rw [f.2.2.1]; exact pf q hq
    · rw [(nS 7 (by unfold SMv; omega)).1]; exact e7.1
    · rw [(nS 9 (by unfold SMv; omega)).2]; exact e7.2 j hj
    · rw [(nS 17 (by unfold SMv; omega)).1]; exact w3
    · rw [z 36 (by omega)]; exact e36
    · rw [z 39 (by omega)]; exact e39
    · rw [z 42 (by omega)]; exact e42
    · rw [(nS 45 (by unfold SMv; omega)).1]; exact e45
