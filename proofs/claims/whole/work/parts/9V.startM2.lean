/-! THE PURE PROOFS, 99: the start: the reference stands. -/
def g0 : Gs := mkG (fun _ => 0) 0 H1 C1 (fun _ => xnum 0) (begM H1) (0, fun _ => 0, fun _ => 0) (0, fun _ _ => 0) (fun _ => false, fun _ _ => 0, fun _ => (0, fun _ => 0, fun _ => 0))
def PtL (h : PH) : Prop := ∀ q ∈ PL, q.1.1 < 92 → hR h q.1.1 q.1.2 = some q.2
def KdA (h : PH) : Prop := ∀ q ∈ KL, hK h q.1 = q.2
theorem mk_in : ∀ q ∈ MK, q ∈ KL := by decide +kernel
theorem pl_in : ∀ q ∈ PL, q.1.1 < 92 ∨ (q.1.1 = 92 ∧ (q.1.2, q.2) ∈ MP) := by decide +kernel
theorem moInitM {N : Nat} {h0 : PH} (hN1 : 3000 ≤ N) (n0 : hN h0 = 93) (kd : KdA h0) (pt : PtL h0) (z0 : ∀ j, hI h0 92 j = 0 ∧ hZ h0 92 j = false) : Wp (Mo_init N 92 h0) (fun _ h2 => FrGr (fun b => 92 ≤ b) 33 136061 h0 h2 ∧ Shp h2 ∧ RestM g0 h2) := by
  refine moAlloc n0 (kd (92, (11, 0)) (by decide +kernel)) z0 (fun q hq => kd q (mk_in q hq)) (fun h2 x => ?_)
  obtain ⟨fr, z, p⟩ := x
  have s : Shp h2 := by
    refine ⟨fun q hq => by rw [fr.2.1]; exact kd q hq, fun q hq => ?_⟩
    rcases pl_in q hq with c | ⟨c, m⟩
    · rw [(fr.2.2 q.1.1 (by omega)).2.2.2]
      exact pt q hq c
    · rw [c]
      exact p _ m
  have n2 : hN h2 = 126 := by rw [fr.1.1, n0]
  have zz : ∀ b, 92 ≤ b → b < 126 → ∀ j, hI h2 b j = 0 ∧ hZ h2 b j = false := fun b b1 b2 => z b (by omega)
  refine Wp_bd2 (show Wp (Mo_plain N 92 (iv ((0 : Nat) : Int)) h2) _ from plainM (r := 0) (by omega) s (by omega)) ?_
  rintro - h3 ⟨f3, a1, a2, a3⟩
  have s3 := f3.1.shp s
  have hs : HsM H1 C1 h3 := ⟨fun i hi => by have := a1 i hi; rwa [show 18 * 0 + i = i from by omega] at this, fun j hj => by have := a3 j hj; rwa [show 96 * 0 + j = j from by omega] at this⟩
  refine Wp_ck (by rw [k92 s3]) (Wp_bd2 (freshM (by omega) s3 hs) ?_)
  rintro - h4 ⟨f4, m4⟩
  have f34 : FrS (fun b => 94 ≤ b ∧ b ≤ 116) h2 h4 := (f3.1.up (fun b z => by omega)).tr (f4.s.up (fun b z => by omega))
  have s4 := f34.shp s
  have l : ∀ b, 92 ≤ b → b < 126 → ¬ (b = 94 ∨ b = 95 ∨ b = 96 ∨ b = 116) → ∀ j, hI h4 b j = 0 ∧ hZ h4 b j = false := fun b b1 b2 nb j => by
    have e3 := f3.1.2.2.2 b (by omega)
    rw [f4.2.2.2.2.2 b (by omega), f4.2.2.2.1, e3.1, e3.2.2]
    exact zz b b1 b2 j
  have fA : FrGr (fun b => 92 ≤ b) 33 136061 h0 h2 := fr.up (fun b z => by rcases z with z | z <;> omega)
  have fB : FrGr (fun b => 92 ≤ b) 0 0 h2 h4 := (FrS.gr f34).up (fun b z => by omega)
  refine Wp_ret ⟨fA.tr fB, s4, ⟨s4, by show 0 ≤ 1000; omega, fun k hk => absurd hk (Nat.not_lt_zero k), by rw [(l 92 (by omega) (by omega) (by omega) 1).1]; exact il0, fun k hk => absurd hk (Nat.not_lt_zero k)⟩, ⟨⟨fun i hi => by rw [f4.I (by omega)]; exact hs.1 i hi, fun i hi => by rw [f4.I (by omega)]; exact hs.2 i hi⟩, fun k hk => absurd hk (Nat.not_lt_zero k), fun k hk => absurd hk (Nat.not_lt_zero k)⟩, m4, ⟨by rw [(l 113 (by omega) (by omega) (by omega) 0).1]; exact il0, fun k hk => absurd hk (Nat.not_lt_zero k)⟩, ⟨by rw [(l 92 (by omega) (by omega) (by omega) 40).1]; exact il0, fun k hk => absurd hk (Nat.not_lt_zero k)⟩, fun i hi => ⟨(l 120 (by omega) (by omega) (by omega) i).2, fun q => Bool.noConfusion q⟩⟩
theorem g0_ok : GOK g0 := by
  refine ⟨H1_ok, ⟨Nat.zero_le _, Nat.zero_le _, fun i hi => absurd hi (Nat.not_lt_zero i)⟩, begM_ok H1_ok, ⟨Nat.zero_le _, fun i hi => absurd hi (Nat.not_lt_zero i)⟩, ⟨Nat.zero_le _, fun i hi => absurd hi (Nat.not_lt_zero i)⟩, fun i hi q => Bool.noConfusion q⟩
