/-! THE PURE PROOFS, 46: the reference reads how much a guest gets: its steps. -/
/-- on the reference's reading fields, the codes, and what stands open -/
def FrN (h h2 : PH) : Prop := FrS (fun b => b = 92 ∨ b = 100 ∨ b = 101 ∨ b = 102) h h2 ∧ (∀ a, a ≠ 102 → hZ h2 a = hZ h a) ∧ (∀ j, j ≠ 4 → j ≠ 5 → j ≠ 6 → j ≠ 8 → j ≠ 9 → j ≠ 31 → j ≠ 17 → hI h2 92 j = hI h 92 j) ∧ (∀ j, j ≠ 7 → hJ h2 92 j = hJ h 92 j) ∧ ∀ j, j < 1000 → hI h2 100 j = hI h 100 j
theorem FrN.rf {h : PH} : FrN h h := ⟨FrS.rf, fun _ _ => rfl, fun _ _ _ _ _ _ _ _ => rfl, fun _ _ => rfl, fun _ _ => rfl⟩
theorem FrN.tr {h h1 h2 : PH} (a : FrN h h1) (b : FrN h1 h2) : FrN h h2 := ⟨a.1.tr b.1, fun j x => (b.2.1 j x).trans (a.2.1 j x), fun j x y z u v w t => (b.2.2.1 j x y z u v w t).trans (a.2.2.1 j x y z u v w t), fun j x => (b.2.2.2.1 j x).trans (a.2.2.2.1 j x), fun j x => (b.2.2.2.2 j x).trans (a.2.2.2.2 j x)⟩
theorem FrY.n {h h2 : PH} (f : FrY h h2) : FrN h h2 := ⟨f.1.up (fun b e => Or.inl e), fun a _ => by rw [f.2.1], fun j x y z u v w _ => f.2.2.1 j x y z u v w, f.2.2.2, fun j _ => f.1.I (by omega) j⟩
theorem FrN.w {h0 h : PH} {a i : Nat} {v : Int32} (f : FrN h0 h) (ha : (a = 92 ∧ i = 17) ∨ (a = 100 ∧ 1000 ≤ i) ∨ a = 101) : FrN h0 (wI h a i v) := f.tr ⟨FrS.rf.aI (by omega), fun _ _ => rfl, fun j _ _ _ _ _ _ _ => by rw [hI_wI, if_neg (by omega)], fun j _ => by rw [hJ_wI], fun j _ => by rw [hI_wI, if_neg (by omega)]⟩
theorem FrN.tx {T : Nat → Int} {L : Nat} {h h2 : PH} (f : FrN h h2) (x : TxM T L h) : TxM T L h2 := x.fr f.1 (by omega) (f.2.2.1 3 (by omega) (by omega) (by omega) (by omega) (by omega) (by omega) (by omega))
/-- the codes read so far -/
def CdM (cs : List Int) (h : PH) : Prop := hI h 92 17 = iv ((1000 + cs.length : Nat) : Int) ∧ AtMl cs 1000 h
theorem CdM.y {cs : List Int} {h h2 : PH} (x : CdM cs h) (f : FrY h h2) : CdM cs h2 := ⟨(f.2.2.1 17 (by omega) (by omega) (by omega) (by omega) (by omega) (by omega)).trans x.1, fun i hi => (f.1.I (by omega) _).trans (x.2 i hi)⟩
theorem putsM {N : Nat} {T : Nat → Int} {L p : Nat} {cs : List Int} {v : Int} {h : PH} (s : Shp h) (l : LexM T L p h) (c : CdM cs h) (hc : cs.length < 1000) : Wp (Mo_puts N 92 (iv v) h) (fun _ h2 => FrN h h2 ∧ LexM T L p h2 ∧ CdM (cs ++ [v]) h2 ∧ hI h2 101 = hI h 101 ∧ hZ h2 = hZ h) := by
  unfold Mo_puts
  refine Wp_ck (by rw [k92 s]) (Wp_bn (p92_16 s) (Wp_ck (by rw [k100 s]) ?_))
  rw [c.1, ix_nat (by omega)]
  refine Wp_ck (by rw [k100 s]; exact inb_iv (by omega) (by omega) (by omega)) (Wp_lt (Wp_ltr ⟨(FrN.rf.w (by omega)).w (by omega), (l.w (by omega)).w (by omega), ⟨?_, fun i hi => ?_⟩, ?_, rfl⟩))
  · rw [hI_wI, if_pos ⟨rfl, rfl⟩, hI_wI, if_neg (by omega), c.1, il1, iv_add, List.length_append, List.length_singleton]
    congr 1
  · rw [List.length_append, List.length_singleton] at hi
    rw [hI_wI, if_neg (by omega), hI_wI]
    by_cases e : i = cs.length
    · rw [if_pos ⟨rfl, by omega⟩, e]
      simp
    · rw [if_neg (by omega), c.2 i (by omega), List.getD_eq_getElem?_getD, List.getD_eq_getElem?_getD, List.getElem?_append_left (by omega)]
  · funext i
    rw [hI_wI, if_neg (by omega), hI_wI, if_neg (by omega)]
/-- which fact the token is; 0: none -/
def tFc (T : Nat → Int) (L p : Nat) : Int := if 23 ≤ tWx T L p then tWx T L p - 22 else 0
theorem factM {N : Nat} {T : Nat → Int} {L p : Nat} {h : PH} (x : TxM T L h) (s : LexM T L p h) : Mo_fact N 92 h = some (iv (tFc T L p), h) := by
  have cb := tCd_b (T := T) (L := L) (p := p)
  have ci := (tCd_iff (T := T) (L := L) (p := p)).2.1
  have wb := tWx_b (T := T) (L := L) (p := p)
  have kl := K27_lits
  unfold Mo_fact tFc
  rw [ck_p (by rw [k92 x.1]), s.2.2.1]
  simp only [show (iv (tCd T L p) = 1) ↔ tCd T L p = 1 from by rw [il1, iv_eq (by omega) (by omega) (by omega) (by omega)]]
  by_cases c : tKd T L p = 2
  · rw [if_pos (ci.mpr c), s.2.2.2.1 c]
    have one : ∀ i, i < 28 → ∀ w : Int64, w = jv (K27 i) → ((lg_cmp (jv (tW 27 T L p)) w = 0) ↔ tWx T L p = i) := by
      intro i hi w hw
      have k2 := tKd_2.mp c
      have b1 := en_b (b := 27) (by omega) (tSz T L p) k2.2.2 (tLf_dgt k2.1 k2.2.1)
      have b2 := en_b (b := 27) (by omega) (f := wf i) (wn i) (by have : ∀ i, i < 28 → wn i ≤ 8 := by decide +kernel
                                                                  exact this i hi) (wf_dgt i hi)
      have b3 : 0 ≤ tW 27 T L p ∧ tW 27 T L p < 1099511627776 := b1
      have b4 : 0 ≤ K27 i ∧ K27 i < 1099511627776 := b2
      rw [hw, lg_cmp_eq, jv_eq (by omega) (by omega) (by omega) (by omega)]
      exact ⟨fun z => (tWx_iff hi).mpr ⟨c, z⟩, fun z => ((tWx_iff hi).mp z).2⟩
    have o23 := one 23 (by omega) 7966953928 (by rw [kl.2.2.2.2.2.2.2.2.2.2.2.2.2.2.2.2.2.2.2.2.2.2.2.1]; exact jv_lit _)
    have o24 := one 24 (by omega) 7055522852 (by rw [kl.2.2.2.2.2.2.2.2.2.2.2.2.2.2.2.2.2.2.2.2.2.2.2.2.1]; exact jv_lit _)
    have o25 := one 25 (by omega) 400577 (by rw [kl.2.2.2.2.2.2.2.2.2.2.2.2.2.2.2.2.2.2.2.2.2.2.2.2.2.1]; exact jv_lit _)
    have o26 := one 26 (by omega) 358472 (by rw [kl.2.2.2.2.2.2.2.2.2.2.2.2.2.2.2.2.2.2.2.2.2.2.2.2.2.2.1]; exact jv_lit _)
    have o27 := one 27 (by omega) 161600 (by rw [kl.2.2.2.2.2.2.2.2.2.2.2.2.2.2.2.2.2.2.2.2.2.2.2.2.2.2.2]; exact jv_lit _)
    simp only [o23, o24, o25, o26, o27]
    by_cases e23 : tWx T L p = (23 : Nat)
    · rw [if_pos e23, e23]; rfl
    by_cases e24 : tWx T L p = (24 : Nat)
    · rw [if_neg e23, if_pos e24, e24]; rfl
    by_cases e25 : tWx T L p = (25 : Nat)
    · rw [if_neg e23, if_neg e24, if_pos e25, e25]; rfl
    by_cases e26 : tWx T L p = (26 : Nat)
    · rw [if_neg e23, if_neg e24, if_neg e25, if_pos e26, e26]; rfl
    by_cases e27 : tWx T L p = (27 : Nat)
    · rw [if_neg e23, if_neg e24, if_neg e25, if_neg e26, if_pos e27, e27]; rfl
    rw [if_neg e23, if_neg e24, if_neg e25, if_neg e26, if_neg e27, if_neg (show ¬ 23 ≤ tWx T L p by omega), il0]
  · have w0 : tWx T L p = -1 := by unfold tWx; rw [if_neg c]
    rw [if_neg (fun z => c (ci.mp z)), if_neg (show ¬ 23 ≤ tWx T L p by omega), il0]
