/-! THE PURE PROOFS, 48: the reference reads a part. -/
def RPt (N : Nat) (T : Nat → Int) (L n d : Nat) : Prop := ∀ (p fuel : Nat) (h : PH) (cs : List Int) (c : Nat) (Q : Bool → PH → Prop), TxM T L h → LexM T L p h → p ≤ L → CdM cs h → cs.length + c ≤ p → L + 2 ≤ fuel + p →
  (∀ f, ptR T L n d p = .inl f → ∀ h2, FrN h h2 → hI h2 92 9 = iv f → 0 < f ∧ f < 1048576 → Q false h2) →
  (∀ p2 e, ptR T L n d p = .inr (p2, e) → ∀ h2 fuel2, FrN h h2 → LexM T L p2 h2 → p2 ≤ L → CdM (cs ++ infx e) h2 → (cs ++ infx e).length + c ≤ p2 → L + 2 ≤ fuel2 + p2 → (∀ i, i ≤ d → hI h2 101 i = hI h 101 i ∧ hZ h2 102 i = hZ h 102 i) → Wp (Mo_reads_b11 N fuel2 92 (iv (pdn (hI h 101) d : Nat)) 0 h2) Q) →
  Wp (Mo_reads_b11 N fuel 92 (iv d) 1 h) Q
/-- behind all: what the token is not -/
def Bhd (T : Nat → Int) (L p d : Nat) (h : PH) : Prop := tKd T L p ≠ 42 ∧ tKd T L p ≠ 43 ∧ tKd T L p ≠ 45 ∧ tWx T L p ≠ 21 ∧ tWx T L p ≠ 22 ∧ (tKd T L p = 60 ∨ tKd T L p = 61 → hZ h 102 d = true)
def REi (N : Nat) (T : Nat → Int) (L n d : Nat) : Prop := ∀ (p fuel : Nat) (h : PH) (cs : List Int) (c : Nat) (Q : Bool → PH → Prop), TxM T L h → LexM T L p h → p ≤ L → CdM cs h → cs.length + c ≤ p → L + 2 ≤ fuel + p → (d = 0 ∨ ¬ hI h 101 d = 1) → hZ h 102 d = false →
  (∀ f, orR T L (ptR T L n) d p = .inl f → ∀ h2, FrN h h2 → hI h2 92 9 = iv f → 0 < f ∧ f < 1048576 → Q false h2) →
  (∀ p2 e, orR T L (ptR T L n) d p = .inr (p2, e) → ∀ h2 fuel2, FrN h h2 → LexM T L p2 h2 → p2 ≤ L → CdM (cs ++ infx e) h2 → (cs ++ infx e).length + c ≤ p2 → L + 2 ≤ fuel2 + p2 → Bhd T L p2 d h2 → (∀ i, i ≤ d → hI h2 101 i = hI h 101 i) → (∀ i, i < d → hZ h2 102 i = hZ h 102 i) → Wp (Mo_reads_b11 N fuel2 92 (iv d) 0 h2) Q) →
  Wp (Mo_reads_b11 N fuel 92 (iv d) 1 h) Q
theorem partR {N : Nat} {T : Nat → Int} {L n d : Nat} (hN : 1100 ≤ N) (hd : d ≤ 5) (ih : d < 5 → RPt N T L n (d + 1)) (close : ∀ (p fuel : Nat) (h : PH) (cs : List Int) (c : Nat) (Q : Bool → PH → Prop), d < 5 → tKd T L p = 40 → TxM T L h → LexM T L p h → p ≤ L → CdM cs h → cs.length + c ≤ p → L + 1 ≤ fuel + p →
  (∀ f, ptR T L (n + 1) d p = .inl f → ∀ h2, FrN h h2 → hI h2 92 9 = iv f → 0 < f ∧ f < 1048576 → Q false h2) →
  (∀ p2 e, ptR T L (n + 1) d p = .inr (p2, e) → ∀ h2 fuel2, FrN h h2 → LexM T L p2 h2 → p2 ≤ L → CdM (cs ++ infx e) h2 → (cs ++ infx e).length + c ≤ p2 → L + 2 ≤ fuel2 + p2 → (∀ i, i ≤ d → hI h2 101 i = hI h 101 i ∧ hZ h2 102 i = hZ h 102 i) → Wp (Mo_reads_b11 N fuel2 92 (iv (pdn (hI h 101) d : Nat)) 0 h2) Q) →
  Wp (Mo_reads_b86 N (Mo_reads_b11 N fuel) 92 (iv d) 1 0 h) Q) : RPt N T L (n + 1) d := by
  intro p fuel h cs c Q x l hp cd hs hf kf kg
  obtain ⟨fu, rfl⟩ : ∃ g, fuel = g + 1 := ⟨fuel - 1, by omega⟩
  have s := x.1
  have hL := x.2.1
  have kb := kd_b (p := p) x.2.2.1
  have wb := tWx_b (T := T) (L := L) (p := p)
  have cb := tCd_b (T := T) (L := L) (p := p)
  have ci := tCd_iff (T := T) (L := L) (p := p)
  have kl := K27_lits
  have te := tE_le (T := T) hp
  -- too deep
  have deep : ∀ x3 x4 x5 : Int32, d = 5 → (tKd T L p = 1 ∨ 23 ≤ tWx T L p ∨ tWx T L p = 20 ∨ tKd T L p = 40) → Wp (Mo_reads_b65 N (Mo_reads_b11 N fu) 92 (iv d) 1 x3 x4 x5 h) Q := by
    intro x3 x4 x5 h5 ht
    unfold Mo_reads_b65
    rw [show (5 : Int32) = iv 5 from iv_lit _]
    refine Wp_ifp (by rw [iv_eq (by omega) (by omega) (by omega) (by omega)]; omega) (Wp_ck (by rw [k92 s]) (Wp_bde (failM x l) (Wp_ret ?_)))
    refine kf _ (by rw [ptR, if_neg (fun z => z ht), if_pos (by omega)]) _ (FrY.rf.w (by omega)).n (by rw [hI_wI, if_pos ⟨rfl, rfl⟩]) (flt_b hp hL (by omega))
  -- one code
  have leaf : ∀ (v : Int) (e : Ex), tKd T L p ≠ 3 → infx e = [v] → ptR T L (n + 1) d p = .inr (tE T L p, e) → Wp (Mo_reads_b147 N (Mo_reads_b11 N fu) 92 (iv v) 92 (iv d) h) Q := by
    intro v e k3 ie er
    have tg := tE_gt k3 hp
    unfold Mo_reads_b147
    refine Wp_ck (by rw [k92 s]) (Wp_bd2 (putsM s l cd (by omega)) ?_)
    rintro - h1 ⟨f1, l1, c1, e1, z1⟩
    have x1 := f1.tx x
    refine (popM (x2 := 0) hN x1 l1 hp d N (by omega) (by omega) ?_).1
    intro h2 f2 l2 e2
    rw [e1]
    refine kg _ e er h2 fu (f1.tr f2.n) l2 te ?_ ?_ (by omega) (fun i hi => ⟨by rw [e2, e1], by rw [f2.2.1, z1]⟩)
    · rw [ie]; exact c1.y f2
    · rw [ie, List.length_append, List.length_singleton]; omega
  rw [Mo_reads_b11]
  refine Wp_ifn (by decide) (Wp_ck (by rw [k92 s]) (Wp_bde (factM x l) (Wp_ck (by rw [k92 s]) (Wp_bde (isWordM (i := 20) x l (by omega) (by rw [kl.2.2.2.2.2.2.2.2.2.2.2.2.2.2.2.2.2.2.2.2.1]; exact jv_lit _)) (Wp_ck (by rw [k92 s]) ?_)))))
  rw [show (40 : Int32) = iv 40 from iv_lit _]
  refine Wp_bde (isSignM x l (by omega)) ?_
  by_cases k1 : tKd T L p = 1
  · have w1 : tWx T L p = -1 := by unfold tWx; rw [if_neg (by omega)]
    have nb := tNm_b k1
    rw [show tFc T L p = 0 from by unfold tFc; rw [if_neg (by omega)], decide_eq_false (show ¬ tWx T L p = ((20 : Nat) : Int) by omega), decide_eq_false (show ¬ tKd T L p = 40 by omega)]
    refine Wp_ifp (by decide) (Wp_ifp rfl (Wp_ifp rfl (Wp_ck (by rw [k92 s]) ?_)))
    rw [l.2.2.1, ci.2.2.1.mpr k1]
    refine Wp_ifp (by decide) ?_
    by_cases h5 : d = 5
    · exact deep _ _ _ h5 (Or.inl k1)
    unfold Mo_reads_b65
    refine Wp_ifn (by rw [show (5 : Int32) = iv 5 from iv_lit _, iv_eq (by omega) (by omega) (by omega) (by omega)]; omega) (Wp_ifp rfl (Wp_ifp rfl (Wp_ifp (by decide) (Wp_ck (by rw [k92 s]) ?_))))
    rw [l.2.2.2.2 k1, show (100 : Int32) = iv 100 from iv_lit _, iv_add]
    exact leaf _ (xnum (tNm T L p)) (by omega) rfl (by rw [ptR, if_neg (by omega), if_neg (by omega), if_pos k1])
  by_cases w23 : 23 ≤ tWx T L p
  · have k2 := tWx_kd (T := T) (L := L) (p := p) (by omega)
    rw [show tFc T L p = tWx T L p - 22 from by unfold tFc; rw [if_pos w23], decide_eq_false (show ¬ tWx T L p = ((20 : Nat) : Int) by omega), decide_eq_false (show ¬ tKd T L p = 40 by omega)]
    refine Wp_ifn (by rw [il0, iv_eq (by omega) (by omega) (by omega) (by omega)]; omega) ?_
    by_cases h5 : d = 5
    · exact deep _ _ _ h5 (Or.inr (Or.inl w23))
    unfold Mo_reads_b65
    refine Wp_ifn (by rw [show (5 : Int32) = iv 5 from iv_lit _, iv_eq (by omega) (by omega) (by omega) (by omega)]; omega) (Wp_ifp rfl (Wp_ifp rfl (Wp_ifn (by rw [il0, iv_le (by omega) (by omega) (by omega) (by omega)]; omega) ?_)))
    exact leaf _ (xfct (tWx T L p - 22)) (by omega) rfl (by rw [ptR, if_neg (by omega), if_neg (by omega), if_neg k1, if_pos w23])
  rw [show tFc T L p = 0 from by unfold tFc; rw [if_neg w23]]
  refine Wp_ifp (by decide) ?_
  by_cases w20 : tWx T L p = ((20 : Nat) : Int)
  · have k2 := tWx_kd (T := T) (L := L) (p := p) (by omega)
    have tg := tE_gt (T := T) (L := L) (p := p) (by omega) hp
    rw [decide_eq_true w20, decide_eq_false (show ¬ tKd T L p = 40 by omega)]
    refine Wp_ifn (by decide) ?_
    by_cases h5 : d = 5
    · exact deep _ _ _ h5 (Or.inr (Or.inr (Or.inl w20)))
    have er : ptR T L (n + 1) d p = pbd (ptR T L n (d + 1) (tE T L p)) fun p2 e => .inr (p2, xno e) := by
      rw [ptR, if_neg (by omega), if_neg (by omega), if_neg k1, if_neg w23, if_pos (show tWx T L p = 20 from w20)]
    unfold Mo_reads_b65
    refine Wp_ifn (by rw [show (5 : Int32) = iv 5 from iv_lit _, iv_eq (by omega) (by omega) (by omega) (by omega)]; omega) (Wp_ifn (by decide) ?_)
    refine openR hN x l hp cd (by omega) (by omega) ?_
    intro h2 f2 x2 l2 c2 o2 z2 kp
    rw [if_neg (by decide)] at c2 o2
    refine ih (by omega) _ fu h2 (cs ++ [30]) c Q x2 l2 te c2 (by rw [List.length_append, List.length_singleton]; omega) (by omega) ?_ ?_
    · intro f ef h3 f3 w3 fb
      exact kf f (by rw [er, ef]; rfl) h3 (f2.tr f3) w3 fb
    · intro p2 e ee h3 fuel2 f3 l3 hp3 c3 hs3 hf3 kp3
      have ea : cs ++ infx (xno e) = cs ++ [30] ++ infx e := by
        show cs ++ 30 :: infx e = _
        simp
      have pe : pdn (hI h2 101) (d + 1) = pdn (hI h 101) d := by
        rw [pdn, if_pos o2]
        exact pdn_ext d (fun i hi => (kp i hi).1)
      have r := kg p2 (xno e) (by rw [er, ee]; rfl) h3 fuel2 (f2.tr f3) l3 hp3 (by rw [ea]; exact c3) (by rw [ea]; exact hs3) hf3 (fun i hi => ⟨(kp3 i (by omega)).1.trans (kp i hi).1, (kp3 i (by omega)).2.trans (kp i hi).2⟩)
      rw [pe]
      exact r
  rw [decide_eq_false w20]
  refine Wp_ifp rfl ?_
  by_cases k40 : tKd T L p = 40
  · have tg := tE_gt (T := T) (L := L) (p := p) (by omega) hp
    rw [decide_eq_true k40]
    refine Wp_ifn (by decide) ?_
    by_cases h5 : d = 5
    · exact deep _ _ _ h5 (Or.inr (Or.inr (Or.inr k40)))
    unfold Mo_reads_b65
    refine Wp_ifn (by rw [show (5 : Int32) = iv 5 from iv_lit _, iv_eq (by omega) (by omega) (by omega) (by omega)]; omega) (Wp_ifp rfl (Wp_ifn (by decide) ?_))
    exact close p fu h cs c Q (by omega) k40 x l hp cd hs (by omega) kf kg
  rw [decide_eq_false k40]
  refine Wp_ifp rfl (Wp_ck (by rw [k92 s]) ?_)
  rw [l.2.2.1]
  refine Wp_ifn (by rw [show (2 : Int32) = iv 2 from iv_lit _, iv_eq (by omega) (by omega) (by omega) (by omega)]; exact fun z => k1 (ci.2.2.1.mp z)) ?_
  rw [show (1 : Int32) = iv 1 from iv_lit _]
  refine Wp_bde (failM x l) (Wp_ret ?_)
  refine kf _ (by rw [ptR, if_pos (by omega)]) _ (FrY.rf.w (by omega)).n (by rw [hI_wI, if_pos ⟨rfl, rfl⟩]) (flt_b hp hL (by omega))
