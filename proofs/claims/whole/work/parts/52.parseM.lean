/-! THE PURE PROOFS, 30: reading on, the reference's way. -/
/-- on the reference's reading fields, with what was told and what was wrong -/
def FrY (h h2 : PH) : Prop := FrS (fun b => b = 92) h h2 ∧ hZ h2 = hZ h ∧ (∀ j, j ≠ 4 → j ≠ 5 → j ≠ 6 → j ≠ 8 → j ≠ 9 → j ≠ 31 → hI h2 92 j = hI h 92 j) ∧ ∀ j, j ≠ 7 → hJ h2 92 j = hJ h 92 j
theorem FrY.rf {h : PH} : FrY h h := ⟨FrS.rf, rfl, fun _ _ _ _ _ _ _ => rfl, fun _ _ => rfl⟩
theorem FrY.tr {h h1 h2 : PH} (a : FrY h h1) (b : FrY h1 h2) : FrY h h2 := ⟨a.1.tr b.1, b.2.1.trans a.2.1, fun j x y z u v w => (b.2.2.1 j x y z u v w).trans (a.2.2.1 j x y z u v w), fun j x => (b.2.2.2 j x).trans (a.2.2.2 j x)⟩
theorem FrX.y {h h2 : PH} (f : FrX h h2) : FrY h h2 := ⟨f.1, f.2.1, fun j x y z u _ _ => f.2.2.1 j x y z u, f.2.2.2⟩
theorem FrY.w {h0 h : PH} {i : Nat} {v : Int32} (f : FrY h0 h) (hi : i = 9 ∨ i = 31) : FrY h0 (wI h 92 i v) := f.tr ⟨FrS.rf.i1, rfl, fun j _ _ _ _ _ _ => by rw [hI_wI, if_neg (by omega)], fun j _ => by rw [hJ_wI]⟩
theorem FrY.tx {T : Nat → Int} {L : Nat} {h h2 : PH} (f : FrY h h2) (x : TxM T L h) : TxM T L h2 := x.fr f.1 (by omega) (f.2.2.1 3 (by omega) (by omega) (by omega) (by omega) (by omega) (by omega))
theorem LexM.w {T : Nat → Int} {L p : Nat} {h : PH} (s : LexM T L p h) {a i : Nat} {v : Int32} (ha : a ≠ 92 ∨ (i ≠ 4 ∧ i ≠ 5 ∧ i ≠ 6 ∧ i ≠ 8)) : LexM T L p (wI h a i v) := by
  obtain ⟨a1, a2, a3, a4, a5⟩ := s
  refine ⟨?_, ?_, ?_, fun c => ?_, fun c => ?_⟩
  · rw [hI_wI, if_neg (by omega), a1]
  · rw [hI_wI, if_neg (by omega), a2]
  · rw [hI_wI, if_neg (by omega), a3]
  · rw [hJ_wI]; exact a4 c
  · rw [hI_wI, if_neg (by omega)]; exact a5 c
/-- what a reading of the reference's answers, and where it stands -/
def GdM (T : Nat → Int) (L : Nat) (r : Int ⊕ Nat) (v : Bool) (h : PH) : Prop := match r with
  | .inl f => v = false ∧ hI h 92 9 = iv f ∧ 0 < f ∧ f < 1048576
  | .inr p => v = true ∧ LexM T L p h ∧ p ≤ L
theorem tCd_b {T : Nat → Int} {L p : Nat} : 0 ≤ tCd T L p ∧ tCd T L p ≤ 4 := by
  unfold tCd
  repeat' split
  all_goals omega
theorem tCd_3 {T : Nat → Int} {L p : Nat} (h : tCd T L p = 3) : tB T L p < L ∧ tKd T L p = T (tB T L p) ∧ 40 ≤ tKd T L p := by
  unfold tCd at h
  split at h
  · omega
  · split at h
    · omega
    · split at h
      · omega
      · split at h
        · omega
        · next a b c d =>
          unfold tKd at a b c d ⊢
          split at a
          · omega
          · next z =>
            split at a
            · split at a <;> simp_all
            · split at a
              · split at a <;> simp_all
              · split at a
                · next z3 =>
                  unfold isSg at z3
                  rw [decide_eq_true_iff] at z3
                  rw [if_neg z, if_neg (by assumption), if_neg (by assumption), if_pos (by unfold isSg; rw [decide_eq_true_iff]; exact z3)]
                  omega
                · simp_all
theorem tCd_iff {T : Nat → Int} {L p : Nat} : (tCd T L p = 0 ↔ tKd T L p = 3) ∧ (tCd T L p = 1 ↔ tKd T L p = 2) ∧ (tCd T L p = 2 ↔ tKd T L p = 1) ∧ (4 ≤ tKd T L p → tCd T L p = 3) := by
  unfold tCd
  refine ⟨?_, ?_, ?_, ?_⟩
  all_goals repeat' split
  all_goals omega
theorem nextR {N : Nat} {T : Nat → Int} {L p : Nat} {h : PH} (hN : 1100 ≤ N) (x : TxM T L h) (s : LexM T L p h) (hp : p ≤ L) : Wp (Mo_nextToken N 92 h) (fun _ h2 => FrX h h2 ∧ LexM T L (tE T L p) h2) := nextM hN x (tE_le hp) s.2.1
theorem failM {N : Nat} {T : Nat → Int} {L p : Nat} {h : PH} {k : Int} (x : TxM T L h) (s : LexM T L p h) : Mo_fails N 92 (iv k) h = some (false, wI h 92 9 (iv (k + 16 * (tB T L p : Nat)))) := by
  unfold Mo_fails
  rw [ck_p (by rw [k92 x.1]), s.1, show (16 : Int32) = iv 16 from iv_lit _, iv_mul, iv_add]
  rfl
/-- a fault -/
theorem failR {N : Nat} {T : Nat → Int} {L p : Nat} {h : PH} {k : Int} {r : Int ⊕ Nat} (x : TxM T L h) (s : LexM T L p h) (hp : p ≤ L) (hk : 1 ≤ k ∧ k ≤ 5) (e : r = .inl (k + 16 * (tB T L p : Nat))) : Wp (Mo_fails N 92 (iv k) h) (fun v h2 => FrY h h2 ∧ GdM T L r v h2) := by
  rw [failM x s]
  refine Wp_ret ⟨FrY.rf.w (by omega), ?_⟩
  rw [e]
  exact ⟨rfl, by rw [hI_wI, if_pos ⟨rfl, rfl⟩], flt_b hp x.2.1 hk⟩
theorem isWordM {N : Nat} {T : Nat → Int} {L p i : Nat} {h : PH} {w : Int64} (x : TxM T L h) (s : LexM T L p h) (hi : i < 28) (hw : w = jv (K27 i)) : Mo_isWord N 92 w h = some (decide (tWx T L p = i), h) := by
  have cb := tCd_b (T := T) (L := L) (p := p)
  have ci := (tCd_iff (T := T) (L := L) (p := p)).2.1
  unfold Mo_isWord
  rw [ck_p (by rw [k92 x.1]), s.2.2.1, il1]
  simp only [show (iv (tCd T L p) = iv 1) ↔ tCd T L p = 1 from iv_eq (by omega) (by omega) (by omega) (by omega)]
  by_cases c : tKd T L p = 2
  · have k2 := tKd_2.mp c
    have b1 := en_b (b := 27) (by omega) (tSz T L p) k2.2.2 (tLf_dgt k2.1 k2.2.1)
    have b2 := en_b (b := 27) (by omega) (f := wf i) (wn i) (by have : ∀ i, i < 28 → wn i ≤ 8 := by decide +kernel
                                                                exact this i hi) (wf_dgt i hi)
    have b3 : 0 ≤ tW 27 T L p ∧ tW 27 T L p < 1099511627776 := b1
    have b4 : 0 ≤ K27 i ∧ K27 i < 1099511627776 := b2
    rw [if_pos (ci.mpr c), s.2.2.2.1 c, hw]
    simp only [show (lg_cmp (jv (tW 27 T L p)) (jv (K27 i)) = 0) ↔ tW 27 T L p = K27 i from by rw [lg_cmp_eq, jv_eq (by omega) (by omega) (by omega) (by omega)]]
    by_cases c2 : tW 27 T L p = K27 i
    · rw [if_pos c2, decide_eq_true ((tWx_iff hi).mpr ⟨c, c2⟩)]
    · rw [if_neg c2, decide_eq_false (fun z => c2 ((tWx_iff hi).mp z).2)]
  · rw [if_neg (fun z => c (ci.mp z)), decide_eq_false (fun z => c ((tWx_iff hi).mp z).1)]
theorem needsWordM {N : Nat} {T : Nat → Int} {L p i : Nat} {h : PH} {w : Int64} (hN : 1100 ≤ N) (x : TxM T L h) (s : LexM T L p h) (hp : p ≤ L) (hi : i < 28) (hw : w = jv (K27 i)) : Wp (Mo_needsWord N 92 w h) (fun v h2 => FrY h h2 ∧ GdM T L (keyR T L i (.inr p)) v h2 ∧ hI h2 92 31 = hI h 92 31) := by
  unfold Mo_needsWord keyR
  dsimp only
  refine Wp_ck (by rw [k92 x.1]) (Wp_bde (isWordM x s hi hw) ?_)
  simp only [bI_0]
  by_cases c : tWx T L p = i
  · rw [decide_eq_true c, if_pos c]
    refine Wp_ifn (by decide) (Wp_ck (by rw [k92 x.1]) (Wp_bd2 (nextR hN x s hp) ?_))
    rintro - h2 ⟨f2, l2⟩
    exact Wp_ret ⟨f2.y, ⟨rfl, l2, tE_le hp⟩, f2.2.2.1 31 (by omega) (by omega) (by omega) (by omega)⟩
  · rw [decide_eq_false c, if_neg c]
    refine Wp_ifp rfl (Wp_ck (by rw [k92 x.1]) ?_)
    rw [il1]
    refine Wp_bde (failM x s) (Wp_ret ⟨FrY.rf.w (by omega), ⟨rfl, ?_, flt_b hp x.2.1 (by omega)⟩, ?_⟩)
    · rw [hI_wI, if_pos ⟨rfl, rfl⟩]
    · rw [hI_wI, if_neg (by omega)]
theorem needsNumM {N : Nat} {T : Nat → Int} {L p : Nat} {h : PH} {lo hi : Int} (hN : 1100 ≤ N) (x : TxM T L h) (s : LexM T L p h) (hp : p ≤ L) (hl : -100000 ≤ lo ∧ lo ≤ 100000) (hh : -100000 ≤ hi ∧ hi ≤ 100000) : Wp (Mo_needsNumber N 92 (iv lo) (iv hi) h) (fun v h2 => FrY h h2 ∧ GdM T L (numP T L lo hi (.inr p)) v h2 ∧ (v = true → hI h2 92 31 = iv (numZ T L lo hi (.inr p)) ∧ lo ≤ numZ T L lo hi (.inr p) ∧ numZ T L lo hi (.inr p) ≤ hi)) := by
  have cb := tCd_b (T := T) (L := L) (p := p)
  have ci := (tCd_iff (T := T) (L := L) (p := p)).2.2.1
  unfold Mo_needsNumber numP numZ
  dsimp only
  refine Wp_ck (by rw [k92 x.1]) ?_
  rw [s.2.2.1, il2, il1, il4]
  refine Wp_if (fun c => ?_) (fun c => ?_)
  · rw [iv_eq (by omega) (by omega) (by omega) (by omega)] at c
    have k1 := ci.mp c
    have nb := tNm_b k1
    rw [s.2.2.2.2 k1, if_pos k1]
    have wi : Mo_within N (iv (tNm T L p)) (iv lo) (iv hi) h = some (decide (lo ≤ tNm T L p ∧ tNm T L p ≤ hi), h) := by
      unfold Mo_within
      simp only [show (iv (tNm T L p) < iv lo) ↔ tNm T L p < lo from iv_lt (by omega) (by omega) (by omega) (by omega), show (iv hi < iv (tNm T L p)) ↔ hi < tNm T L p from iv_lt (by omega) (by omega) (by omega) (by omega)]
      by_cases c2 : tNm T L p < lo
      · rw [if_pos c2, decide_eq_false (by omega)]
      · rw [if_neg c2]
        by_cases c3 : hi < tNm T L p
        · rw [if_pos c3, decide_eq_false (by omega)]
        · rw [if_neg c3, decide_eq_true (by omega)]
    refine Wp_bde wi ?_
    simp only [bI_0]
    by_cases c2 : lo ≤ tNm T L p ∧ tNm T L p ≤ hi
    · rw [decide_eq_true c2, if_pos c2, if_pos (And.intro k1 c2)]
      refine Wp_ifn (by decide) (Wp_ck (by rw [k92 x.1]) (Wp_lt ?_))
      rw [s.2.2.2.2 k1]
      have f1 : FrY h (wI h 92 31 (iv (tNm T L p))) := FrY.rf.w (by omega)
      refine Wp_bd2 (nextR hN (f1.tx x) (s.w (by omega)) hp) ?_
      rintro - h2 ⟨f2, l2⟩
      refine Wp_ret ⟨f1.tr f2.y, ⟨rfl, l2, tE_le hp⟩, fun _ => ⟨?_, c2⟩⟩
      rw [f2.2.2.1 31 (by omega) (by omega) (by omega) (by omega), hI_wI, if_pos ⟨rfl, rfl⟩]
    · rw [decide_eq_false c2, if_neg c2]
      refine Wp_ifp rfl (Wp_ck (by rw [k92 x.1]) (Wp_bde (failM x s) (Wp_ret ⟨FrY.rf.w (by omega), ⟨rfl, ?_, flt_b hp x.2.1 (by omega)⟩, fun e => by cases e⟩)))
      rw [hI_wI, if_pos ⟨rfl, rfl⟩]
  · rw [iv_eq (by omega) (by omega) (by omega) (by omega)] at c
    have k1 : tKd T L p ≠ 1 := fun z => c (ci.mpr z)
    rw [if_neg k1]
    refine Wp_bde (failM x s) (Wp_ret ⟨FrY.rf.w (by omega), ⟨rfl, ?_, flt_b hp x.2.1 (by omega)⟩, fun e => by cases e⟩)
    rw [hI_wI, if_pos ⟨rfl, rfl⟩]
theorem isSignM {N : Nat} {T : Nat → Int} {L p : Nat} {h : PH} {c : Int} (x : TxM T L h) (s : LexM T L p h) (hc : 4 ≤ c ∧ c ≤ 126) : Mo_isSign N 92 (iv c) h = some (decide (tKd T L p = c), h) := by
  have cb := tCd_b (T := T) (L := L) (p := p)
  have ci := (tCd_iff (T := T) (L := L) (p := p)).2.2.2
  have hL := x.2.1
  unfold Mo_isSign
  rw [ck_p (by rw [k92 x.1]), s.2.2.1, il3]
  simp only [show (iv (tCd T L p) = iv 3) ↔ tCd T L p = 3 from iv_eq (by omega) (by omega) (by omega) (by omega)]
  by_cases d : tCd T L p = 3
  · obtain ⟨d1, d2, d3⟩ := tCd_3 d
    have ok := x.2.2.1 _ d1
    rw [if_pos d, p92_2 x.1, bn_s, ck_p (by rw [k93 x.1]), k93 x.1, s.1, ix_nat (by omega), ck_p (inb_iv (by omega) (by omega) (by omega)), x.2.2.2.2 _ d1, ← d2]
    simp only [show (iv (tKd T L p) = iv c) ↔ tKd T L p = c from iv_eq (by omega) (by omega) (by omega) (by omega)]
    by_cases e : tKd T L p = c
    · rw [if_pos e, decide_eq_true e]
    · rw [if_neg e, decide_eq_false e]
  · rw [if_neg d, decide_eq_false (fun z => d (ci (by omega)))]
theorem closesM {N : Nat} {T : Nat → Int} {L p : Nat} {h : PH} (hN : 1100 ≤ N) (x : TxM T L h) (s : LexM T L p h) (hp : p ≤ L) : Wp (Mo_closes N 92 h) (fun v h2 => FrY h h2 ∧ GdM T L (sgnR T L 59 (.inr p)) v h2) := by
  unfold Mo_closes sgnR
  dsimp only
  rw [show (59 : Int32) = iv 59 from iv_lit _]
  refine Wp_ck (by rw [k92 x.1]) (Wp_bde (isSignM x s (by omega)) ?_)
  simp only [bI_0]
  by_cases c : tKd T L p = 59
  · rw [decide_eq_true c, if_pos c]
    refine Wp_ifn (by decide) (Wp_ck (by rw [k92 x.1]) (Wp_bd2 (nextR hN x s hp) ?_))
    rintro - h2 ⟨f2, l2⟩
    exact Wp_ret ⟨f2.y, ⟨rfl, l2, tE_le hp⟩⟩
  · rw [decide_eq_false c, if_neg c]
    refine Wp_ifp rfl (Wp_ck (by rw [k92 x.1]) ?_)
    rw [il1]
    refine Wp_bde (failM x s) (Wp_ret ⟨FrY.rf.w (by omega), ⟨rfl, ?_, flt_b hp x.2.1 (by omega)⟩⟩)
    rw [hI_wI, if_pos ⟨rfl, rfl⟩]
