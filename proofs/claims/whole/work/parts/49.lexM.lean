/-! THE PURE PROOFS, 27: the reference's text gives tokens. -/
def TxM (T : Nat → Int) (L : Nat) (h : PH) : Prop := Shp h ∧ L ≤ 1000 ∧ (∀ k, k < L → T k = 10 ∨ (32 ≤ T k ∧ T k ≤ 126)) ∧ hI h 92 3 = iv L ∧ (∀ k, k < L → hI h 93 k = iv (T k))
theorem TxM.fr {T : Nat → Int} {L : Nat} {S : Nat → Prop} {h h2 : PH} (x : TxM T L h) (f : FrS S h h2) (n93 : ¬ S 93) (e : hI h2 92 3 = hI h 92 3) : TxM T L h2 := ⟨f.shp x.1, x.2.1, x.2.2.1, e.trans x.2.2.2.1, fun k hk => (f.I n93 k).trans (x.2.2.2.2 k hk)⟩
/-- on the reference's reading fields alone -/
def FrX (h h2 : PH) : Prop := FrS (fun b => b = 92) h h2 ∧ hZ h2 = hZ h ∧ (∀ j, j ≠ 4 → j ≠ 5 → j ≠ 6 → j ≠ 8 → hI h2 92 j = hI h 92 j) ∧ ∀ j, j ≠ 7 → hJ h2 92 j = hJ h 92 j
theorem FrX.rf {h : PH} : FrX h h := ⟨FrS.rf, rfl, fun _ _ _ _ _ => rfl, fun _ _ => rfl⟩
theorem FrX.tr {h h1 h2 : PH} (a : FrX h h1) (b : FrX h1 h2) : FrX h h2 := ⟨a.1.tr b.1, b.2.1.trans a.2.1, fun j x y z u => (b.2.2.1 j x y z u).trans (a.2.2.1 j x y z u), fun j x => (b.2.2.2 j x).trans (a.2.2.2 j x)⟩
theorem FrX.w {h0 h : PH} {i : Nat} {v : Int32} (f : FrX h0 h) (hi : i = 4 ∨ i = 5 ∨ i = 6 ∨ i = 8) : FrX h0 (wI h 92 i v) := f.tr ⟨FrS.rf.i1, rfl, fun j _ _ _ _ => by rw [hI_wI, if_neg (by omega)], fun j _ => by rw [hJ_wI]⟩
theorem FrX.j {h0 h : PH} {v : Int64} (f : FrX h0 h) : FrX h0 (wJ h 92 7 v) := f.tr ⟨FrS.rf.j1, rfl, fun j _ _ _ _ => by rw [hI_wJ], fun j _ => by rw [hJ_wJ, if_neg (by omega)]⟩
theorem FrX.tx {T : Nat → Int} {L : Nat} {h h2 : PH} (f : FrX h h2) (x : TxM T L h) : TxM T L h2 := x.fr f.1 (by omega) (f.2.2.1 3 (by omega) (by omega) (by omega) (by omega))
theorem signM {N : Nat} {T : Nat → Int} {L : Nat} {h : PH} {k : Nat} (x : TxM T L h) (hk : k ≤ 2000) : Mo_signAt N 92 (iv k) h = some (iv (if k < L then T k else 0), h) := by
  obtain ⟨s, hL, ok, e1, sg⟩ := x
  unfold Mo_signAt
  rw [ck_p (by rw [k92 s]), e1]
  simp only [show (iv (L : Int) ≤ iv (k : Int)) ↔ (L : Int) ≤ k from iv_le (by omega) (by omega) (by omega) (by omega)]
  by_cases c : k < L
  · rw [if_neg (by omega), p92_2 s, bn_s, ck_p (by rw [k93 s]), k93 s, ix_nat (by omega), ck_p (inb_iv (by omega) (by omega) (by omega)), sg k c, if_pos c]
  · rw [if_pos (by omega), if_neg c, il0]
/-- the token's code, the reference's way -/
def tCd (T : Nat → Int) (L p : Nat) : Int := if tKd T L p = 3 then 0 else if tKd T L p = 2 then 1 else if tKd T L p = 1 then 2 else if tKd T L p = 0 then 4 else 3
def LexM (T : Nat → Int) (L p : Nat) (h : PH) : Prop := hI h 92 5 = iv (tB T L p : Nat) ∧ hI h 92 4 = iv (tE T L p : Nat) ∧ hI h 92 6 = iv (tCd T L p) ∧ (tKd T L p = 2 → hJ h 92 7 = jv (tW 27 T L p)) ∧ (tKd T L p = 1 → hI h 92 8 = iv (tNm T L p))
theorem lettersM {N : Nat} {T : Nat → Int} {L p : Nat} {h : PH} (hN : 1100 ≤ N) (x : TxM T L h) (hl : tB T L p < L) (hc : isLt (T (tB T L p)) = true) (e4 : hI h 92 4 = iv (tB T L p : Nat)) (e5 : hI h 92 5 = iv (tB T L p : Nat)) (e7 : hJ h 92 7 = jv 0) : Wp (Mo_nextToken_b109 N N 92 h) (fun _ h2 => FrX h h2 ∧ LexM T L p h2) := by
  have hL := x.2.1
  have kd : tKd T L p = if tSz T L p ≤ 8 then 2 else 0 := by unfold tKd; rw [if_neg (by omega), if_pos hc]
  have sz : tSz T L p = rnL isLt T L (tB T L p) := by unfold tSz; rw [if_neg (by omega), if_pos hc]
  have fin : ∀ h1, FrX h h1 → hI h1 92 5 = iv (tB T L p : Nat) → hI h1 92 4 = iv ((tB T L p + tSz T L p : Nat) : Int) → (tSz T L p ≤ 8 → hJ h1 92 7 = jv (tW 27 T L p)) → tSz T L p ≤ 2000 → Wp (Mo_nextToken_b188 N 92 h1) (fun _ h2 => FrX h h2 ∧ LexM T L p h2) := by
    intro h1 f1 e5 e4 e7 hsz
    have go : ∀ k : Int, k = (if tSz T L p ≤ 8 then 1 else 4) → Wp (Mo_nextToken_b208 N 92 (iv k) h1) (fun _ h2 => FrX h h2 ∧ LexM T L p h2) := by
      intro k hk
      unfold Mo_nextToken_b208
      refine Wp_ck (by rw [k92 (f1.tx x).1]) (Wp_ltr ⟨f1.w (by omega), ?_, ?_, ?_, fun z => ?_, fun z => ?_⟩)
      · rw [hI_wI, if_neg (by omega), e5]
      · rw [hI_wI, if_neg (by omega), e4]; rfl
      · rw [hI_wI, if_pos ⟨rfl, rfl⟩, hk]
        unfold tCd
        rw [kd]
        by_cases c : tSz T L p ≤ 8
        · rw [if_pos c, if_pos c]; rfl
        · rw [if_neg c, if_neg c]; rfl
      · rw [hJ_wI]
        refine e7 ?_
        rw [kd] at z
        by_cases c : tSz T L p ≤ 8
        · exact c
        · rw [if_neg c] at z; omega
      · exfalso
        rw [kd] at z
        split at z <;> omega
    unfold Mo_nextToken_b188
    refine Wp_ck (by rw [k92 (f1.tx x).1]) ?_
    rw [e5, e4, il8, il1, il4, iv_sub]
    refine Wp_if (fun c => ?_) (fun c => ?_)
    · rw [iv_le (by omega) (by omega) (by omega) (by omega)] at c
      exact go 1 (by rw [if_pos (by omega)])
    · rw [iv_le (by omega) (by omega) (by omega) (by omega)] at c
      exact go 4 (by rw [if_neg (by omega)])
  have key : ∀ (m n : Nat) (h1 : PH), tB T L p + n + m = L → n + rnL isLt T L (tB T L p + n) = tSz T L p → FrX h h1 → hI h1 92 5 = iv (tB T L p : Nat) → hI h1 92 4 = iv ((tB T L p + n : Nat) : Int) → (n ≤ 8 → hJ h1 92 7 = jv (en 27 (tLf T L p) n)) → ∀ fuel, m < fuel → Wp (Mo_nextToken_b109 N fuel 92 h1) (fun _ h2 => FrX h h2 ∧ LexM T L p h2) := by
    intro m
    induction m with
    | zero =>
      intro n h1 e es f1 e5 e4 e7 fuel hf
      obtain ⟨fu, rfl⟩ : ∃ fu, fuel = fu + 1 := ⟨fuel - 1, by omega⟩
      have x1 := f1.tx x
      rw [rnL_stop (by omega)] at es
      have en' : n = tSz T L p := by omega
      rw [Mo_nextToken_b109]
      refine Wp_ck (by rw [k92 x1.1]) ?_
      rw [e4]
      refine Wp_bde (show Mo_signAt N 92 (iv ((tB T L p + n : Nat) : Int)) h1 = some (iv 0, h1) from by rw [signM x1 (by omega), if_neg (by omega)]) ?_
      rw [show (97 : Int32) = iv 97 from iv_lit _]
      refine Wp_ifp (by decide) ?_
      exact fin h1 f1 e5 (by rw [e4, en']) (fun c => by rw [e7 (by omega), en']; rfl) (by omega)
    | succ m ih =>
      intro n h1 e es f1 e5 e4 e7 fuel hf
      obtain ⟨fu, rfl⟩ : ∃ fu, fuel = fu + 1 := ⟨fuel - 1, by omega⟩
      have x1 := f1.tx x
      have ok := x.2.2.1 (tB T L p + n) (by omega)
      have sg : Mo_signAt N 92 (iv ((tB T L p + n : Nat) : Int)) h1 = some (iv (T (tB T L p + n)), h1) := by rw [signM x1 (by omega), if_pos (by omega)]
      rw [Mo_nextToken_b109]
      refine Wp_ck (by rw [k92 x1.1]) ?_
      rw [e4]
      refine Wp_bde sg ?_
      rw [il97, il122]
      have stop : isLt (T (tB T L p + n)) = false → Wp (Mo_nextToken_b188 N 92 h1) (fun _ h2 => FrX h h2 ∧ LexM T L p h2) := by
        intro c
        rw [rnL_stop (fun z => by rw [z.2] at c; cases c)] at es
        have en' : n = tSz T L p := by omega
        exact fin h1 f1 e5 (by rw [e4, en']) (fun c => by rw [e7 (by omega), en']; rfl) (by omega)
      refine Wp_if (fun c => ?_) (fun c => ?_)
      · rw [iv_lt (by omega) (by omega) (by omega) (by omega)] at c
        exact stop (by unfold isLt; rw [decide_eq_false_iff_not]; omega)
      · rw [iv_lt (by omega) (by omega) (by omega) (by omega)] at c
        refine Wp_ck (by rw [k92 x1.1]) (Wp_bde (by rw [e4]; exact sg) ?_)
        refine Wp_if (fun c2 => ?_) (fun c2 => ?_)
        · rw [iv_lt (by omega) (by omega) (by omega) (by omega)] at c2
          exact stop (by unfold isLt; rw [decide_eq_false_iff_not]; omega)
        · rw [iv_lt (by omega) (by omega) (by omega) (by omega)] at c2
          have c' : isLt (T (tB T L p + n)) = true := by unfold isLt; rw [decide_eq_true_iff]; omega
          rw [rnL_go ⟨by omega, c'⟩] at es
          have next : ∀ h3, FrX h h3 → hI h3 92 5 = iv (tB T L p : Nat) → hI h3 92 4 = iv ((tB T L p + n : Nat) : Int) → (n + 1 ≤ 8 → hJ h3 92 7 = jv (en 27 (tLf T L p) (n + 1))) → Wp (Mo_nextToken_b175 N (Mo_nextToken_b109 N fu) 92 h3) (fun _ h2 => FrX h h2 ∧ LexM T L p h2) := by
            intro h3 f3 g5 g4 g7
            unfold Mo_nextToken_b175
            refine Wp_ck (by rw [k92 (f3.tx x).1]) (Wp_lt ?_)
            rw [g4, il1, iv_add]
            refine ih (n + 1) _ (by omega) (by rw [show tB T L p + (n + 1) = tB T L p + n + 1 from by omega]; omega) (f3.w (by omega)) (by rw [hI_wI, if_neg (by omega), g5]) ?_ (fun c => by rw [hJ_wI]; exact g7 c) fu (by omega)
            rw [hI_wI, if_pos ⟨rfl, rfl⟩]
            rfl
          refine Wp_ck (by rw [k92 x1.1]) ?_
          rw [e4, e5, il8, iv_sub]
          refine Wp_if (fun c3 => ?_) (fun c3 => ?_)
          · rw [iv_le (by omega) (by omega) (by omega) (by omega)] at c3
            exact next h1 f1 e5 e4 (fun _ => by omega)
          · rw [iv_le (by omega) (by omega) (by omega) (by omega)] at c3
            refine Wp_bde sg (Wp_ck (by rw [k92 x1.1]) (Wp_lt ?_))
            rw [e7 (by omega), show (27 : Int64) = jv 27 from jv_lit _, show (96 : Int64) = jv 96 from jv_lit _, iv_wide (by omega) (by omega), jv_mul, jv_add, jv_sub]
            refine next _ f1.j e5 e4 (fun _ => ?_)
            rw [hJ_wJ, if_pos ⟨rfl, rfl⟩, en]
            unfold tLf
            congr 1
            omega
  exact key (L - tB T L p) 0 h (by omega) (by rw [sz]; simp) FrX.rf e5 e4 (fun _ => e7) N (by omega)
theorem digitsM {N : Nat} {T : Nat → Int} {L p : Nat} {h : PH} (hN : 1100 ≤ N) (x : TxM T L h) (hl : tB T L p < L) (hlt : isLt (T (tB T L p)) = false) (hc : isDg (T (tB T L p)) = true) (e4 : hI h 92 4 = iv (tB T L p : Nat)) (e5 : hI h 92 5 = iv (tB T L p : Nat)) (e8 : hI h 92 8 = iv 0) : Wp (Mo_nextToken_b224 N N 92 h) (fun _ h2 => FrX h h2 ∧ LexM T L p h2) := by
  have hL := x.2.1
  have kd : tKd T L p = if tSz T L p ≤ 4 then 1 else 0 := by unfold tKd; rw [if_neg (by omega), if_neg (by simp [hlt]), if_pos hc]
  have sz : tSz T L p = rnL isDg T L (tB T L p) := by unfold tSz; rw [if_neg (by omega), if_neg (by simp [hlt]), if_pos hc]
  have fin : ∀ h1, FrX h h1 → hI h1 92 5 = iv (tB T L p : Nat) → hI h1 92 4 = iv ((tB T L p + tSz T L p : Nat) : Int) → (tSz T L p ≤ 4 → hI h1 92 8 = iv (tNm T L p)) → tSz T L p ≤ 2000 → Wp (Mo_nextToken_b299 N 92 h1) (fun _ h2 => FrX h h2 ∧ LexM T L p h2) := by
    intro h1 f1 e5 e4 e7 hsz
    have go : ∀ k : Int, k = (if tSz T L p ≤ 4 then 2 else 4) → Wp (Mo_nextToken_b318 N 92 (iv k) h1) (fun _ h2 => FrX h h2 ∧ LexM T L p h2) := by
      intro k hk
      unfold Mo_nextToken_b318
      refine Wp_ck (by rw [k92 (f1.tx x).1]) (Wp_ltr ⟨f1.w (by omega), ?_, ?_, ?_, fun z => ?_, fun z => ?_⟩)
      · rw [hI_wI, if_neg (by omega), e5]
      · rw [hI_wI, if_neg (by omega), e4]; rfl
      · rw [hI_wI, if_pos ⟨rfl, rfl⟩, hk]
        unfold tCd
        rw [kd]
        by_cases c : tSz T L p ≤ 4
        · rw [if_pos c, if_pos c]; rfl
        · rw [if_neg c, if_neg c]; rfl
      · exfalso
        rw [kd] at z
        split at z <;> omega
      · rw [hI_wI, if_neg (by omega)]
        refine e7 ?_
        rw [kd] at z
        by_cases c : tSz T L p ≤ 4
        · exact c
        · rw [if_neg c] at z; omega
    unfold Mo_nextToken_b299
    refine Wp_ck (by rw [k92 (f1.tx x).1]) ?_
    rw [e5, e4, il2, il4, iv_sub]
    refine Wp_if (fun c => ?_) (fun c => ?_)
    · rw [iv_le (by omega) (by omega) (by omega) (by omega)] at c
      exact go 2 (by rw [if_pos (by omega)])
    · rw [iv_le (by omega) (by omega) (by omega) (by omega)] at c
      exact go 4 (by rw [if_neg (by omega)])
  have key : ∀ (m n : Nat) (h1 : PH), tB T L p + n + m = L → n + rnL isDg T L (tB T L p + n) = tSz T L p → FrX h h1 → hI h1 92 5 = iv (tB T L p : Nat) → hI h1 92 4 = iv ((tB T L p + n : Nat) : Int) → (n ≤ 4 → hI h1 92 8 = iv (dv (fun i => T (tB T L p + i)) n)) → ∀ fuel, m < fuel → Wp (Mo_nextToken_b224 N fuel 92 h1) (fun _ h2 => FrX h h2 ∧ LexM T L p h2) := by
    intro m
    induction m with
    | zero =>
      intro n h1 e es f1 e5 e4 e7 fuel hf
      obtain ⟨fu, rfl⟩ : ∃ fu, fuel = fu + 1 := ⟨fuel - 1, by omega⟩
      have x1 := f1.tx x
      rw [rnL_stop (by omega)] at es
      have en' : n = tSz T L p := by omega
      rw [Mo_nextToken_b224]
      refine Wp_ck (by rw [k92 x1.1]) ?_
      rw [e4]
      refine Wp_bde (show Mo_signAt N 92 (iv ((tB T L p + n : Nat) : Int)) h1 = some (iv 0, h1) from by rw [signM x1 (by omega), if_neg (by omega)]) ?_
      rw [il48]
      refine Wp_ifp (by decide) ?_
      exact fin h1 f1 e5 (by rw [e4, en']) (fun c => by rw [e7 (by omega), en']; rfl) (by omega)
    | succ m ih =>
      intro n h1 e es f1 e5 e4 e7 fuel hf
      obtain ⟨fu, rfl⟩ : ∃ fu, fuel = fu + 1 := ⟨fuel - 1, by omega⟩
      have x1 := f1.tx x
      have ok := x.2.2.1 (tB T L p + n) (by omega)
      have sg : Mo_signAt N 92 (iv ((tB T L p + n : Nat) : Int)) h1 = some (iv (T (tB T L p + n)), h1) := by rw [signM x1 (by omega), if_pos (by omega)]
      rw [Mo_nextToken_b224]
      refine Wp_ck (by rw [k92 x1.1]) ?_
      rw [e4]
      refine Wp_bde sg ?_
      rw [il48, show (57 : Int32) = iv 57 from iv_lit _]
      have stop : isDg (T (tB T L p + n)) = false → Wp (Mo_nextToken_b299 N 92 h1) (fun _ h2 => FrX h h2 ∧ LexM T L p h2) := by
        intro c
        rw [rnL_stop (fun z => by rw [z.2] at c; cases c)] at es
        have en' : n = tSz T L p := by omega
        exact fin h1 f1 e5 (by rw [e4, en']) (fun c => by rw [e7 (by omega), en']; rfl) (by omega)
      refine Wp_if (fun c => ?_) (fun c => ?_)
      · rw [iv_lt (by omega) (by omega) (by omega) (by omega)] at c
        exact stop (by unfold isDg; rw [decide_eq_false_iff_not]; omega)
      · rw [iv_lt (by omega) (by omega) (by omega) (by omega)] at c
        refine Wp_ck (by rw [k92 x1.1]) (Wp_bde (by rw [e4]; exact sg) ?_)
        refine Wp_if (fun c2 => ?_) (fun c2 => ?_)
        · rw [iv_lt (by omega) (by omega) (by omega) (by omega)] at c2
          exact stop (by unfold isDg; rw [decide_eq_false_iff_not]; omega)
        · rw [iv_lt (by omega) (by omega) (by omega) (by omega)] at c2
          have c' : isDg (T (tB T L p + n)) = true := by unfold isDg; rw [decide_eq_true_iff]; omega
          rw [rnL_go ⟨by omega, c'⟩] at es
          have next : ∀ h3, FrX h h3 → hI h3 92 5 = iv (tB T L p : Nat) → hI h3 92 4 = iv ((tB T L p + n : Nat) : Int) → (n + 1 ≤ 4 → hI h3 92 8 = iv (dv (fun i => T (tB T L p + i)) (n + 1))) → Wp (Mo_nextToken_b286 N (Mo_nextToken_b224 N fu) 92 h3) (fun _ h2 => FrX h h2 ∧ LexM T L p h2) := by
            intro h3 f3 g5 g4 g7
            unfold Mo_nextToken_b286
            refine Wp_ck (by rw [k92 (f3.tx x).1]) (Wp_lt ?_)
            rw [g4, il1, iv_add]
            refine ih (n + 1) _ (by omega) (by rw [show tB T L p + (n + 1) = tB T L p + n + 1 from by omega]; omega) (f3.w (by omega)) (by rw [hI_wI, if_neg (by omega), g5]) ?_ (fun c => by rw [hI_wI, if_neg (by omega)]; exact g7 c) fu (by omega)
            rw [hI_wI, if_pos ⟨rfl, rfl⟩]
            rfl
          refine Wp_ck (by rw [k92 x1.1]) ?_
          rw [e4, e5, il4, iv_sub]
          refine Wp_if (fun c3 => ?_) (fun c3 => ?_)
          · rw [iv_le (by omega) (by omega) (by omega) (by omega)] at c3
            exact next h1 f1 e5 e4 (fun _ => by omega)
          · rw [iv_le (by omega) (by omega) (by omega) (by omega)] at c3
            refine Wp_bde sg (Wp_ck (by rw [k92 x1.1]) (Wp_lt ?_))
            rw [e7 (by omega), il10, iv_mul, iv_add, iv_sub]
            refine next _ (f1.w (by omega)) (by rw [hI_wI, if_neg (by omega), e5]) (by rw [hI_wI, if_neg (by omega), e4]) (fun _ => ?_)
            rw [hI_wI, if_pos ⟨rfl, rfl⟩, dv]
  exact key (L - tB T L p) 0 h (by omega) (by rw [sz]; simp) FrX.rf e5 e4 (fun _ => e8) N (by omega)
theorem tokM {N : Nat} {T : Nat → Int} {L p : Nat} {h : PH} (hN : 1100 ≤ N) (x : TxM T L h) (hp : p ≤ L) (e4 : hI h 92 4 = iv (tB T L p : Nat)) : Wp (Mo_nextToken_b52 N 92 h) (fun _ h2 => FrX h h2 ∧ LexM T L p h2) := by
  have s := x.1
  have hL := x.2.1
  have tb := tB_le (T := T) hp
  unfold Mo_nextToken_b52
  refine Wp_ck (by rw [k92 s]) (Wp_lt (Wp_lt (Wp_lt ?_)))
  rw [e4, jl0, il0]
  have f2 : FrX h (wI (wJ (wI h 92 5 (iv (tB T L p : Nat))) 92 7 (jv 0)) 92 8 (iv 0)) := ((FrX.rf.w (by omega)).j).w (by omega)
  have q3 : hI (wI (wJ (wI h 92 5 (iv (tB T L p : Nat))) 92 7 (jv 0)) 92 8 (iv 0)) 92 3 = iv L := by rw [hI_wI, if_neg (by omega), hI_wJ, hI_wI, if_neg (by omega), x.2.2.2.1]
  have q4 : hI (wI (wJ (wI h 92 5 (iv (tB T L p : Nat))) 92 7 (jv 0)) 92 8 (iv 0)) 92 4 = iv (tB T L p : Nat) := by rw [hI_wI, if_neg (by omega), hI_wJ, hI_wI, if_neg (by omega), e4]
  have q5 : hI (wI (wJ (wI h 92 5 (iv (tB T L p : Nat))) 92 7 (jv 0)) 92 8 (iv 0)) 92 5 = iv (tB T L p : Nat) := by rw [hI_wI, if_neg (by omega), hI_wJ, hI_wI, if_pos ⟨rfl, rfl⟩]
  have q7 : hJ (wI (wJ (wI h 92 5 (iv (tB T L p : Nat))) 92 7 (jv 0)) 92 8 (iv 0)) 92 7 = jv 0 := by rw [hJ_wI, hJ_wJ, if_pos ⟨rfl, rfl⟩]
  have q8 : hI (wI (wJ (wI h 92 5 (iv (tB T L p : Nat))) 92 7 (jv 0)) 92 8 (iv 0)) 92 8 = iv 0 := by rw [hI_wI, if_pos ⟨rfl, rfl⟩]
  generalize (wI (wJ (wI h 92 5 (iv (tB T L p : Nat))) 92 7 (jv 0)) 92 8 (iv 0)) = h2 at f2 q3 q4 q5 q7 q8 ⊢
  have x2 := f2.tx x
  rw [q3, q4]
  by_cases ce : tB T L p < L
  · have ok := x.2.2.1 _ ce
    refine Wp_ifn (by rw [iv_eq (by omega) (by omega) (by omega) (by omega)]; omega) (Wp_bn (p92_2 x2.1) (Wp_ck (by rw [k93 x2.1]) (Wp_ck (by rw [k93 x2.1]; exact inb_iv (by omega) (by omega) (by omega)) ?_)))
    rw [ix_nat (by omega), x2.2.2.2.2 _ ce, il97, il122]
    have other : isLt (T (tB T L p)) = false → Wp (Mo_nextToken_b212 N 92 (iv (T (tB T L p))) h2) (fun _ h2 => FrX h h2 ∧ LexM T L p h2) := by
      intro cl
      unfold Mo_nextToken_b212
      rw [il48, show (57 : Int32) = iv 57 from iv_lit _]
      have sign : isDg (T (tB T L p)) = false → Wp (Mo_nextToken_b322 N 92 (iv (T (tB T L p))) h2) (fun _ h2 => FrX h h2 ∧ LexM T L p h2) := by
        intro cd
        have sz : tSz T L p = 1 := by unfold tSz; rw [if_neg (by omega), if_neg (by simp [cl]), if_neg (by simp [cd])]
        have kde : tKd T L p = if isSg (T (tB T L p)) = true then T (tB T L p) else 0 := by
          unfold tKd
          rw [if_neg (by omega), if_neg (by simp [cl]), if_neg (by simp [cd])]
        unfold Mo_nextToken_b322
        refine Wp_ck (by rw [k92 x2.1]) (Wp_lt ?_)
        rw [q4, il1, iv_add]
        have f3 : FrX h (wI h2 92 4 (iv ((tB T L p : Nat) + 1))) := f2.w (by omega)
        have g4 : hI (wI h2 92 4 (iv ((tB T L p : Nat) + 1))) 92 4 = iv (tE T L p : Nat) := by
          rw [hI_wI, if_pos ⟨rfl, rfl⟩]
          unfold tE
          rw [sz]
          rfl
        have g5 : hI (wI h2 92 4 (iv ((tB T L p : Nat) + 1))) 92 5 = iv (tB T L p : Nat) := by rw [hI_wI, if_neg (by omega), q5]
        generalize (wI h2 92 4 (iv ((tB T L p : Nat) + 1))) = h3 at f3 g4 g5 ⊢
        have x3 := f3.tx x
        have last : ∀ k : Int, k = tCd T L p → tKd T L p ≠ 1 → tKd T L p ≠ 2 → Wp (Mo_nextToken_b368 N 92 (iv k) h3) (fun _ h2 => FrX h h2 ∧ LexM T L p h2) := by
          intro k hk n1 n2
          unfold Mo_nextToken_b368
          refine Wp_ck (by rw [k92 x3.1]) (Wp_ltr ⟨f3.w (by omega), ?_, ?_, ?_, fun z => absurd z n2, fun z => absurd z n1⟩)
          · rw [hI_wI, if_neg (by omega), g5]
          · rw [hI_wI, if_neg (by omega), g4]
          · rw [hI_wI, if_pos ⟨rfl, rfl⟩, hk]
        have yes : isSg (T (tB T L p)) = true → Wp (Mo_nextToken_b363 N 92 h3) (fun _ h2 => FrX h h2 ∧ LexM T L p h2) := by
          intro c
          have c1 := c
          unfold isSg at c1
          rw [decide_eq_true_iff] at c1
          rw [if_pos c] at kde
          unfold Mo_nextToken_b363
          rw [il3]
          refine last 3 ?_ (by omega) (by omega)
          unfold tCd
          rw [if_neg (by omega), if_neg (by omega), if_neg (by omega), if_neg (by omega)]
        have no : isSg (T (tB T L p)) = false → Wp (Mo_nextToken_b367 N 92 h3) (fun _ h2 => FrX h h2 ∧ LexM T L p h2) := by
          intro c
          rw [if_neg (by rw [c]; decide)] at kde
          unfold Mo_nextToken_b367
          rw [il4]
          refine last 4 ?_ (by omega) (by omega)
          unfold tCd
          rw [if_neg (by omega), if_neg (by omega), if_neg (by omega), if_pos (by omega)]
        have sy : ((40 ≤ T (tB T L p) ∧ T (tB T L p) ≤ 43) ∨ T (tB T L p) = 45 ∨ (59 ≤ T (tB T L p) ∧ T (tB T L p) ≤ 61)) → isSg (T (tB T L p)) = true := by
          intro h
          unfold isSg
          exact decide_eq_true h
        have sn : ¬ ((40 ≤ T (tB T L p) ∧ T (tB T L p) ≤ 43) ∨ T (tB T L p) = 45 ∨ (59 ≤ T (tB T L p) ∧ T (tB T L p) ≤ 61)) → isSg (T (tB T L p)) = false := by
          intro h
          unfold isSg
          exact decide_eq_false h
        have mid : ¬ (40 ≤ T (tB T L p) ∧ T (tB T L p) ≤ 43) → Wp (Mo_nextToken_b345 N 92 (iv (T (tB T L p))) h3) (fun _ h2 => FrX h h2 ∧ LexM T L p h2) := by
          intro c0
          unfold Mo_nextToken_b345
          rw [show (45 : Int32) = iv 45 from iv_lit _, show (59 : Int32) = iv 59 from iv_lit _, show (61 : Int32) = iv 61 from iv_lit _]
          refine Wp_if (fun c => ?_) (fun c => ?_)
          · rw [iv_eq (by omega) (by omega) (by omega) (by omega)] at c
            exact yes (sy (by omega))
          · rw [iv_eq (by omega) (by omega) (by omega) (by omega)] at c
            refine Wp_if (fun c2 => ?_) (fun c2 => ?_)
            · rw [iv_lt (by omega) (by omega) (by omega) (by omega)] at c2
              exact no (sn (by omega))
            · rw [iv_lt (by omega) (by omega) (by omega) (by omega)] at c2
              refine Wp_if (fun c3 => ?_) (fun c3 => ?_)
              · rw [iv_lt (by omega) (by omega) (by omega) (by omega)] at c3
                exact no (sn (by omega))
              · rw [iv_lt (by omega) (by omega) (by omega) (by omega)] at c3
                exact yes (sy (by omega))
        rw [show (40 : Int32) = iv 40 from iv_lit _, show (43 : Int32) = iv 43 from iv_lit _]
        refine Wp_if (fun c => ?_) (fun c => ?_)
        · rw [iv_lt (by omega) (by omega) (by omega) (by omega)] at c
          exact mid (by omega)
        · rw [iv_lt (by omega) (by omega) (by omega) (by omega)] at c
          refine Wp_if (fun c2 => ?_) (fun c2 => ?_)
          · rw [iv_le (by omega) (by omega) (by omega) (by omega)] at c2
            exact yes (sy (by omega))
          · rw [iv_le (by omega) (by omega) (by omega) (by omega)] at c2
            exact mid (by omega)
      refine Wp_if (fun c => ?_) (fun c => ?_)
      · rw [iv_lt (by omega) (by omega) (by omega) (by omega)] at c
        exact sign (by unfold isDg; rw [decide_eq_false_iff_not]; omega)
      · rw [iv_lt (by omega) (by omega) (by omega) (by omega)] at c
        refine Wp_if (fun c2 => ?_) (fun c2 => ?_)
        · rw [iv_lt (by omega) (by omega) (by omega) (by omega)] at c2
          exact sign (by unfold isDg; rw [decide_eq_false_iff_not]; omega)
        · rw [iv_lt (by omega) (by omega) (by omega) (by omega)] at c2
          refine Wp_mono (digitsM hN x2 ce cl (by unfold isDg; rw [decide_eq_true_iff]; omega) q4 q5 q8) ?_
          rintro - h3 ⟨f3, l3⟩
          exact ⟨f2.tr f3, l3⟩
    refine Wp_if (fun c => ?_) (fun c => ?_)
    · rw [iv_lt (by omega) (by omega) (by omega) (by omega)] at c
      exact other (by unfold isLt; rw [decide_eq_false_iff_not]; omega)
    · rw [iv_lt (by omega) (by omega) (by omega) (by omega)] at c
      refine Wp_if (fun c2 => ?_) (fun c2 => ?_)
      · rw [iv_lt (by omega) (by omega) (by omega) (by omega)] at c2
        exact other (by unfold isLt; rw [decide_eq_false_iff_not]; omega)
      · rw [iv_lt (by omega) (by omega) (by omega) (by omega)] at c2
        refine Wp_mono (lettersM hN x2 ce (by unfold isLt; rw [decide_eq_true_iff]; omega) q4 q5 q7) ?_
        rintro - h3 ⟨f3, l3⟩
        exact ⟨f2.tr f3, l3⟩
  · have kd : tKd T L p = 3 := by unfold tKd; rw [if_pos (by omega)]
    have sz : tSz T L p = 0 := by unfold tSz; rw [if_pos (by omega)]
    refine Wp_ifp (by rw [show tB T L p = L from by omega]) (Wp_ltr ⟨f2.w (by omega), ?_, ?_, ?_, fun z => by omega, fun z => by omega⟩)
    · rw [hI_wI, if_neg (by omega), q5]
    · rw [hI_wI, if_neg (by omega), q4]
      unfold tE
      rw [sz]
      rfl
    · rw [hI_wI, if_pos ⟨rfl, rfl⟩]
      unfold tCd
      rw [if_pos kd]
theorem nextM {N : Nat} {T : Nat → Int} {L p : Nat} {h : PH} (hN : 1100 ≤ N) (x : TxM T L h) (hp : p ≤ L) (e4 : hI h 92 4 = iv (p : Nat)) : Wp (Mo_nextToken N 92 h) (fun _ h2 => FrX h h2 ∧ LexM T L p h2) := by
  have hL := x.2.1
  have key : ∀ (m i : Nat) (h1 : PH), i + m = L → i + rnL isBl T L i = tB T L p → FrX h h1 → hI h1 92 4 = iv (i : Nat) → ∀ fuel, m < fuel → Wp (Mo_nextToken_b0 N fuel 92 h1) (fun _ h2 => FrX h h2 ∧ LexM T L p h2) := by
    intro m
    induction m with
    | zero =>
      intro i h1 ei eb f1 e4 fuel hf
      obtain ⟨fu, rfl⟩ : ∃ fu, fuel = fu + 1 := ⟨fuel - 1, by omega⟩
      have x1 := f1.tx x
      rw [Mo_nextToken_b0]
      refine Wp_ck (by rw [k92 x1.1]) ?_
      rw [x1.2.2.2.1, e4]
      refine Wp_ifp (by rw [iv_le (by omega) (by omega) (by omega) (by omega)]; omega) ?_
      rw [rnL_stop (by omega)] at eb
      refine Wp_mono (tokM hN x1 hp (by rw [e4, ← eb, Nat.add_zero])) ?_
      rintro - h3 ⟨f3, l3⟩
      exact ⟨f1.tr f3, l3⟩
    | succ m ih =>
      intro i h1 ei eb f1 e4 fuel hf
      obtain ⟨fu, rfl⟩ : ∃ fu, fuel = fu + 1 := ⟨fuel - 1, by omega⟩
      have x1 := f1.tx x
      have ok := x.2.2.1 i (by omega)
      have next : isBl (T i) = true → Wp (Mo_nextToken_b39 N (Mo_nextToken_b0 N fu) 92 h1) (fun _ h2 => FrX h h2 ∧ LexM T L p h2) := by
        intro b
        unfold Mo_nextToken_b39
        refine Wp_ck (by rw [k92 x1.1]) (Wp_lt ?_)
        rw [e4, il1, iv_add]
        exact ih (i + 1) _ (by omega) (by rw [rnL_go ⟨by omega, b⟩] at eb; omega) (f1.w (by omega)) (by rw [hI_wI, if_pos ⟨rfl, rfl⟩]; rfl) fu (by omega)
      rw [Mo_nextToken_b0]
      refine Wp_ck (by rw [k92 x1.1]) ?_
      rw [x1.2.2.2.1, e4]
      refine Wp_ifn (by rw [iv_le (by omega) (by omega) (by omega) (by omega)]; omega) (Wp_bn (p92_2 x1.1) (Wp_ck (by rw [k93 x1.1]) (Wp_ck (by rw [k93 x1.1]; exact inb_iv (by omega) (by omega) (by omega)) ?_)))
      rw [ix_nat (by omega), x1.2.2.2.2 _ (by omega), il10, il32]
      refine Wp_if (fun c => ?_) (fun c => ?_)
      · rw [iv_eq (by omega) (by omega) (by omega) (by omega)] at c
        exact next (by unfold isBl; rw [c]; rfl)
      · rw [iv_eq (by omega) (by omega) (by omega) (by omega)] at c
        refine Wp_ck (by rw [k93 x1.1]; exact inb_iv (by omega) (by omega) (by omega)) ?_
        refine Wp_if (fun c2 => ?_) (fun c2 => ?_)
        · rw [iv_eq (by omega) (by omega) (by omega) (by omega)] at c2
          exact next (by unfold isBl; rw [c2]; rfl)
        · rw [iv_eq (by omega) (by omega) (by omega) (by omega)] at c2
          rw [rnL_stop (fun z => by have := z.2; unfold isBl at this; rw [decide_eq_true_iff] at this; omega)] at eb
          refine Wp_mono (tokM hN x1 hp (by rw [e4, ← eb, Nat.add_zero])) ?_
          rintro - h3 ⟨f3, l3⟩
          exact ⟨f1.tr f3, l3⟩
  unfold Mo_nextToken
  exact key (L - p) p h (by omega) rfl FrX.rf e4 N (by omega)
