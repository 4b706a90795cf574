/-! THE PURE PROOFS, 81: sheets, both ways; what a call of the reference leaves. -/
def MFr (h h2 : PH) : Prop := FrS (fun b => 92 ≤ b ∧ b ≤ 125) h h2
theorem MFr.rf {h : PH} : MFr h h := FrS.rf
theorem MFr.tr {h h1 h2 : PH} (a : MFr h h1) (b : MFr h1 h2) : MFr h h2 := FrS.tr a b
def AnsM (g : Gs) (h : PH) (w : Int) (v : Int32) (h2 : PH) : Prop := v = iv w ∧ RestM g h2 ∧ MFr h h2
def ThrM (g : Gs) (h : PH) (ok : Prop) (w : Int) (v : Int32) (h2 : PH) : Prop := ((ok ∧ v = iv w ∧ hI h2 92 0 = iv 0) ∨ (¬ ok ∧ hI h2 92 0 = iv 1)) ∧ RestM g h2 ∧ MFr h h2
theorem RestM.t0 {g : Gs} {h : PH} {v : Int32} (x : RestM g h) : RestM g (wI h 92 0 v) := x.cg (FrI.shp (S := fun b => b = 92) FrI.rf.w1 x.1.1) (fun b hb => ⟨by funext j; rw [hI_wI, if_neg (by unfold LowM at hb; omega)], rfl⟩) (by rw [hI_wI, if_neg (by omega)]) (by rw [hI_wI, if_neg (by omega)])
theorem t0F {h : PH} {v : Int32} : MFr h (wI h 92 0 v) := FrS.rf.aI ⟨by omega, by omega⟩
theorem Wp_bde_id {α : Type} {x : Option (α × PH)} {v : α} {h : PH} {Q : α → PH → Prop} (e : x = some (v, h)) (k : Q v h) : Wp x Q := ⟨v, h, e, k⟩
theorem AnsM.no {g : Gs} {h0 h : PH} {w : Int} (x : RestM g h) (f : MFr h0 h) (e : w = -1) : Wp (some (iv (-1), h)) (AnsM g h0 w) := Wp_ret ⟨by rw [e], x, f⟩
theorem AnsM.fr {g : Gs} {h0 h : PH} {w : Int} {v : Int32} {h2 : PH} (a : AnsM g h w v h2) (f : MFr h0 h) : AnsM g h0 w v h2 := ⟨a.1, a.2.1, f.tr a.2.2⟩
def pS (tw : Int) (t : Nat) : Nat → Int
  | 0 => 1000000
  | i + 1 => pS tw t i * (if i < t then tw else 10 - tw)
def aS : Nat → Int
  | 0 => 1
  | i + 1 => aS i * 10
def wL (c t : Nat) : Nat → Int
  | 0 => 1
  | k + 1 => (wL c t k * ((c : Int) - t + (k + 1))).tdiv (k + 1)
def wM (c : Nat) : Nat → Int
  | 0 => 1
  | k + 1 => (wM c k * ((c : Int) - k)).tdiv (k + 1)
theorem aS_b : ∀ i, i < 9 → 1 ≤ aS i ∧ aS i ≤ 100000000 := by decide +kernel
theorem wL_b : ∀ c, c < 9 → ∀ t, t < c + 1 → ∀ k, k < t + 1 → 0 ≤ wL c t k ∧ wL c t k ≤ 100 := by decide +kernel
theorem wM_b : ∀ c, c < 9 → ∀ t, t < c + 1 → 0 ≤ wM c t ∧ wM c t ≤ 100 := by decide +kernel
theorem w_eq : ∀ c, c < 9 → ∀ t, t < c + 1 → wL c t t = wM c t := by decide +kernel
theorem pS_b {tw : Int} {t : Nat} (h : 0 ≤ tw ∧ tw ≤ 10) : ∀ i, 0 ≤ pS tw t i ∧ pS tw t i ≤ 1000000 * aS i
  | 0 => ⟨by unfold pS; omega, by unfold pS aS; omega⟩
  | i + 1 => by
    have ih := pS_b (t := t) h i
    have f : 0 ≤ (if i < t then tw else 10 - tw) ∧ (if i < t then tw else 10 - tw) ≤ 10 := by split <;> omega
    rw [pS, aS]
    generalize (if i < t then tw else 10 - tw) = x at f
    have a := Int.mul_nonneg ih.1 f.1
    have b := Int.mul_le_mul_of_nonneg_left f.2 ih.1
    omega
theorem shE {w P A : Int} (hw : 0 ≤ w ∧ w ≤ 100) (hP : 0 ≤ P ∧ P ≤ 100000000000000) (hA : 1 ≤ A ∧ A ≤ 100000000) : Int64.toInt32 ((jv w * jv P) / jv A) = iv ((w * P).tdiv A) ∧ Int64.toInt32 ((jv P * jv w) / jv A) = iv ((w * P).tdiv A) := by
  have a := Int.mul_nonneg hw.1 hP.1
  have b := Int.mul_le_mul_of_nonneg_right hw.2 hP.1
  have c : P * w = w * P := Int.mul_comm _ _
  refine ⟨?_, ?_⟩
  · rw [jv_mul, jv_div (by omega) (by omega) (by omega) (by omega), jv_narrow]
  · rw [jv_mul, c, jv_div (by omega) (by omega) (by omega) (by omega), jv_narrow]
def fSheets (g : Gs) (c t : Int) : Int := if (0 ≤ c ∧ c ≤ 8) ∧ 0 ≤ t ∧ t ≤ c then (wM c.toNat t.toNat * pS (gsH g 14) t.toNat c.toNat).tdiv (aS c.toNat) else -1
theorem leSheetsL {N c0 : Nat} {g : Gs} {h : PH} {c t : Int} (hN : 100 ≤ N) (x : LeI c0 g h) (k : GOK g) (hc : -2147483648 ≤ c ∧ c < 2147483648) (ht : -2147483648 ≤ t ∧ t < 2147483648) : Wp (Le_sheets N 6 (iv c) (iv t) h) (AnsL c0 g h (fSheets g c t)) := by
  have s := x.s
  have e11 : hI h 10 11 = iv (gsH g 14) := x.hs.2.2.2.2.2.2.2.2.2.2.2.1
  have h14 : 0 ≤ gsH g 14 ∧ gsH g 14 ≤ 10 := k.1.2.2.2.2.2.2.2.2.2.2.2.2.2.2.1
  unfold Le_sheets fSheets
  rw [im1, il0, il8]
  refine Wp_if (fun e => ?_) (fun e => ?_)
  · rw [iv_lt (by omega) (by omega) (by omega) (by omega)] at e
    exact AnsL.no x (if_neg (by omega))
  rw [iv_lt (by omega) (by omega) (by omega) (by omega)] at e
  refine Wp_if (fun e => ?_) (fun e => ?_)
  · rw [iv_lt (by omega) (by omega) (by omega) (by omega)] at e
    exact AnsL.no x (if_neg (by omega))
  rw [iv_lt (by omega) (by omega) (by omega) (by omega)] at e
  refine Wp_if (fun e => ?_) (fun e => ?_)
  · rw [iv_lt (by omega) (by omega) (by omega) (by omega)] at e
    exact AnsL.no x (if_neg (by omega))
  rw [iv_lt (by omega) (by omega) (by omega) (by omega)] at e
  refine Wp_if (fun e2 => ?_) (fun e2 => ?_)
  · rw [iv_le (by omega) (by omega) (by omega) (by omega)] at e2
    rw [if_pos (show (0 ≤ c ∧ c ≤ 8) ∧ 0 ≤ t ∧ t ≤ c by omega)]
    obtain ⟨cn, rfl⟩ : ∃ n : Nat, c = (n : Int) := ⟨c.toNat, by omega⟩
    obtain ⟨tn, rfl⟩ : ∃ n : Nat, t = (n : Int) := ⟨t.toNat, by omega⟩
    rw [show ((cn : Int)).toNat = cn from by omega, show ((tn : Int)).toNat = tn from by omega]
    have ab := aS_b cn (by omega)
    have pb := pS_b (t := tn) h14 cn
    have fin : ∀ (m i : Nat), i + m = tn → ∀ fuel, m < fuel → Le_sheets_b90 N fuel (iv cn) (iv tn) (jv (wL cn tn i)) (jv (pS (gsH g 14) tn cn)) (jv (aS cn)) (iv ((i + 1 : Nat) : Int)) h = some (iv ((wM cn tn * pS (gsH g 14) tn cn).tdiv (aS cn)), h) := by
      intro m
      induction m with
      | zero =>
        intro i ei fuel hf
        obtain ⟨fu, rfl⟩ : ∃ e, fuel = e + 1 := ⟨fuel - 1, by omega⟩
        obtain rfl : i = tn := by omega
        have wb := wL_b cn (by omega) i (by omega) i (by omega)
        rw [Le_sheets_b90]
        dsimp only
        rw [if_pos (by rw [iv_lt (by omega) (by omega) (by omega) (by omega)]; omega), jl0, if_neg, ck_p (by rw [jv_eq (by omega) (by omega) (by omega) (by omega)]; omega), (shE wb (by omega) ab).1, w_eq cn (by omega) i (by omega)]
        intro z
        have z2 := (Int32.not_lt.mpr z)
        rw [lg_pos] at z2
        rw [jv_lt (by omega) (by omega) (by omega) (by omega)] at z2
        omega
      | succ m ih =>
        intro i ei fuel hf
        obtain ⟨fu, rfl⟩ : ∃ e, fuel = e + 1 := ⟨fuel - 1, by omega⟩
        have wb := wL_b cn (by omega) tn (by omega) i (by omega)
        have mb : 0 ≤ wL cn tn i * ((cn : Int) - tn + (i + 1)) ∧ wL cn tn i * ((cn : Int) - tn + (i + 1)) ≤ 10000 := by
          have a := Int.mul_nonneg wb.1 (show 0 ≤ (cn : Int) - tn + (i + 1) by omega)
          have b := Int.mul_le_mul_of_nonneg_right wb.2 (show 0 ≤ (cn : Int) - tn + (i + 1) by omega)
          omega
        rw [Le_sheets_b90]
        dsimp only
        rw [if_neg (by rw [iv_lt (by omega) (by omega) (by omega) (by omega)]; omega), iv_sub, iv_add, iv_wide (by omega) (by omega), iv_wide (by omega) (by omega), ck_p (by rw [jl0, jv_eq (by omega) (by omega) (by omega) (by omega)]; omega), show (cn : Int) - tn + ((i + 1 : Nat) : Int) = (cn : Int) - tn + (i + 1) from by omega, jv_mul, jv_div (by omega) (by omega) (by omega) (by omega), il1, iv_add, show ((i + 1 : Nat) : Int) + 1 = ((i + 1 + 1 : Nat) : Int) from by omega]
        exact ih (i + 1) (by omega) fu (by omega)
    have key : ∀ (m i : Nat), i + m = cn → ∀ fuel, m < fuel → Le_sheets_b34 N fuel 6 (iv cn) (iv tn) (jv 1) (jv (pS (gsH g 14) tn i)) (jv (aS i)) (iv i) h = some (iv ((wM cn tn * pS (gsH g 14) tn cn).tdiv (aS cn)), h) := by
      intro m
      induction m with
      | zero =>
        intro i ei fuel hf
        obtain ⟨fu, rfl⟩ : ∃ e, fuel = e + 1 := ⟨fuel - 1, by omega⟩
        obtain rfl : i = cn := by omega
        rw [Le_sheets_b34]
        dsimp only
        rw [if_pos (Int32.le_refl _)]
        exact fin tn 0 (by omega) N (by omega)
      | succ m ih =>
        intro i ei fuel hf
        obtain ⟨fu, rfl⟩ : ∃ e, fuel = e + 1 := ⟨fuel - 1, by omega⟩
        have r := ih (i + 1) (by omega) fu (by omega)
        rw [pS, aS] at r
        rw [Le_sheets_b34]
        dsimp only
        rw [if_neg (by rw [iv_le (by omega) (by omega) (by omega) (by omega)]; omega), ck_p (by rw [k6 s]), p6_1 s, bn_s, bn_s, ck_p (by rw [k10 s]), ck_p (by rw [k6 s]), ck_p (by rw [k10 s]), e11]
        unfold Le_sheets_b70
        simp only [show (iv (tn : Int) ≤ iv (i : Int)) ↔ (tn : Int) ≤ i from iv_le (by omega) (by omega) (by omega) (by omega)]
        by_cases z : i < tn
        · rw [if_neg (by omega), iv_wide (by omega) (by omega), jv_mul, jl10, jv_mul, il1, iv_add]
          rw [if_pos z] at r
          exact r
        · rw [if_pos (by omega), show (10 : Int32) = iv 10 from iv_lit _, iv_sub, iv_wide (by omega) (by omega), jv_mul, jl10, jv_mul, il1, iv_add]
          rw [if_neg z] at r
          exact r
    have go := key cn 0 (by omega) N (by omega)
    exact Wp_bde_id (by rw [← go, jl1, jl1000000]; rfl) ⟨rfl, x.mono (by omega), CFr.rf⟩
  · rw [iv_le (by omega) (by omega) (by omega) (by omega)] at e2
    exact AnsL.no x (if_neg (by omega))
theorem moSheetsM {N : Nat} {g : Gs} {h : PH} {c t : Int} (hN : 100 ≤ N) (x : RestM g h) (k : GOK g) (hc : -2147483648 ≤ c ∧ c < 2147483648) (ht : -2147483648 ≤ t ∧ t < 2147483648) : Wp (Mo_sheets N 92 (iv c) (iv t) h) (AnsM g h (fSheets g c t)) := by
  have s0 := x.1.1
  have h14 : 0 ≤ gsH g 14 ∧ gsH g 14 ≤ 10 := k.1.2.2.2.2.2.2.2.2.2.2.2.2.2.2.1
  unfold Mo_sheets fSheets
  rw [im1, il0, il8]
  refine Wp_ck (by rw [k92 s0]) (Wp_lt ?_)
  have x1 := x.t0 (v := iv 0)
  have f1 : MFr h (wI h 92 0 (iv 0)) := t0F
  have s := x1.1.1
  generalize wI h 92 0 (iv 0) = h1 at x1 f1 s ⊢
  have e14 : hI h1 94 14 = iv (gsH g 14) := x1.2.1.1.1 14 (by omega)
  refine Wp_bde (within_eq (by omega) (by omega) (by omega)) ?_
  by_cases o : 0 ≤ c ∧ c ≤ 8
  · rw [decide_eq_true o]
    refine Wp_ifn (by decide) (Wp_bde (within_eq (by omega) (by omega) (by omega)) ?_)
    by_cases o2 : 0 ≤ t ∧ t ≤ c
    · rw [decide_eq_true o2, if_pos (show (0 ≤ c ∧ c ≤ 8) ∧ 0 ≤ t ∧ t ≤ c from ⟨o, o2⟩)]
      refine Wp_ifn (by decide) ?_
      obtain ⟨cn, rfl⟩ : ∃ n : Nat, c = (n : Int) := ⟨c.toNat, by omega⟩
      obtain ⟨tn, rfl⟩ : ∃ n : Nat, t = (n : Int) := ⟨t.toNat, by omega⟩
      rw [show ((cn : Int)).toNat = cn from by omega, show ((tn : Int)).toNat = tn from by omega]
      have ab := aS_b cn (by omega)
      have pb := pS_b (t := tn) h14 cn
      have wb := wM_b cn (by omega)
      have fin : ∀ (m i : Nat), i + m = tn → ∀ fuel, m < fuel → Mo_sheets_b93 N fuel (iv cn) (iv tn) (jv (pS (gsH g 14) tn cn)) (jv (aS cn)) (jv (wM cn i)) (iv i) h1 = some (iv ((wM cn tn * pS (gsH g 14) tn cn).tdiv (aS cn)), h1) := by
        intro m
        induction m with
        | zero =>
          intro i ei fuel hf
          obtain ⟨fu, rfl⟩ : ∃ e, fuel = e + 1 := ⟨fuel - 1, by omega⟩
          obtain rfl : i = tn := by omega
          rw [Mo_sheets_b93]
          dsimp only
          rw [if_pos (Int32.le_refl _), ck_p (by rw [jl0, jv_eq (by omega) (by omega) (by omega) (by omega)]; omega), (shE (wb i (by omega)) (by omega) ab).2]
        | succ m ih =>
          intro i ei fuel hf
          obtain ⟨fu, rfl⟩ : ∃ e, fuel = e + 1 := ⟨fuel - 1, by omega⟩
          have w1 := wb i (by omega)
          have mb : 0 ≤ wM cn i * ((cn : Int) - i) ∧ wM cn i * ((cn : Int) - i) ≤ 10000 := by
            have a := Int.mul_nonneg w1.1 (show 0 ≤ (cn : Int) - i by omega)
            have b := Int.mul_le_mul_of_nonneg_right w1.2 (show 0 ≤ (cn : Int) - i by omega)
            omega
          rw [Mo_sheets_b93]
          dsimp only
          rw [if_neg (by rw [iv_le (by omega) (by omega) (by omega) (by omega)]; omega), il1, iv_sub, iv_add, iv_wide (by omega) (by omega), iv_wide (by omega) (by omega), ck_p (by rw [jl0, jv_eq (by omega) (by omega) (by omega) (by omega)]; omega), jv_mul, jv_div (by omega) (by omega) (by omega) (by omega), show (i : Int) + 1 = ((i + 1 : Nat) : Int) from by omega]
          exact ih (i + 1) (by omega) fu (by omega)
      have key : ∀ (m i : Nat), i + m = cn → ∀ fuel, m < fuel → Mo_sheets_b36 N fuel 92 (iv cn) (iv tn) (jv (pS (gsH g 14) tn i)) (jv (aS i)) (iv i) h1 = some (iv ((wM cn tn * pS (gsH g 14) tn cn).tdiv (aS cn)), h1) := by
        intro m
        induction m with
        | zero =>
          intro i ei fuel hf
          obtain ⟨fu, rfl⟩ : ∃ e, fuel = e + 1 := ⟨fuel - 1, by omega⟩
          obtain rfl : i = cn := by omega
          rw [Mo_sheets_b36]
          dsimp only
          rw [if_pos (Int32.le_refl _)]
          exact fin tn 0 (by omega) N (by omega)
        | succ m ih =>
          intro i ei fuel hf
          obtain ⟨fu, rfl⟩ : ∃ e, fuel = e + 1 := ⟨fuel - 1, by omega⟩
          have r := ih (i + 1) (by omega) fu (by omega)
          rw [pS, aS] at r
          rw [Mo_sheets_b36]
          dsimp only
          rw [if_neg (by rw [iv_le (by omega) (by omega) (by omega) (by omega)]; omega), ck_p (by rw [k92 s]), p92_10 s, bn_s, bn_s, ck_p (by rw [k94 s]), ck_p (by rw [k94 s]; decide), ck_p (by rw [k92 s]), ck_p (by rw [k94 s]), ck_p (by rw [k94 s]; decide), show ix 14 = 14 from rfl, e14]
          unfold Mo_sheets_b71
          simp only [show (iv (tn : Int) ≤ iv (i : Int)) ↔ (tn : Int) ≤ i from iv_le (by omega) (by omega) (by omega) (by omega)]
          by_cases z : i < tn
          · rw [if_neg (by omega), iv_wide (by omega) (by omega), jv_mul, jl10, jv_mul, il1, iv_add]
            rw [if_pos z] at r
            exact r
          · rw [if_pos (by omega), show (10 : Int32) = iv 10 from iv_lit _, iv_sub, iv_wide (by omega) (by omega), jv_mul, jl10, jv_mul, il1, iv_add]
            rw [if_neg z] at r
            exact r
      have go := key cn 0 (by omega) N (by omega)
      exact Wp_bde_id (by rw [← go, jl1, jl1000000]; rfl) ⟨rfl, x1, f1⟩
    · rw [decide_eq_false o2]
      exact Wp_ifp (by decide) (AnsM.no x1 f1 (if_neg (fun y => o2 y.2)))
  · rw [decide_eq_false o]
    exact Wp_ifp (by decide) (AnsM.no x1 f1 (if_neg (fun y => o y.1)))
