/-! THE PURE PROOFS, 26: the class's tape reads tokens. -/
/-- the sign text of the class ("()<=+-*;") -/
def TextF (h : PH) : Prop := (hK h 3).1 = 28 ∧ hR h 3 0 = some 4 ∧ hI h 3 1 = 0 ∧ hK h 4 = (27, 8) ∧ hI h 4 0 = iv 40 ∧ hI h 4 1 = iv 41 ∧ hI h 4 2 = iv 60 ∧ hI h 4 3 = iv 61 ∧ hI h 4 4 = iv 43 ∧ hI h 4 5 = iv 45 ∧ hI h 4 6 = iv 42 ∧ hI h 4 7 = iv 59
/-- the text on the class's tape -/
def TxL (T : Nat → Int) (L : Nat) (h : PH) : Prop := Shp h ∧ TextF h ∧ L ≤ 1000 ∧ (∀ k, k < L → T k = 10 ∨ (32 ≤ T k ∧ T k ≤ 126)) ∧ hI h 7 1 = iv L ∧ (∀ k, k < L → hI h 8 k = iv (T k)) ∧ (∀ i, i < 28 → hJ h 9 i = jv (K32 i))
theorem TextF.fr {S : Nat → Prop} {h h2 : PH} (x : TextF h) (f : FrS S h h2) (n3 : ¬ S 3) (n4 : ¬ S 4) : TextF h2 := by
  unfold TextF at x ⊢
  rw [f.2.1, f.2.2.1, (f.2.2.2 3 n3).1, (f.2.2.2 4 n4).1]
  exact x
theorem TxL.fr {T : Nat → Int} {L : Nat} {S : Nat → Prop} {h h2 : PH} (x : TxL T L h) (f : FrS S h h2) (n3 : ¬ S 3) (n4 : ¬ S 4) (n8 : ¬ S 8) (n9 : ¬ S 9) (e : hI h2 7 1 = hI h 7 1) : TxL T L h2 := ⟨f.shp x.1, x.2.1.fr f n3 n4, x.2.2.1, x.2.2.2.1, e.trans x.2.2.2.2.1, fun k hk => (f.I n8 k).trans (x.2.2.2.2.2.1 k hk), fun i hi => (f.J n9 i).trans (x.2.2.2.2.2.2 i hi)⟩
/-- on the tape alone, its length kept -/
def Fr7 (h h2 : PH) : Prop := FrS (fun b => b = 7) h h2 ∧ hI h2 7 1 = hI h 7 1
theorem Fr7.rf {h : PH} : Fr7 h h := ⟨FrS.rf, rfl⟩
theorem Fr7.tr {h h1 h2 : PH} (a : Fr7 h h1) (b : Fr7 h1 h2) : Fr7 h h2 := ⟨a.1.tr b.1, b.2.trans a.2⟩
theorem Fr7.w {h0 h : PH} {i : Nat} {v : Int32} (f : Fr7 h0 h) (hi : i ≠ 1) : Fr7 h0 (wI h 7 i v) := f.tr ⟨FrS.rf.i1, by rw [hI_wI, if_neg (by omega)]⟩
theorem Fr7.j {h0 h : PH} {i : Nat} {v : Int64} (f : Fr7 h0 h) : Fr7 h0 (wJ h 7 i v) := f.tr ⟨FrS.rf.j1, rfl⟩
theorem Fr7.tx {T : Nat → Int} {L : Nat} {h h2 : PH} (f : Fr7 h h2) (x : TxL T L h) : TxL T L h2 := x.fr f.1 (by omega) (by omega) (by omega) (by omega) f.2
theorem signL {N : Nat} {T : Nat → Int} {L : Nat} {h : PH} {k : Nat} (x : TxL T L h) (hk : k ≤ 2000) : Ta_signAt N 7 (iv k) h = some (iv (if k < L then T k else -1), h) := by
  obtain ⟨s, -, hL, ok, e1, sg, -⟩ := x
  unfold Ta_signAt
  rw [il0, if_neg (by rw [iv_lt (by omega) (by omega) (by omega) (by omega)]; omega), ck_p (by rw [k7 s]), e1, p7_0 s, bn_s, ck_p (by rw [k8 s]), k8 s, iv_nat, ix_nat (by omega), il1, iv_neg]
  simp only [show (iv (L : Int) ≤ iv (k : Int)) ↔ (L : Int) ≤ k from iv_le (by omega) (by omega) (by omega) (by omega), show (iv (((1000 : Nat)) : Int) ≤ iv (k : Int)) ↔ ((1000 : Nat) : Int) ≤ (k : Int) from iv_le (by omega) (by omega) (by omega) (by omega)]
  by_cases c : k < L
  · rw [if_neg (by omega), if_neg (by omega), ck_p (inb_iv (by omega) (by omega) (by omega)), sg k c, if_pos c]
  · rw [if_pos (by omega), if_neg c]
theorem signI {N : Nat} {T : Nat → Int} {L : Nat} {h : PH} {k : Nat} (x : TxL T L h) (hk : k < L) : Ta_signAt N 7 (iv k) h = some (iv (T k), h) := by
  have := x.2.2.1
  rw [signL x (by omega), if_pos hk]
theorem letL {N : Nat} {c : Int} {h : PH} (hc : -1 ≤ c ∧ c ≤ 126) : Ta_isLetter N (iv c) h = some (isLt c, h) := by
  unfold Ta_isLetter isLt
  rw [il97, il122]
  simp only [show (iv c < iv 97) ↔ c < 97 from iv_lt (by omega) (by omega) (by omega) (by omega), show (iv 122 < iv c) ↔ 122 < c from iv_lt (by omega) (by omega) (by omega) (by omega)]
  by_cases a : c < 97
  · rw [if_pos a, decide_eq_false (by omega)]
  · rw [if_neg a]
    by_cases b : 122 < c
    · rw [if_pos b, decide_eq_false (by omega)]
    · rw [if_neg b, decide_eq_true (by omega)]
theorem digL {N : Nat} {c : Int} {h : PH} (hc : -1 ≤ c ∧ c ≤ 126) : Ta_isDigit N (iv c) h = some (isDg c, h) := by
  unfold Ta_isDigit isDg
  rw [il48, show (57 : Int32) = iv 57 from iv_lit _]
  simp only [show (iv c < iv 48) ↔ c < 48 from iv_lt (by omega) (by omega) (by omega) (by omega), show (iv 57 < iv c) ↔ 57 < c from iv_lt (by omega) (by omega) (by omega) (by omega)]
  by_cases a : c < 48
  · rw [if_pos a, decide_eq_false (by omega)]
  · rw [if_neg a]
    by_cases b : 57 < c
    · rw [if_pos b, decide_eq_false (by omega)]
    · rw [if_neg b, decide_eq_true (by omega)]
theorem sg_b {T : Nat → Int} {L k : Nat} {h : PH} (x : TxL T L h) : -1 ≤ (if k < L then T k else -1) ∧ (if k < L then T k else -1) ≤ 126 := by
  have ok := x.2.2.2.1 k
  split
  · next c => have := ok c; omega
  · omega
theorem skipL {N : Nat} {T : Nat → Int} {L p : Nat} {h : PH} (hN : 1100 ≤ N) (x : TxL T L h) (hp : p ≤ L) (e : hI h 7 3 + hI h 7 4 = iv p) : Wp (Ta_skipBlanks N 7 h) (fun _ h2 => Fr7 h h2 ∧ hI h2 7 3 = iv (tB T L p : Nat) ∧ (∀ j, j ≠ 3 → hI h2 7 j = hI h 7 j) ∧ hJ h2 = hJ h) := by
  have s := x.1
  have hL := x.2.2.1
  have key : ∀ (m i : Nat) (h1 : PH), i + m = L → i ≤ L → i + rnL isBl T L i = tB T L p → Fr7 h h1 → hI h1 7 3 = iv i → (∀ j, j ≠ 3 → hI h1 7 j = hI h 7 j) → hJ h1 = hJ h → ∀ fuel, m < fuel → Wp (Ta_skipBlanks_b18 N fuel 7 (iv i) h1) (fun _ h2 => Fr7 h h2 ∧ hI h2 7 3 = iv (tB T L p : Nat) ∧ (∀ j, j ≠ 3 → hI h2 7 j = hI h 7 j) ∧ hJ h2 = hJ h) := by
    intro m
    induction m with
    | zero =>
      intro i h1 ei hi eb f1 e3 r1 j1 fuel hf
      obtain ⟨fu, rfl⟩ : ∃ fu, fuel = fu + 1 := ⟨fuel - 1, by omega⟩
      have x1 := f1.tx x
      rw [Ta_skipBlanks_b18]
      refine Wp_ck (by rw [k7 x1.1]) ?_
      rw [x1.2.2.2.2.1]
      refine Wp_ifp (by rw [iv_le (by omega) (by omega) (by omega) (by omega)]; omega) (Wp_ret ⟨f1, ?_, r1, j1⟩)
      rw [rnL_stop (by omega)] at eb
      rw [e3, ← eb, Nat.add_zero]
    | succ m ih =>
      intro i h1 ei hi eb f1 e3 r1 j1 fuel hf
      obtain ⟨fu, rfl⟩ : ∃ fu, fuel = fu + 1 := ⟨fuel - 1, by omega⟩
      have x1 := f1.tx x
      have ok := x.2.2.2.1 i (by omega)
      have next : isBl (T i) = true → Wp (Ta_skipBlanks_b46 N (Ta_skipBlanks_b18 N fu) 7 (iv i) h1) (fun _ h2 => Fr7 h h2 ∧ hI h2 7 3 = iv (tB T L p : Nat) ∧ (∀ j, j ≠ 3 → hI h2 7 j = hI h 7 j) ∧ hJ h2 = hJ h) := by
        intro b
        unfold Ta_skipBlanks_b46
        refine Wp_ck (by rw [k7 x1.1]) (Wp_lt ?_)
        rw [e3, il1, iv_add]
        have r := ih (i + 1) (wI h1 7 3 (iv ((i : Int) + 1))) (by omega) (by omega) (by rw [rnL_go ⟨by omega, b⟩] at eb; omega) (f1.w (by omega)) (by rw [hI_wI, if_pos ⟨rfl, rfl⟩]; rfl) (fun j hj => by rw [hI_wI, if_neg (by omega)]; exact r1 j hj) j1 fu (by omega)
        rw [show ((i + 1 : Nat) : Int) = (i : Int) + 1 from by omega] at r
        exact r
      rw [Ta_skipBlanks_b18]
      refine Wp_ck (by rw [k7 x1.1]) ?_
      rw [x1.2.2.2.2.1]
      refine Wp_ifn (by rw [iv_le (by omega) (by omega) (by omega) (by omega)]; omega) (Wp_bde (signI x1 (by omega)) ?_)
      rw [il10]
      refine Wp_if (fun c => ?_) (fun c => ?_)
      · rw [iv_eq (by omega) (by omega) (by omega) (by omega)] at c
        exact next (by unfold isBl; rw [c]; rfl)
      · rw [iv_eq (by omega) (by omega) (by omega) (by omega)] at c
        refine Wp_ck (by rw [k7 x1.1]) (Wp_bde (signI x1 (by omega)) ?_)
        rw [il32]
        refine Wp_if (fun c2 => ?_) (fun c2 => ?_)
        · rw [iv_eq (by omega) (by omega) (by omega) (by omega)] at c2
          exact next (by unfold isBl; rw [c2]; rfl)
        · rw [iv_eq (by omega) (by omega) (by omega) (by omega)] at c2
          refine Wp_ret ⟨f1, ?_, r1, j1⟩
          rw [rnL_stop (fun z => by have := z.2; unfold isBl at this; rw [decide_eq_true_iff] at this; omega)] at eb
          rw [e3, ← eb, Nat.add_zero]
  unfold Ta_skipBlanks
  refine Wp_ck (by rw [k7 s]) (Wp_lt ?_)
  rw [e, hI_wI, if_pos ⟨rfl, rfl⟩]
  exact key (L - p) p _ (by omega) hp rfl (Fr7.rf.w (by omega)) (by rw [hI_wI, if_pos ⟨rfl, rfl⟩]) (fun j hj => by rw [hI_wI, if_neg (by omega)]) rfl N (by omega)
theorem wordsL {N : Nat} {T : Nat → Int} {L p : Nat} {h : PH} (hN : 100 ≤ N) (x : TxL T L h) (e2 : hI h 7 2 = iv (if tSz T L p ≤ 8 then 2 else 0)) (hl : tB T L p < L) (hc : isLt (T (tB T L p)) = true) (e7 : hJ h 7 7 = jv (tW 32 T L p)) (e6 : hI h 7 6 = iv (-1)) : Wp (Ta_readWord_b86 N N 7 (iv 0) h) (fun _ h2 => Fr7 h h2 ∧ (∀ j, j ≠ 6 → hI h2 7 j = hI h 7 j) ∧ hJ h2 = hJ h ∧ hI h2 7 6 = iv (tWx T L p)) := by
  have d := tLf_dgt hl hc
  have kd : tKd T L p = if tSz T L p ≤ 8 then 2 else 0 := by unfold tKd; rw [if_neg (by omega), if_pos hc]
  obtain ⟨fu, efu⟩ : ∃ g, N = g + 1 := ⟨N - 1, by omega⟩
  by_cases c8 : tSz T L p ≤ 8
  · have eb := en_b (b := 32) (by omega) (f := tLf T L p) (tSz T L p) c8 d
    have key : ∀ (m i : Nat) (h1 : PH), i + m = 28 → Fr7 h h1 → (∀ j, j ≠ 6 → hI h1 7 j = hI h 7 j) → hJ h1 = hJ h → hI h1 7 6 = iv (wix (tW 32 T L p) i) → ∀ fuel, m < fuel → Wp (Ta_readWord_b86 N fuel 7 (iv i) h1) (fun _ h2 => Fr7 h h2 ∧ (∀ j, j ≠ 6 → hI h2 7 j = hI h 7 j) ∧ hJ h2 = hJ h ∧ hI h2 7 6 = iv (tWx T L p)) := by
      intro m
      induction m with
      | zero =>
        intro i h1 ei f1 r1 j1 w1 fuel hf
        obtain ⟨fu, rfl⟩ : ∃ fu, fuel = fu + 1 := ⟨fuel - 1, by omega⟩
        have x1 := f1.tx x
        rw [Ta_readWord_b86]
        refine Wp_ck (by rw [k7 x1.1]) (Wp_bn (p7_9 x1.1) (Wp_ck (by rw [k9 x1.1]) ?_))
        rw [k9 x1.1, iv_nat]
        refine Wp_ifp (by rw [iv_le (by omega) (by omega) (by omega) (by omega)]; omega) (Wp_ret ⟨f1, r1, j1, ?_⟩)
        rw [w1]
        unfold tWx
        rw [if_pos (by rw [kd, if_pos c8]), show i = 28 from by omega]
      | succ m ih =>
        intro i h1 ei f1 r1 j1 w1 fuel hf
        obtain ⟨fu, rfl⟩ : ∃ fu, fuel = fu + 1 := ⟨fuel - 1, by omega⟩
        have x1 := f1.tx x
        have kb := en_b (b := 32) (by omega) (f := wf i) (wn i) (by have : ∀ i, i < 28 → wn i ≤ 8 := by decide +kernel
                                                                    exact this i (by omega)) (wf_dgt i (by omega))
        have kb2 : 0 ≤ K32 i ∧ K32 i < 1099511627776 := kb
        have eb2 : 0 ≤ tW 32 T L p ∧ tW 32 T L p < 1099511627776 := eb
        rw [Ta_readWord_b86]
        refine Wp_ck (by rw [k7 x1.1]) (Wp_bn (p7_9 x1.1) (Wp_ck (by rw [k9 x1.1]) ?_))
        rw [k9 x1.1, iv_nat]
        refine Wp_ifn (by rw [iv_le (by omega) (by omega) (by omega) (by omega)]; omega) ?_
        rw [r1 2 (by omega), e2, if_pos c8]
        refine Wp_ifp rfl (Wp_ck (inb_iv (by omega) (by omega) (by omega)) ?_)
        rw [ix_nat (by omega), x1.2.2.2.2.2.2 i (by omega), j1, e7]
        unfold Ta_readWord_b122
        rw [il1, iv_add]
        refine Wp_if (fun c => ?_) (fun c => ?_)
        · rw [lg_cmp_eq, jv_eq (by omega) (by omega) (by omega) (by omega)] at c
          refine Wp_lt ?_
          have r := ih (i + 1) (wI h1 7 6 (iv i)) (by omega) (f1.w (by omega)) (fun j hj => by rw [hI_wI, if_neg (by omega)]; exact r1 j hj) j1 (by rw [hI_wI, if_pos ⟨rfl, rfl⟩, wix, if_pos c]) fu (by omega)
          rw [show ((i + 1 : Nat) : Int) = (i : Int) + 1 from by omega] at r
          exact r
        · rw [lg_cmp_eq, jv_eq (by omega) (by omega) (by omega) (by omega)] at c
          have r := ih (i + 1) h1 (by omega) f1 r1 j1 (by rw [w1, wix, if_neg c]) fu (by omega)
          rw [show ((i + 1 : Nat) : Int) = (i : Int) + 1 from by omega] at r
          exact r
    exact key 28 0 h (by omega) Fr7.rf (fun _ _ => rfl) rfl e6 N (by omega)
  · have go : Wp (Ta_readWord_b86 N (fu + 1) 7 (iv 0) h) (fun _ h2 => Fr7 h h2 ∧ (∀ j, j ≠ 6 → hI h2 7 j = hI h 7 j) ∧ hJ h2 = hJ h ∧ hI h2 7 6 = iv (tWx T L p)) := by
      rw [Ta_readWord_b86]
      refine Wp_ck (by rw [k7 x.1]) (Wp_bn (p7_9 x.1) (Wp_ck (by rw [k9 x.1]) ?_))
      rw [k9 x.1, iv_nat]
      refine Wp_ifn (by decide) ?_
      rw [e2, if_neg c8]
      refine Wp_ifn (by decide) (Wp_ret ⟨Fr7.rf, fun _ _ => rfl, rfl, ?_⟩)
      rw [e6]
      unfold tWx
      rw [if_neg (by rw [kd, if_neg c8]; omega)]
    rw [← efu] at go
    exact go
theorem rwordL {N : Nat} {T : Nat → Int} {L p : Nat} {h : PH} (hN : 1100 ≤ N) (x : TxL T L h) (hl : tB T L p < L) (hc : isLt (T (tB T L p)) = true) (e3 : hI h 7 3 = iv (tB T L p : Nat)) (e6 : hI h 7 6 = iv (-1)) : Wp (Ta_readWord N 7 h) (fun _ h2 => Fr7 h h2 ∧ (∀ j, j ≠ 2 → j ≠ 4 → j ≠ 6 → hI h2 7 j = hI h 7 j) ∧ hI h2 7 2 = iv (tKd T L p) ∧ hI h2 7 4 = iv (tSz T L p : Nat) ∧ hI h2 7 6 = iv (tWx T L p) ∧ hJ h2 7 7 = jv (tW 32 T L p)) := by
  have hL := x.2.2.1
  have kd : tKd T L p = if tSz T L p ≤ 8 then 2 else 0 := by unfold tKd; rw [if_neg (by omega), if_pos hc]
  have sz : tSz T L p = rnL isLt T L (tB T L p) := by unfold tSz; rw [if_neg (by omega), if_pos hc]
  have szl := tE_le (T := T) (L := L) (p := p)
  have fin : ∀ h1, Fr7 h h1 → (∀ j, j ≠ 4 → hI h1 7 j = hI h 7 j) → hI h1 7 4 = iv (tSz T L p : Nat) → hJ h1 7 7 = jv (tW 32 T L p) → tSz T L p ≤ 2000 → Wp (Ta_readWord_b66 N 7 h1) (fun _ h2 => Fr7 h h2 ∧ (∀ j, j ≠ 2 → j ≠ 4 → j ≠ 6 → hI h2 7 j = hI h 7 j) ∧ hI h2 7 2 = iv (tKd T L p) ∧ hI h2 7 4 = iv (tSz T L p : Nat) ∧ hI h2 7 6 = iv (tWx T L p) ∧ hJ h2 7 7 = jv (tW 32 T L p)) := by
    intro h1 f1 r1 e4 e7 hsz
    have go : ∀ k : Int, k = (if tSz T L p ≤ 8 then 2 else 0) → Wp (Ta_readWord_b81 N 7 (iv k) 7 h1) (fun _ h2 => Fr7 h h2 ∧ (∀ j, j ≠ 2 → j ≠ 4 → j ≠ 6 → hI h2 7 j = hI h 7 j) ∧ hI h2 7 2 = iv (tKd T L p) ∧ hI h2 7 4 = iv (tSz T L p : Nat) ∧ hI h2 7 6 = iv (tWx T L p) ∧ hJ h2 7 7 = jv (tW 32 T L p)) := by
      intro k hk
      have x1 := f1.tx x
      unfold Ta_readWord_b81
      refine Wp_ck (by rw [k7 x1.1]) (Wp_lt ?_)
      rw [il0]
      have f2 : Fr7 h1 (wI h1 7 2 (iv k)) := Fr7.rf.w (by omega)
      refine Wp_mono (wordsL (p := p) (by omega) (f2.tx x1) (by rw [hI_wI, if_pos ⟨rfl, rfl⟩, hk]) hl hc e7 (by rw [hI_wI, if_neg (by omega), r1 6 (by omega)]; exact e6)) ?_
      rintro - h3 ⟨f3, r3, j3, w3⟩
      refine ⟨f1.tr (f2.tr f3), fun j a b c => ?_, ?_, ?_, w3, ?_⟩
      · rw [r3 j c, hI_wI, if_neg (by omega), r1 j b]
      · rw [r3 2 (by omega), hI_wI, if_pos ⟨rfl, rfl⟩, hk, kd]
      · rw [r3 4 (by omega), hI_wI, if_neg (by omega), e4]
      · rw [j3]; exact e7
    unfold Ta_readWord_b66
    refine Wp_ck (by rw [k7 (f1.tx x).1]) ?_
    rw [e4, il8, il0, il2]
    refine Wp_if (fun c => ?_) (fun c => ?_)
    · rw [iv_lt (by omega) (by omega) (by omega) (by omega)] at c
      exact go 0 (by rw [if_neg (by omega)])
    · rw [iv_lt (by omega) (by omega) (by omega) (by omega)] at c
      exact go 2 (by rw [if_pos (by omega)])
  have key : ∀ (m n : Nat) (h1 : PH), tB T L p + n + m = L → n + rnL isLt T L (tB T L p + n) = tSz T L p → Fr7 h h1 → (∀ j, j ≠ 4 → hI h1 7 j = hI h 7 j) → hI h1 7 4 = iv n → hJ h1 7 7 = jv (en 32 (tLf T L p) n) → ∀ fuel, m < fuel → Wp (Ta_readWord_b15 N fuel 7 (iv ((tB T L p + n : Nat) : Int)) h1) (fun _ h2 => Fr7 h h2 ∧ (∀ j, j ≠ 2 → j ≠ 4 → j ≠ 6 → hI h2 7 j = hI h 7 j) ∧ hI h2 7 2 = iv (tKd T L p) ∧ hI h2 7 4 = iv (tSz T L p : Nat) ∧ hI h2 7 6 = iv (tWx T L p) ∧ hJ h2 7 7 = jv (tW 32 T L p)) := by
    intro m
    induction m with
    | zero =>
      intro n h1 e es f1 r1 e4 e7 fuel hf
      obtain ⟨fu, rfl⟩ : ∃ fu, fuel = fu + 1 := ⟨fuel - 1, by omega⟩
      have x1 := f1.tx x
      rw [Ta_readWord_b15]
      refine Wp_ck (by rw [k7 x1.1]) ?_
      rw [x1.2.2.2.2.1]
      refine Wp_ifp (by rw [iv_le (by omega) (by omega) (by omega) (by omega)]; omega) ?_
      rw [rnL_stop (by omega)] at es
      have en' : n = tSz T L p := by omega
      exact fin h1 f1 r1 (by rw [e4, en']) (by rw [e7, en']; rfl) (by omega)
    | succ m ih =>
      intro n h1 e es f1 r1 e4 e7 fuel hf
      obtain ⟨fu, rfl⟩ : ∃ fu, fuel = fu + 1 := ⟨fuel - 1, by omega⟩
      have x1 := f1.tx x
      have ok := x.2.2.2.1 (tB T L p + n) (by omega)
      rw [Ta_readWord_b15]
      refine Wp_ck (by rw [k7 x1.1]) ?_
      rw [x1.2.2.2.2.1]
      refine Wp_ifn (by rw [iv_le (by omega) (by omega) (by omega) (by omega)]; omega) (Wp_bde (signI x1 (by omega)) (Wp_bde (letL (by omega)) ?_))
      simp only [bI_0]
      refine Wp_if (fun c => ?_) (fun c => ?_)
      · rw [rnL_stop (fun z => by rw [z.2] at c; cases c)] at es
        have en' : n = tSz T L p := by omega
        exact fin h1 f1 r1 (by rw [e4, en']) (by rw [e7, en']; rfl) (by omega)
      · have c' : isLt (T (tB T L p + n)) = true := by simpa using c
        rw [rnL_go ⟨by omega, c'⟩] at es
        refine Wp_ck (by rw [k7 x1.1]) (Wp_bde (signI x1 (by omega)) ?_)
        unfold Ta_joined
        rw [e7, jl32, il97, il1, iv_sub, iv_add, iv_wide (by omega) (by omega), jv_mul, jv_add]
        refine Wp_bde rfl (Wp_ck (by rw [k7 x1.1]) (Wp_lt (Wp_lt ?_)))
        rw [hI_wJ, e4, iv_add]
        have r := ih (n + 1) (wI (wJ h1 7 7 (jv (en 32 (tLf T L p) n * 32 + (T (tB T L p + n) - 97 + 1)))) 7 4 (iv ((n : Int) + 1))) (by omega) (by rw [show tB T L p + (n + 1) = tB T L p + n + 1 from by omega]; omega) (f1.j.w (by omega)) (fun j hj => by rw [hI_wI, if_neg (by omega), hI_wJ]; exact r1 j hj) (by rw [hI_wI, if_pos ⟨rfl, rfl⟩]; rfl) (by
          rw [hJ_wI, hJ_wJ, if_pos ⟨rfl, rfl⟩, en]
          unfold tLf
          congr 1
          omega) fu (by omega)
        rw [show ((tB T L p + (n + 1) : Nat) : Int) = ((tB T L p + n : Nat) : Int) + 1 from by omega] at r
        rw [iv_add]
        exact r
  unfold Ta_readWord
  refine Wp_ck (by rw [k7 x.1]) (Wp_lt (Wp_lt ?_))
  rw [hI_wI, if_neg (by omega), hI_wJ, e3]
  exact key (L - tB T L p) 0 _ (by omega) (by rw [sz]; simp) (Fr7.rf.j.w (by omega)) (fun j hj => by rw [hI_wI, if_neg (by omega), hI_wJ]) (by rw [hI_wI, if_pos ⟨rfl, rfl⟩, il0]; rfl) (by rw [hJ_wI, hJ_wJ, if_pos ⟨rfl, rfl⟩, jl0]; rfl) N (by omega)
theorem rnumL {N : Nat} {T : Nat → Int} {L p : Nat} {h : PH} (hN : 1100 ≤ N) (x : TxL T L h) (hl : tB T L p < L) (hlt : isLt (T (tB T L p)) = false) (hc : isDg (T (tB T L p)) = true) (e3 : hI h 7 3 = iv (tB T L p : Nat)) (e5 : hI h 7 5 = iv 0) : Wp (Ta_readNumber N 7 h) (fun _ h2 => Fr7 h h2 ∧ (∀ j, j ≠ 2 → j ≠ 4 → j ≠ 5 → hI h2 7 j = hI h 7 j) ∧ hI h2 7 2 = iv (tKd T L p) ∧ hI h2 7 4 = iv (tSz T L p : Nat) ∧ hI h2 7 5 = iv (tNm T L p)) := by
  have hL := x.2.2.1
  have kd : tKd T L p = if tSz T L p ≤ 4 then 1 else 0 := by unfold tKd; rw [if_neg (by omega), if_neg (by simp [hlt]), if_pos hc]
  have sz : tSz T L p = rnL isDg T L (tB T L p) := by unfold tSz; rw [if_neg (by omega), if_neg (by simp [hlt]), if_pos hc]
  have fin : ∀ h1, Fr7 h h1 → (∀ j, j ≠ 4 → j ≠ 5 → hI h1 7 j = hI h 7 j) → hI h1 7 4 = iv (tSz T L p : Nat) → hI h1 7 5 = iv (tNm T L p) → tSz T L p ≤ 2000 → Wp (Ta_readNumber_b65 N 7 h1) (fun _ h2 => Fr7 h h2 ∧ (∀ j, j ≠ 2 → j ≠ 4 → j ≠ 5 → hI h2 7 j = hI h 7 j) ∧ hI h2 7 2 = iv (tKd T L p) ∧ hI h2 7 4 = iv (tSz T L p : Nat) ∧ hI h2 7 5 = iv (tNm T L p)) := by
    intro h1 f1 r1 e4 e5' hsz
    have go : ∀ k : Int, k = (if tSz T L p ≤ 4 then 1 else 0) → Wp (Ta_readNumber_b79 N 7 (iv k) h1) (fun _ h2 => Fr7 h h2 ∧ (∀ j, j ≠ 2 → j ≠ 4 → j ≠ 5 → hI h2 7 j = hI h 7 j) ∧ hI h2 7 2 = iv (tKd T L p) ∧ hI h2 7 4 = iv (tSz T L p : Nat) ∧ hI h2 7 5 = iv (tNm T L p)) := by
      intro k hk
      unfold Ta_readNumber_b79
      refine Wp_ck (by rw [k7 (f1.tx x).1]) (Wp_ltr ⟨f1.w (by omega), fun j a b c => ?_, ?_, ?_, ?_⟩)
      · rw [hI_wI, if_neg (by omega), r1 j b c]
      · rw [hI_wI, if_pos ⟨rfl, rfl⟩, hk, kd]
      · rw [hI_wI, if_neg (by omega), e4]
      · rw [hI_wI, if_neg (by omega), e5']
    unfold Ta_readNumber_b65
    refine Wp_ck (by rw [k7 (f1.tx x).1]) ?_
    rw [e4, il4, il0, il1]
    refine Wp_if (fun c => ?_) (fun c => ?_)
    · rw [iv_lt (by omega) (by omega) (by omega) (by omega)] at c
      exact go 0 (by rw [if_neg (by omega)])
    · rw [iv_lt (by omega) (by omega) (by omega) (by omega)] at c
      exact go 1 (by rw [if_pos (by omega)])
  have key : ∀ (m n : Nat) (h1 : PH), tB T L p + n + m = L → n + rnL isDg T L (tB T L p + n) = tSz T L p → Fr7 h h1 → (∀ j, j ≠ 4 → j ≠ 5 → hI h1 7 j = hI h 7 j) → hI h1 7 4 = iv n → hI h1 7 5 = iv (dv (fun i => T (tB T L p + i)) n) → ∀ fuel, m < fuel → Wp (Ta_readNumber_b10 N fuel 7 (iv ((tB T L p + n : Nat) : Int)) h1) (fun _ h2 => Fr7 h h2 ∧ (∀ j, j ≠ 2 → j ≠ 4 → j ≠ 5 → hI h2 7 j = hI h 7 j) ∧ hI h2 7 2 = iv (tKd T L p) ∧ hI h2 7 4 = iv (tSz T L p : Nat) ∧ hI h2 7 5 = iv (tNm T L p)) := by
    intro m
    induction m with
    | zero =>
      intro n h1 e es f1 r1 e4 e5 fuel hf
      obtain ⟨fu, rfl⟩ : ∃ fu, fuel = fu + 1 := ⟨fuel - 1, by omega⟩
      have x1 := f1.tx x
      rw [Ta_readNumber_b10]
      refine Wp_ck (by rw [k7 x1.1]) ?_
      rw [x1.2.2.2.2.1]
      refine Wp_ifp (by rw [iv_le (by omega) (by omega) (by omega) (by omega)]; omega) ?_
      rw [rnL_stop (by omega)] at es
      have en' : n = tSz T L p := by omega
      exact fin h1 f1 r1 (by rw [e4, en']) (by rw [e5, en']; rfl) (by omega)
    | succ m ih =>
      intro n h1 e es f1 r1 e4 e5 fuel hf
      obtain ⟨fu, rfl⟩ : ∃ fu, fuel = fu + 1 := ⟨fuel - 1, by omega⟩
      have x1 := f1.tx x
      have ok := x.2.2.2.1 (tB T L p + n) (by omega)
      rw [Ta_readNumber_b10]
      refine Wp_ck (by rw [k7 x1.1]) ?_
      rw [x1.2.2.2.2.1]
      refine Wp_ifn (by rw [iv_le (by omega) (by omega) (by omega) (by omega)]; omega) (Wp_bde (signI x1 (by omega)) (Wp_bde (digL (by omega)) ?_))
      simp only [bI_0]
      refine Wp_if (fun c => ?_) (fun c => ?_)
      · rw [rnL_stop (fun z => by rw [z.2] at c; cases c)] at es
        have en' : n = tSz T L p := by omega
        exact fin h1 f1 r1 (by rw [e4, en']) (by rw [e5, en']; rfl) (by omega)
      · have c' : isDg (T (tB T L p + n)) = true := by simpa using c
        rw [rnL_go ⟨by omega, c'⟩] at es
        refine Wp_ck (by rw [k7 x1.1]) (Wp_bde (signI x1 (by omega)) (Wp_ck (by rw [k7 x1.1]) (Wp_lt (Wp_lt ?_))))
        rw [e5, hI_wI, if_neg (by omega), e4, il10, il48, il1]
        simp only [iv_mul, iv_add, iv_sub]
        have r := ih (n + 1) (wI (wI h1 7 5 (iv (dv (fun i => T (tB T L p + i)) n * 10 + T (tB T L p + n) - 48))) 7 4 (iv ((n : Int) + 1))) (by omega) (by rw [show tB T L p + (n + 1) = tB T L p + n + 1 from by omega]; omega) ((f1.w (by omega)).w (by omega)) (fun j a b => by rw [hI_wI, if_neg (by omega), hI_wI, if_neg (by omega)]; exact r1 j a b) (by rw [hI_wI, if_pos ⟨rfl, rfl⟩]; rfl) (by rw [hI_wI, if_neg (by omega), hI_wI, if_pos ⟨rfl, rfl⟩, dv]) fu (by omega)
        rw [show ((tB T L p + (n + 1) : Nat) : Int) = ((tB T L p + n : Nat) : Int) + 1 from by omega] at r
        exact r
  unfold Ta_readNumber
  refine Wp_ck (by rw [k7 x.1]) (Wp_lt ?_)
  rw [hI_wI, if_neg (by omega), e3]
  exact key (L - tB T L p) 0 _ (by omega) (by rw [sz]; simp) (Fr7.rf.w (by omega)) (fun j a b => by rw [hI_wI, if_neg (by omega)]) (by rw [hI_wI, if_pos ⟨rfl, rfl⟩, il0]; rfl) (by rw [hI_wI, if_neg (by omega), e5]; rfl) N (by omega)
/-- the token read from p on stands, no fault yet -/
def LexL (T : Nat → Int) (L p : Nat) (h : PH) : Prop := hI h 7 3 = iv (tB T L p : Nat) ∧ hI h 7 4 = iv (tSz T L p : Nat) ∧ hI h 7 2 = iv (tKd T L p) ∧ (tKd T L p = 1 → hI h 7 5 = iv (tNm T L p)) ∧ hI h 7 6 = iv (tWx T L p) ∧ (tKd T L p = 2 → hJ h 7 7 = jv (tW 32 T L p)) ∧ hI h 7 8 = iv 0
theorem sgnL {N : Nat} {c : Int} {h : PH} (hN : 100 ≤ N) (x : TextF h) (hc : 0 ≤ c ∧ c ≤ 126) : ∃ k : Int, Js_indexOf N 3 (iv c) h = some (iv k, h) ∧ -1 ≤ k ∧ k < 8 ∧ (k < 0 ↔ isSg c = false) := by
  obtain ⟨t1, t2, t3, t4, b0, b1, b2, b3, b4, b5, b6, b7⟩ := x
  have wide : (Int32.toInt8 (iv c)).toInt32 = iv c := by
    have : ∀ n : Nat, n ≤ 126 → (Int32.toInt8 (iv (n : Int))).toInt32 = iv (n : Int) := by decide +kernel
    have := this c.toNat (by omega)
    rwa [show ((c.toNat : Nat) : Int) = c from by omega] at this
  have one : ∀ (fu j : Nat) (d : Int), j < 8 → hI h 4 j = iv d → 0 ≤ d ∧ d ≤ 126 → Jl_indexOfChar_b7 N (fu + 1) (some 4) (iv 8) (iv c) (iv j) h = if d = c then some (iv j, h) else Jl_indexOfChar_b7 N fu (some 4) (iv 8) (iv c) (iv ((j + 1 : Nat) : Int)) h := by
    intro fu j d hj e hd
    rw [Jl_indexOfChar_b7]
    dsimp only
    rw [if_neg (by rw [iv_le (by omega) (by omega) (by omega) (by omega)]; omega), bn_s, ck_p (by rw [t4]), ck_p (by rw [t4]; exact inb_iv (by omega) (by omega) (by omega)), ix_nat (by omega), e, il1, iv_add]
    simp only [show (iv d = iv c) ↔ d = c from iv_eq (by omega) (by omega) (by omega) (by omega)]
    rfl
  have i1 : Js_isLatin1 N 3 h = some (true, h) := by
    unfold Js_isLatin1
    rw [if_neg (by decide), ck_p t1, t3, if_pos rfl]
  have i2 : Js_coder N 3 h = some (0, h) := by
    unfold Js_coder
    rw [if_neg (by decide), ck_p t1, t3, ck_p (c := narrow FieldType.byte (Value.int 0) = Value.int 0) (by rfl)]
  have i3 : Js_length N 3 h = some (iv 8, h) := by
    unfold Js_length
    rw [ck_p t1, t2, bn_s, ck_p (by rw [t4]), i2, bd_s, t4]
    have : (Int32.ofNat 8 >>> ((0 : Int32) &&& 31)) = iv 8 := by decide
    rw [this]
  have i4 : Jl_canEncode N (iv c) h = some (true, h) := by
    unfold Jl_canEncode
    rw [if_neg (by rw [il0, iv_lt (by omega) (by omega) (by omega) (by omega)]; omega), if_neg (by rw [show (255 : Int32) = iv 255 from iv_lit _, iv_lt (by omega) (by omega) (by omega) (by omega)]; omega)]
  have mn : mnI (iv 8) (Int32.ofNat 8) = iv 8 := by decide
  have mx : mxI (0 : Int32) 0 = iv 0 := by decide
  have base : Js_indexOf N 3 (iv c) h = bd (Jl_indexOfChar_b7 N N (some 4) (iv 8) (iv c) (iv 0) h) (fun v h2 => some (v, h2)) := by
    unfold Js_indexOf Js_indexOf2 Jl_indexOf Jl_indexOfChar
    rw [ck_p t1, ck_p t1, i1, bd_s, if_neg (by decide), ck_p t1, i3, bd_s, i4, bd_s, if_neg (by decide), t2, bn_s, ck_p (by rw [t4]), t4, mn, mx, if_pos (by decide), wide]
    generalize Jl_indexOfChar_b7 N N (some 4) (iv 8) (iv c) (iv 0) h = z
    cases z <;> rfl
  have fin : Jl_indexOfChar_b7 N N (some 4) (iv 8) (iv c) (iv 0) h = some (iv (if 40 = c then 0 else if 41 = c then 1 else if 60 = c then 2 else if 61 = c then 3 else if 43 = c then 4 else if 45 = c then 5 else if 42 = c then 6 else if 59 = c then 7 else -1), h) := by
    obtain ⟨fu, rfl⟩ : ∃ g, N = g + 1 + 1 + 1 + 1 + 1 + 1 + 1 + 1 + 1 := ⟨N - 9, by omega⟩
    have o0 := one (fu + 1 + 1 + 1 + 1 + 1 + 1 + 1 + 1) 0 40 (by omega) b0 (by omega)
    have o1 := one (fu + 1 + 1 + 1 + 1 + 1 + 1 + 1) 1 41 (by omega) b1 (by omega)
    have o2 := one (fu + 1 + 1 + 1 + 1 + 1 + 1) 2 60 (by omega) b2 (by omega)
    have o3 := one (fu + 1 + 1 + 1 + 1 + 1) 3 61 (by omega) b3 (by omega)
    have o4 := one (fu + 1 + 1 + 1 + 1) 4 43 (by omega) b4 (by omega)
    have o5 := one (fu + 1 + 1 + 1) 5 45 (by omega) b5 (by omega)
    have o6 := one (fu + 1 + 1) 6 42 (by omega) b6 (by omega)
    have o7 := one (fu + 1) 7 59 (by omega) b7 (by omega)
    have o8 : Jl_indexOfChar_b7 (fu + 1 + 1 + 1 + 1 + 1 + 1 + 1 + 1 + 1) (fu + 1) (some 4) (iv 8) (iv c) (iv ((7 + 1 : Nat) : Int)) h = some (iv (-1), h) := by
      rw [Jl_indexOfChar_b7]
      dsimp only
      rw [if_pos (by decide), il1, iv_neg]
    have z0 : iv ((0 : Nat) : Int) = iv 0 := rfl
    rw [z0] at o0
    rw [o0]
    by_cases c0 : 40 = c
    · rw [if_pos c0, if_pos c0]
    · rw [if_neg c0, if_neg c0, o1]
      by_cases c1 : 41 = c
      · rw [if_pos c1, if_pos c1]; rfl
      · rw [if_neg c1, if_neg c1, o2]
        by_cases c2 : 60 = c
        · rw [if_pos c2, if_pos c2]; rfl
        · rw [if_neg c2, if_neg c2, o3]
          by_cases c3 : 61 = c
          · rw [if_pos c3, if_pos c3]; rfl
          · rw [if_neg c3, if_neg c3, o4]
            by_cases c4 : 43 = c
            · rw [if_pos c4, if_pos c4]; rfl
            · rw [if_neg c4, if_neg c4, o5]
              by_cases c5 : 45 = c
              · rw [if_pos c5, if_pos c5]; rfl
              · rw [if_neg c5, if_neg c5, o6]
                by_cases c6 : 42 = c
                · rw [if_pos c6, if_pos c6]; rfl
                · rw [if_neg c6, if_neg c6, o7]
                  by_cases c7 : 59 = c
                  · rw [if_pos c7, if_pos c7]; rfl
                  · rw [if_neg c7, if_neg c7, o8]
  refine ⟨_, by rw [base, fin, bd_s], ?_, ?_, ?_⟩
  · repeat' split
    all_goals omega
  · repeat' split
    all_goals omega
  · unfold isSg
    rw [decide_eq_false_iff_not]
    repeat' split
    all_goals omega
theorem stepL {N : Nat} {T : Nat → Int} {L p : Nat} {h : PH} (hN : 1100 ≤ N) (x : TxL T L h) (hp : p ≤ L) (e : hI h 7 3 + hI h 7 4 = iv p) (e8 : hI h 7 8 = iv 0) : Wp (Ta_step N 7 h) (fun _ h2 => Fr7 h h2 ∧ LexL T L p h2) := by
  have s := x.1
  have hL := x.2.2.1
  have tb := tB_le (T := T) hp
  unfold Ta_step
  refine Wp_ck (by rw [k7 s]) ?_
  rw [e8]
  refine Wp_ifp rfl (Wp_bd2 (skipL hN x hp e) ?_)
  rintro - h1 ⟨f1, e13, r1, j1⟩
  have x1 := f1.tx x
  refine Wp_ck (by rw [k7 x1.1]) ?_
  rw [e13]
  refine Wp_bde (signL x1 (by omega)) (Wp_ck (by rw [k7 x1.1]) (Wp_lt (Wp_lt (Wp_lt ?_))))
  have f2 : Fr7 h (wI (wI (wI h1 7 5 (iv 0)) 7 6 (iv (-1))) 7 4 (iv 1)) := ((f1.w (by omega)).w (by omega)).w (by omega)
  rw [il0, il1, iv_neg]
  have q3 : hI (wI (wI (wI h1 7 5 (iv 0)) 7 6 (iv (-1))) 7 4 (iv 1)) 7 3 = iv (tB T L p : Nat) := by rw [hI_wI, if_neg (by omega), hI_wI, if_neg (by omega), hI_wI, if_neg (by omega), e13]
  have q4 : hI (wI (wI (wI h1 7 5 (iv 0)) 7 6 (iv (-1))) 7 4 (iv 1)) 7 4 = iv 1 := by rw [hI_wI, if_pos ⟨rfl, rfl⟩]
  have q5 : hI (wI (wI (wI h1 7 5 (iv 0)) 7 6 (iv (-1))) 7 4 (iv 1)) 7 5 = iv 0 := by rw [hI_wI, if_neg (by omega), hI_wI, if_neg (by omega), hI_wI, if_pos ⟨rfl, rfl⟩]
  have q6 : hI (wI (wI (wI h1 7 5 (iv 0)) 7 6 (iv (-1))) 7 4 (iv 1)) 7 6 = iv (-1) := by rw [hI_wI, if_neg (by omega), hI_wI, if_pos ⟨rfl, rfl⟩]
  have q8 : hI (wI (wI (wI h1 7 5 (iv 0)) 7 6 (iv (-1))) 7 4 (iv 1)) 7 8 = iv 0 := by rw [hI_wI, if_neg (by omega), hI_wI, if_neg (by omega), hI_wI, if_neg (by omega), r1 8 (by omega), e8]
  generalize (wI (wI (wI h1 7 5 (iv 0)) 7 6 (iv (-1))) 7 4 (iv 1)) = h2 at f2 q3 q4 q5 q6 q8 ⊢
  have x2 := f2.tx x
  by_cases ce : tB T L p < L
  · have ok := x.2.2.2.1 _ ce
    rw [if_pos ce]
    refine Wp_ifn (by rw [iv_eq (by omega) (by omega) (by omega) (by omega)]; omega) (Wp_bde (letL (by omega)) ?_)
    rw [← il0]
    simp only [bI_0]
    refine Wp_if (fun cl => ?_) (fun cl => ?_)
    · refine Wp_bde (digL (by omega)) ?_
      refine Wp_if (fun cd => ?_) (fun cd => ?_)
      · have cw' : (Int32.toUInt32 (iv (T (tB T L p))) % 65536).toInt32 = iv (T (tB T L p)) := by
          have : ∀ n : Nat, n ≤ 126 → (Int32.toUInt32 (iv (n : Int)) % 65536).toInt32 = iv (n : Int) := by decide +kernel
          have := this (T (tB T L p)).toNat (by omega)
          rwa [show (((T (tB T L p)).toNat : Nat) : Int) = T (tB T L p) from by omega] at this
        obtain ⟨k, ek, k1, k2, k3⟩ := sgnL (N := N) (c := T (tB T L p)) (by omega) x2.2.1 (by omega)
        have sz : tSz T L p = 1 := by unfold tSz; rw [if_neg (by omega), if_neg (by simp [cl]), if_neg (by simp [cd])]
        have fin : ∀ kd : Int, kd = tKd T L p → kd ≠ 1 → kd ≠ 2 → Wp (Ta_step_b98 N 7 (iv kd) h2) (fun _ h2 => Fr7 h h2 ∧ LexL T L p h2) := by
          intro kd hk n1 n2
          unfold Ta_step_b98
          refine Wp_ck (by rw [k7 x2.1]) (Wp_ltr ⟨f2.w (by omega), ?_, ?_, ?_, fun z => ?_, ?_, fun z => ?_, ?_⟩)
          · rw [hI_wI, if_neg (by omega), q3]
          · rw [hI_wI, if_neg (by omega), q4, sz]; rfl
          · rw [hI_wI, if_pos ⟨rfl, rfl⟩, hk]
          · omega
          · rw [hI_wI, if_neg (by omega), q6]
            unfold tWx
            rw [if_neg (by omega)]
          · omega
          · rw [hI_wI, if_neg (by omega), q8]
        have kde : tKd T L p = if isSg (T (tB T L p)) = true then T (tB T L p) else 0 := by
          unfold tKd
          rw [if_neg (by omega), if_neg (by simp [cl]), if_neg (by simp [cd])]
        rw [cw']
        refine Wp_ck x2.2.1.1 (Wp_bde ek ?_)
        rw [il0]
        refine Wp_if (fun c => ?_) (fun c => ?_)
        · rw [iv_lt (by omega) (by omega) (by omega) (by omega)] at c
          refine fin 0 ?_ (by omega) (by omega)
          rw [kde, if_neg (by rw [k3.mp c]; decide)]
        · rw [iv_lt (by omega) (by omega) (by omega) (by omega)] at c
          have sg : isSg (T (tB T L p)) = true := by
            cases hz : isSg (T (tB T L p))
            · exact absurd (k3.mpr hz) c
            · rfl
          refine fin _ (by rw [kde, if_pos sg]) (by omega) (by omega)
      · refine Wp_ck (by rw [k7 x2.1]) ?_
        refine Wp_bd2 (rnumL hN x2 ce cl (by simpa using cd) q3 q5) ?_
        rintro - h3 ⟨f3, r3, a2, a4, a5⟩
        refine Wp_ret ⟨f2.tr f3, ?_, a4, a2, fun _ => a5, ?_, fun z => ?_, ?_⟩
        · rw [r3 3 (by omega) (by omega) (by omega), q3]
        · rw [r3 6 (by omega) (by omega) (by omega), q6]
          unfold tWx
          rw [if_neg (fun z => by rw [tKd_2] at z; rw [z.2.1] at cl; cases cl)]
        · rw [tKd_2] at z
          rw [z.2.1] at cl
          cases cl
        · rw [r3 8 (by omega) (by omega) (by omega), q8]
    · refine Wp_ck (by rw [k7 x2.1]) ?_
      have cl' : isLt (T (tB T L p)) = true := by simpa using cl
      refine Wp_bd2 (rwordL hN x2 ce cl' q3 q6) ?_
      rintro - h3 ⟨f3, r3, a2, a4, a6, a7⟩
      refine Wp_ret ⟨f2.tr f3, ?_, a4, a2, fun z => ?_, a6, fun _ => a7, ?_⟩
      · rw [r3 3 (by omega) (by omega) (by omega), q3]
      · exfalso
        unfold tKd at z
        rw [if_neg (by omega), if_pos cl'] at z
        split at z <;> omega
      · rw [r3 8 (by omega) (by omega) (by omega), q8]
  · rw [if_neg ce]
    have sz : tSz T L p = 0 := by unfold tSz; rw [if_pos (by omega)]
    have kd : tKd T L p = 3 := by unfold tKd; rw [if_pos (by omega)]
    refine Wp_ifp rfl (Wp_lt (Wp_ltr ⟨(f2.w (by omega)).w (by omega), ?_, ?_, ?_, fun z => by omega, ?_, fun z => by omega, ?_⟩))
    · rw [hI_wI, if_neg (by omega), hI_wI, if_neg (by omega), q3]
    · rw [hI_wI, if_pos ⟨rfl, rfl⟩, sz]; rfl
    · rw [hI_wI, if_neg (by omega), hI_wI, if_pos ⟨rfl, rfl⟩, kd, il3]
    · rw [hI_wI, if_neg (by omega), hI_wI, if_neg (by omega), q6]
      unfold tWx
      rw [if_neg (by omega)]
    · rw [hI_wI, if_neg (by omega), hI_wI, if_neg (by omega), q8]
