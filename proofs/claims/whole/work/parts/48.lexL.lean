/-! THE PURE PROOFS, 26: the class's tape reads tokens. -/
/-- the sign text of the class ("()<=+-*;") -/
def TextF (h : PH) : Prop := (hK h 3).1 = 28 ∧ hR h 3 0 = some 4 ∧ hI h 3 1 = 0 ∧ hK h 4 = (27, 8) ∧ hI h 4 0 = iv 40 ∧ hI h 4 1 = iv 41 ∧ hI h 4 2 = iv 60 ∧ hI h 4 3 = iv 61 ∧ hI h 4 4 = iv 43 ∧ hI h 4 5 = iv 45 ∧ hI h 4 6 = iv 42 ∧ hI h 4 7 = iv 59
/-- the text on the class's tape -/
def TxL (T : Nat → Int) (L : Nat) (h : PH) : Prop := Shp h ∧ TextF h ∧ L ≤ 1000 ∧ (∀ k, k < L → T k = 10 ∨ (32 ≤ T k ∧ T k ≤ 126)) ∧ hI h 7 1 = iv L ∧ (∀ k, k < L → hI h 8 k = iv (T k)) ∧ (∀ i, i < 28 → hJ h 9 i = jv (K32 i))
theorem TextF.fr {S : Nat → Prop} {h h2 : PH} (x : TextF h) (f : FrS S h h2) (n3 : ¬ S 3) (n4 : ¬ S 4) : TextF h2 := by
  unfold TextF at x ⊢
  rw [f.2.1, f.2.2.1, (f.2.2.2 3 n3).1, (f.2.2.2 4 n4).1]
  exact x
theorem TxL.fr {T : Nat → Int} {L : Nat} {S : Nat → Prop} {h h2 : PH} (x : TxL T L h) (f : FrS S h h2) (n3 : ¬ S 3) (n4 : ¬ S 4) (n8 : ¬ S 8) (n9 : ¬ S 9) (e : hI h2 7 1 = hI h 7 1) : TxL T L h2 := ⟨f.shp x.1, x.2.1.fr f n3 n4, x.2.2.1, x.2.2.2.1, e.trans x.2.2.2.2.1, fun k hk => (f.I n8 k).trans (x.2.2.2.2.2.1 k hk), fun i hi => (f.J n9 i).trans (x.2.2.2.2.2.2 i hi)⟩
/-- on the tape alone, its length kept -/
def Fr7 (h h2 : PH) : Prop := FrS (fun b => b = 7) h h2 ∧ hI h2 7 1 = hI h 7 1
theorem Fr7.rf {h : PH} : Fr7 h h := ⟨FrS.rf, rfl⟩
theorem Fr7.tr {h h1 h2 : PH} (a : Fr7 h h1) (b : Fr7 h1 h2) : Fr7 h h2 := ⟨a.1.tr b.1, b.2.trans a.2⟩
theorem Fr7.w {h0 h : PH} {i : Nat} {v : Int32} (f : Fr7 h0 h) (hi : i ≠ 1) : Fr7 h0 (wI h 7 i v) := f.tr ⟨FrS.rf.i1, by rw [hI_wI, if_neg (by omega)]⟩
theorem Fr7.j {h0 h : PH} {i : Nat} {v : Int64} (f : Fr7 h0 h) : Fr7 h0 (wJ h 7 i v) := f.tr ⟨FrS.rf.j1, rfl⟩
theorem Fr7.tx {T : Nat → Int} {L : Nat} {h h2 : PH} (f : Fr7 h h2) (x : TxL T L h) : TxL T L h2 := x.fr f.1 (by omega) (by omega) (by omega) (by omega) f.2
theorem signL {N : Nat} {T : Nat → Int} {L : Nat} {h : PH} {k : Nat} (x : TxL T L h) (hk : k ≤ 2000) : Ta_signAt N 7 (iv k) h = some (iv (if k < L then T k else -1), h) := by
  obtain ⟨s, -, hL, ok, e1, sg, -⟩ := x
  unfold Ta_signAt
  rw [il0, if_neg (by rw [iv_lt (by omega) (by omega) (by omega) (by omega)]; omega), ck_p (by rw [k7 s]), e1, p7_0 s, bn_s, ck_p (by rw [k8 s]), k8 s, iv_nat, ix_nat (by omega), il1, iv_neg]
  simp only [show (iv (L : Int) ≤ iv (k : Int)) ↔ (L : Int) ≤ k from iv_le (by omega) (by omega) (by omega) (by omega), show (iv (((1000 : Nat)) : Int) ≤ iv (k : Int)) ↔ ((1000 : Nat) : Int) ≤ (k : Int) from iv_le (by omega) (by omega) (by omega) (by omega)]
  by_cases c : k < L
  · rw [if_neg (by omega), if_neg (by omega), ck_p (inb_iv (by omega) (by omega) (by omega)), sg k c, if_pos c]
  · rw [if_pos (by omega), if_neg c]
theorem signI {N : Nat} {T : Nat → Int} {L : Nat} {h : PH} {k : Nat} (x : TxL T L h) (hk : k < L) : Ta_signAt N 7 (iv k) h = some (iv (T k), h) := by
  have := x.2.2.1
  rw [signL x (by omega), if_pos hk]
theorem letL {N : Nat} {c : Int} {h : PH} (hc : -1 ≤ c ∧ c ≤ 126) : Ta_isLetter N (iv c) h = some (isLt c, h) := by
  unfold Ta_isLetter isLt
  rw [il97, il122]
  simp only [show (iv c < iv 97) ↔ c < 97 from iv_lt (by omega) (by omega) (by omega) (by omega), show (iv 122 < iv c) ↔ 122 < c from iv_lt (by omega) (by omega) (by omega) (by omega)]
  by_cases a : c < 97
  · rw [if_pos a, decide_eq_false (by omega)]
  · rw [if_neg a]
    by_cases b : 122 < c
    · rw [if_pos b, decide_eq_false (by omega)]
    · rw [if_neg b, decide_eq_true (by omega)]
theorem digL {N : Nat} {c : Int} {h : PH} (hc : -1 ≤ c ∧ c ≤ 126) : Ta_isDigit N (iv c) h = some (isDg c, h) := by
  unfold Ta_isDigit isDg
  rw [il48, show (57 : Int32) = iv 57 from iv_lit _]
  simp only [show (iv c < iv 48) ↔ c < 48 from iv_lt (by omega) (by omega) (by omega) (by omega), show (iv 57 < iv c) ↔ 57 < c from iv_lt (by omega) (by omega) (by omega) (by omega)]
  by_cases a : c < 48
  · rw [if_pos a, decide_eq_false (by omega)]
  · rw [if_neg a]
    by_cases b : 57 < c
    · rw [if_pos b, decide_eq_false (by omega)]
    · rw [if_neg b, decide_eq_true (by omega)]
theorem sg_b {T : Nat → Int} {L k : Nat} {h : PH} (x : TxL T L h) : -1 ≤ (if k < L then T k else -1) ∧ (if k < L then T k else -1) ≤ 126 := by
  have ok := x.2.2.2.1 k
  split
  · next c => have := ok c; omega
  · omega
theorem skipL {N : Nat} {T : Nat → Int} {L p : Nat} {h : PH} (hN : 1100 ≤ N) (x : TxL T L h) (hp : p ≤ L) (e : hI h 7 3 + hI h 7 4 = iv p) : Wp (Ta_skipBlanks N 7 h) (fun _ h2 => Fr7 h h2 ∧ hI h2 7 3 = iv (tB T L p : Nat) ∧ (∀ j, j ≠ 3 → hI h2 7 j = hI h 7 j) ∧ hJ h2 = hJ h) := by
  have s := x.1
  have hL := x.2.2.1
  have key : ∀ (m i : Nat) (h1 : PH), i + m = L → i ≤ L → i + rnL isBl T L i = tB T L p → Fr7 h h1 → hI h1 7 3 = iv i → (∀ j, j ≠ 3 → hI h1 7 j = hI h 7 j) → hJ h1 = hJ h → ∀ fuel, m < fuel → Wp (Ta_skipBlanks_b18 N fuel 7 (iv i) h1) (fun _ h2 => Fr7 h h2 ∧ hI h2 7 3 = iv (tB T L p : Nat) ∧ (∀ j, j ≠ 3 → hI h2 7 j = hI h 7 j) ∧ hJ h2 = hJ h) := by
    intro m
    induction m with
    | zero =>
      intro i h1 ei hi eb f1 e3 r1 j1 fuel hf
      obtain ⟨fu, rfl⟩ : ∃ fu, fuel = fu + 1 := ⟨fuel - 1, by omega⟩
      have x1 := f1.tx x
      rw [Ta_skipBlanks_b18]
      refine Wp_ck (by rw [k7 x1.1]) ?_
      rw [x1.2.2.2.2.1]
      refine Wp_ifp (by rw [iv_le (by omega) (by omega) (by omega) (by omega)]; omega) (Wp_ret ⟨f1, ?_, r1, j1⟩)
      rw [rnL_stop (by omega)] at eb
      rw [e3, ← eb, Nat.add_zero]
    | succ m ih =>
      intro i h1 ei hi eb f1 e3 r1 j1 fuel hf
      obtain ⟨fu, rfl⟩ : ∃ fu, fuel = fu + 1 := ⟨fuel - 1, by omega⟩
      have x1 := f1.tx x
      have ok := x.2.2.2.1 i (by omega)
      have next : isBl (T i) = true → Wp (Ta_skipBlanks_b46 N (Ta_skipBlanks_b18 N fu) 7 (iv i) h1) (fun _ h2 => Fr7 h h2 ∧ hI h2 7 3 = iv (tB T L p : Nat) ∧ (∀ j, j ≠ 3 → hI h2 7 j = hI h 7 j) ∧ hJ h2 = hJ h) := by
        intro b
        unfold Ta_skipBlanks_b46
        refine Wp_ck (by rw [k7 x1.1]) (Wp_lt ?_)
        rw [e3, il1, iv_add]
        have r := ih (i + 1) (wI h1 7 3 (iv ((i : Int) + 1))) (by omega) (by omega) (by rw [rnL_go ⟨by omega, b⟩] at eb; omega) (f1.w (by omega)) (by rw [hI_wI, if_pos ⟨rfl, rfl⟩]; rfl) (fun j hj => by rw [hI_wI, if_neg (by omega)]; exact r1 j hj) j1 fu (by omega)
        rw [show ((i + 1 : Nat) : Int) = (i : Int) + 1 from by omega] at r
        exact r
      rw [Ta_skipBlanks_b18]
      refine Wp_ck (by rw [k7 x1.1]) ?_
      rw [x1.2.2.2.2.1]
      refine Wp_ifn (by rw [iv_le (by omega) (by omega) (by omega) (by omega)]; omega) (Wp_bde (signI x1 (by omega)) ?_)
      rw [il10]
      refine Wp_if (fun c => ?_) (fun c => ?_)
      · rw [iv_eq (by omega) (by omega) (by omega) (by omega)] at c
        exact next (by unfold isBl; rw [c]; rfl)
      · rw [iv_eq (by omega) (by omega) (by omega) (by omega)] at c
        refine Wp_ck (by rw [k7 x1.1]) (Wp_bde (signI x1 (by omega)) ?_)
        rw [il32]
        refine Wp_if (fun c2 => ?_) (fun c2 => ?_)
        · rw [iv_eq (by omega) (by omega) (by omega) (by omega)] at c2
          exact next (by unfold isBl; rw [c2]; rfl)
        · rw [iv_eq (by omega) (by omega) (by omega) (by omega)] at c2
          refine Wp_ret ⟨f1, ?_, r1, j1⟩
          rw [rnL_stop (fun z => by have := z.2; unfold isBl at this; rw [decide_eq_true_iff] at this; omega)] at eb
          rw [e3, ← eb, Nat.add_zero]
  unfold Ta_skipBlanks
  refine Wp_ck (by rw [k7 s]) (Wp_lt ?_)
  rw [e, hI_wI, if_pos ⟨rfl, rfl⟩]
  exact key (L - p) p _ (by omega) hp rfl (Fr7.rf.w (by omega)) (by rw [hI_wI, if_pos ⟨rfl, rfl⟩]) (fun j hj => by rw [hI_wI, if_neg (by omega)]) rfl N (by omega)
theorem wordsL {N : Nat} {T : Nat → Int} {L p : Nat} {h : PH} (hN : 100 ≤ N) (x : TxL T L h) (e2 : hI h 7 2 = iv (if tSz T L p ≤ 8 then 2 else 0)) (hl : tB T L p < L) (hc : isLt (T (tB T L p)) = true) (e7 : hJ h 7 7 = jv (tW 32 T L p)) (e6 : hI h 7 6 = iv (-1)) : Wp (Ta_readWord_b86 N N 7 (iv 0) h) (fun _ h2 => Fr7 h h2 ∧ (∀ j, j ≠ 6 → hI h2 7 j = hI h 7 j) ∧ hJ h2 = hJ h ∧ hI h2 7 6 = iv (tWx T L p)) := by
  have d := tLf_dgt hl hc
  have kd : tKd T L p = if tSz T L p ≤ 8 then 2 else 0 := by unfold tKd; rw [if_neg (by omega), if_pos hc]
  obtain ⟨fu, efu⟩ : ∃ g, N = g + 1 := ⟨N - 1, by omega⟩
  by_cases c8 : tSz T L p ≤ 8
  · have eb := en_b (b := 32) (by omega) (f := tLf T L p) (tSz T L p) c8 d
    have key : ∀ (m i : Nat) (h1 : PH), i + m = 28 → Fr7 h h1 → (∀ j, j ≠ 6 → hI h1 7 j = hI h 7 j) → hJ h1 = hJ h → hI h1 7 6 = iv (wix (tW 32 T L p) i) → ∀ fuel, m < fuel → Wp (Ta_readWord_b86 N fuel 7 (iv i) h1) (fun _ h2 => Fr7 h h2 ∧ (∀ j, j ≠ 6 → hI h2 7 j = hI h 7 j) ∧ hJ h2 = hJ h ∧ hI h2 7 6 = iv (tWx T L p)) := by
      intro m
      induction m with
      | zero =>
        intro i h1 ei f1 r1 j1 w1 fuel hf
        obtain ⟨fu, rfl⟩ : ∃ fu, fuel = fu + 1 := ⟨fuel - 1, by omega⟩
        have x1 := f1.tx x
        rw [Ta_readWord_b86]
        refine Wp_ck (by rw [k7 x1.1]) (Wp_bn (p7_9 x1.1) (Wp_ck (by rw [k9 x1.1]) ?_))
        rw [k9 x1.1, iv_nat]
        refine Wp_ifp (by rw [iv_le (by omega) (by omega) (by omega) (by omega)]; omega) (Wp_ret ⟨f1, r1, j1, ?_⟩)
        rw [w1]
        unfold tWx
        rw [if_pos (by rw [kd, if_pos c8]), show i = 28 from by omega]
      | succ m ih =>
        intro i h1 ei f1 r1 j1 w1 fuel hf
        obtain ⟨fu, rfl⟩ : ∃ fu, fuel = fu + 1 := ⟨fuel - 1, by omega⟩
        have x1 := f1.tx x
        have kb := en_b (b := 32) (by omega) (f := wf i) (wn i) (by have : ∀ i, i < 28 → wn i ≤ 8 := by decide +kernel
                                                                    exact this i (by omega)) (wf_dgt i (by omega))
        have kb2 : 0 ≤ K32 i ∧ K32 i < 1099511627776 := kb
        have eb2 : 0 ≤ tW 32 T L p ∧ tW 32 T L p < 1099511627776 := eb
        rw [Ta_readWord_b86]
        refine Wp_ck (by rw [k7 x1.1]) (Wp_bn (p7_9 x1.1) (Wp_ck (by rw [k9 x1.1]) ?_))
        rw [k9 x1.1, iv_nat]
        refine Wp_ifn (by rw [iv_le (by omega) (by omega) (by omega) (by omega)]; omega) ?_
        rw [r1 2 (by omega), e2, if_pos c8]
        refine Wp_ifp rfl (Wp_ck (inb_iv (by omega) (by omega) (by omega)) ?_)
        rw [ix_nat (by omega), x1.2.2.2.2.2.2 i (by omega), j1, e7]
        unfold Ta_readWord_b122
        rw [il1, iv_add]
        refine Wp_if (fun c => ?_) (fun c => ?_)
        · rw [lg_cmp_eq, jv_eq (by omega) (by omega) (by omega) (by omega)] at c
          refine Wp_lt ?_
          have r := ih (i + 1) (wI h1 7 6 (iv i)) (by omega) (f1.w (by omega)) (fun j hj => by rw [hI_wI, if_neg (by omega)]; exact r1 j hj) j1 (by rw [hI_wI, if_pos ⟨rfl, rfl⟩, wix, if_pos c]) fu (by omega)
          rw [show ((i + 1 : Nat) : Int) = (i : Int) + 1 from by omega] at r
          exact r
        · rw [lg_cmp_eq, jv_eq (by omega) (by omega) (by omega) (by omega)] at c
          have r := ih (i + 1) h1 (by omega) f1 r1 j1 (by rw [w1, wix, if_neg c]) fu (by omega)
          rw [show ((i + 1 : Nat) : Int) = (i : Int) + 1 from by omega] at r
          exact r
    exact key 28 0 h (by omega) Fr7.rf (fun _ _ => rfl) rfl e6 N (by omega)
  · have go : Wp (Ta_readWord_b86 N (fu + 1) 7 (iv 0) h) (fun _ h2 => Fr7 h h2 ∧ (∀ j, j ≠ 6 → hI h2 7 j = hI h 7 j) ∧ hJ h2 = hJ h ∧ hI h2 7 6 = iv (tWx T L p)) := by
      rw [Ta_readWord_b86]
      refine Wp_ck (by rw [k7 x.1]) (Wp_bn (p7_9 x.1) (Wp_ck (by rw [k9 x.1]) ?_))
      rw [k9 x.1, iv_nat]
      refine Wp_ifn (by decide) ?_
      rw [e2, if_neg c8]
      refine Wp_ifn (by decide) (Wp_ret ⟨Fr7.rf, fun _ _ => rfl, rfl, ?_⟩)
      rw [e6]
      unfold tWx
      rw [if_neg (by rw [kd, if_neg c8]; omega)]
    rw [← efu] at go
    exact go
