/-! THE PURE PROOFS, 28: reading on: a fault (left), or a place (right). The class's way. -/
def stpR (T : Nat → Int) (L : Nat) (r : Int ⊕ Nat) : Int ⊕ Nat := match r with
  | .inl f => .inl f
  | .inr p => .inr (tE T L p)
def blmR (T : Nat → Int) (L : Nat) (k : Int) (r : Int ⊕ Nat) : Int ⊕ Nat := match r with
  | .inl f => .inl f
  | .inr p => .inl (k + 16 * (tB T L p : Nat))
def keyR (T : Nat → Int) (L : Nat) (w : Int) (r : Int ⊕ Nat) : Int ⊕ Nat := match r with
  | .inl f => .inl f
  | .inr p => if tWx T L p = w then .inr (tE T L p) else .inl (1 + 16 * (tB T L p : Nat))
def sgnR (T : Nat → Int) (L : Nat) (c : Int) (r : Int ⊕ Nat) : Int ⊕ Nat := match r with
  | .inl f => .inl f
  | .inr p => if tKd T L p = c then .inr (tE T L p) else .inl (1 + 16 * (tB T L p : Nat))
def numP (T : Nat → Int) (L : Nat) (lo hi : Int) (r : Int ⊕ Nat) : Int ⊕ Nat := match r with
  | .inl f => .inl f
  | .inr p => if tKd T L p = 1 then (if lo ≤ tNm T L p ∧ tNm T L p ≤ hi then .inr (tE T L p) else .inl (4 + 16 * (tB T L p : Nat))) else .inl (1 + 16 * (tB T L p : Nat))
def numZ (T : Nat → Int) (L : Nat) (lo hi : Int) (r : Int ⊕ Nat) : Int := match r with
  | .inl _ => 0
  | .inr p => if tKd T L p = 1 ∧ lo ≤ tNm T L p ∧ tNm T L p ≤ hi then tNm T L p else 0
def RdS (T : Nat → Int) (L : Nat) (r : Int ⊕ Nat) (h : PH) : Prop := match r with
  | .inl f => (0 < f ∧ f < 1048576) ∧ hI h 7 8 = iv f
  | .inr p => LexL T L p h ∧ p ≤ L
theorem kd_b {T : Nat → Int} {L p : Nat} (ok : ∀ k, k < L → T k = 10 ∨ (32 ≤ T k ∧ T k ≤ 126)) : 0 ≤ tKd T L p ∧ tKd T L p ≤ 126 := by
  unfold tKd
  split
  · omega
  · next c =>
    have := ok (tB T L p) (by omega)
    split
    · split <;> omega
    · split
      · split <;> omega
      · split <;> omega
theorem dv_b {f : Nat → Int} : ∀ n, n ≤ 4 → (∀ i, i < n → 48 ≤ f i ∧ f i ≤ 57) → 0 ≤ dv f n ∧ dv f n ≤ 9999 := by
  intro n hn hf
  have key : ∀ n, n ≤ 4 → (∀ i, i < n → 48 ≤ f i ∧ f i ≤ 57) → 0 ≤ dv f n ∧ dv f n < (10 : Int) ^ n := by
    intro n
    induction n with
    | zero => intro _ _; exact ⟨Int.le_refl _, by show (0 : Int) < 1; omega⟩
    | succ n ih =>
      intro h d
      have i := ih (by omega) (fun i hi => d i (by omega))
      have dn := d n (by omega)
      rw [dv, Int.pow_succ]
      omega
  have k := key n hn hf
  have w : (10 : Int) ^ n ≤ 10000 := by
    have c : n = 0 ∨ n = 1 ∨ n = 2 ∨ n = 3 ∨ n = 4 := by omega
    rcases c with rfl | rfl | rfl | rfl | rfl <;> decide
  omega
theorem tKd_1 {T : Nat → Int} {L p : Nat} (h : tKd T L p = 1) : tB T L p < L ∧ isLt (T (tB T L p)) = false ∧ isDg (T (tB T L p)) = true ∧ tSz T L p ≤ 4 := by
  unfold tKd at h
  split at h
  · omega
  · next c =>
    split at h
    · split at h <;> omega
    · next c1 =>
      split at h
      · next c2 =>
        split at h
        · next c3 => exact ⟨by omega, by simpa using c1, c2, c3⟩
        · omega
      · split at h
        · next c3 =>
          unfold isSg at c3
          rw [decide_eq_true_iff] at c3
          omega
        · omega
theorem tNm_b {T : Nat → Int} {L p : Nat} (h : tKd T L p = 1) : 0 ≤ tNm T L p ∧ tNm T L p ≤ 9999 := by
  obtain ⟨a, b, c, d⟩ := tKd_1 h
  refine dv_b _ d (fun i hi => ?_)
  unfold tSz at hi
  rw [if_neg (by omega), if_neg (by simp [b]), if_pos c] at hi
  have a := rnL_all isDg T L L (tB T L p) (by omega) i hi
  unfold isDg at a
  simpa using a
theorem tWx_b {T : Nat → Int} {L p : Nat} : -1 ≤ tWx T L p ∧ tWx T L p < 28 := by
  unfold tWx
  split
  · have := wix_b (tW 32 T L p) 28
    omega
  · omega
theorem flt_b {T : Nat → Int} {L p : Nat} {k : Int} (hp : p ≤ L) (hL : L ≤ 1000) (hk : 1 ≤ k ∧ k ≤ 5) : 0 < k + 16 * (tB T L p : Nat) ∧ k + 16 * (tB T L p : Nat) < 1048576 := by
  have := tB_le (T := T) hp
  omega
theorem stepR {N : Nat} {T : Nat → Int} {L : Nat} {r : Int ⊕ Nat} {h : PH} (hN : 1100 ≤ N) (x : TxL T L h) (s : RdS T L r h) : Wp (Ta_step N 7 h) (fun _ h2 => Fr7 h h2 ∧ RdS T L (stpR T L r) h2) := by
  have hL := x.2.2.1
  cases r with
  | inl f =>
    unfold Ta_step
    refine Wp_ck (by rw [k7 x.1]) ?_
    rw [s.2, il0]
    have := s.1
    exact Wp_ifn (by rw [iv_eq (by omega) (by omega) (by omega) (by omega)]; omega) (Wp_ret ⟨Fr7.rf, s⟩)
  | inr p =>
    have te := tE_le (T := T) s.2
    refine Wp_mono (stepL hN x te (by rw [s.1.1, s.1.2.1, iv_add]; rfl) s.1.2.2.2.2.2.2) ?_
    rintro - h2 ⟨f2, l2⟩
    exact ⟨f2, l2, te⟩
theorem blameR {N : Nat} {T : Nat → Int} {L : Nat} {r : Int ⊕ Nat} {h : PH} {k : Int} (x : TxL T L h) (s : RdS T L r h) (hk : 1 ≤ k ∧ k ≤ 5) : Wp (Ta_blame N 7 (iv k) h) (fun _ h2 => Fr7 h h2 ∧ RdS T L (blmR T L k r) h2) := by
  have hL := x.2.2.1
  unfold Ta_blame
  refine Wp_ck (by rw [k7 x.1]) ?_
  cases r with
  | inl f =>
    rw [s.2, il0]
    have := s.1
    exact Wp_ifn (by rw [iv_eq (by omega) (by omega) (by omega) (by omega)]; omega) (Wp_ret ⟨Fr7.rf, s⟩)
  | inr p =>
    have fb := flt_b (T := T) s.2 hL hk
    rw [s.1.2.2.2.2.2.2, s.1.1]
    refine Wp_ifp rfl (Wp_ltr ⟨Fr7.rf.w (by omega), fb, ?_⟩)
    rw [hI_wI, if_pos ⟨rfl, rfl⟩, show (16 : Int32) = iv 16 from iv_lit _, iv_mul, iv_add]
/-- the reader's way to the tape -/
theorem isWordL {N : Nat} {T : Nat → Int} {L p : Nat} {h : PH} {w : Int} (x : TxL T L h) (s : LexL T L p h) (hw : 0 ≤ w ∧ w < 28) : Ta_isWord N 7 (iv w) h = some (decide (tWx T L p = w), h) := by
  have kb := kd_b (p := p) x.2.2.2.1
  have wb := tWx_b (T := T) (L := L) (p := p)
  unfold Ta_isWord
  rw [ck_p (by rw [k7 x.1]), s.2.2.1, s.2.2.2.2.1, il2]
  simp only [show (iv (tKd T L p) = iv 2) ↔ tKd T L p = 2 from iv_eq (by omega) (by omega) (by omega) (by omega), show (iv (tWx T L p) = iv w) ↔ tWx T L p = w from iv_eq (by omega) (by omega) (by omega) (by omega)]
  by_cases c : tKd T L p = 2
  · rw [if_pos c]
    by_cases c2 : tWx T L p = w
    · rw [if_pos c2, decide_eq_true c2]
    · rw [if_neg c2, decide_eq_false c2]
  · rw [if_neg c, decide_eq_false]
    unfold tWx
    rw [if_neg c]
    omega
theorem isWordX {N : Nat} {h : PH} {w : Int32} (x : Shp h) : ∃ b, Ta_isWord N 7 w h = some (b, h) := by
  unfold Ta_isWord
  rw [ck_p (by rw [k7 x])]
  by_cases c : hI h 7 2 = 2
  · rw [if_pos c]
    by_cases c2 : hI h 7 6 = w
    · exact ⟨true, by rw [if_pos c2]⟩
    · exact ⟨false, by rw [if_neg c2]⟩
  · exact ⟨false, by rw [if_neg c]⟩
theorem keywordR {N : Nat} {T : Nat → Int} {L : Nat} {r : Int ⊕ Nat} {h : PH} {w : Int} (hN : 1100 ≤ N) (x : TxL T L h) (s : RdS T L r h) (hw : 0 ≤ w ∧ w < 28) : Wp (Re_keyword N 28 (iv w) h) (fun _ h2 => Fr7 h h2 ∧ RdS T L (keyR T L w r) h2) := by
  have end1 : ∀ (r2 : Int ⊕ Nat) (h1 : PH), Fr7 h h1 → RdS T L r2 h1 → stpR T L r2 = keyR T L w r → Wp (Re_keyword_b19 N 28 h1) (fun _ h2 => Fr7 h h2 ∧ RdS T L (keyR T L w r) h2) := by
    intro r2 h1 f1 s1 e
    have x1 := f1.tx x
    unfold Re_keyword_b19
    refine Wp_ck (by rw [k28 x1.1]) (Wp_bn (p28_0 x1.1) (Wp_ck (by rw [k7 x1.1]) (Wp_bd2 (stepR hN x1 s1) ?_)))
    rintro - h2 ⟨f2, s2⟩
    refine Wp_ret ⟨f1.tr f2, ?_⟩
    rw [← e]
    exact s2
  have bad : ∀ h1, h1 = h → stpR T L (blmR T L 1 r) = keyR T L w r → Wp (ck ((hK h1 28).1 = 4) <| ((hR h1 28 0)).bind fun a_10 => ck ((hK h1 a_10).1 = 8) <| bd (Ta_blame N a_10 1 h1) fun _ h14 => Re_keyword_b19 N 28 h14) (fun _ h2 => Fr7 h h2 ∧ RdS T L (keyR T L w r) h2) := by
    rintro h1 rfl e
    refine Wp_ck (by rw [k28 x.1]) (Wp_bn (p28_0 x.1) (Wp_ck (by rw [k7 x.1]) ?_))
    rw [il1]
    refine Wp_bd2 (blameR x s (by omega)) ?_
    rintro - h2 ⟨f2, s2⟩
    exact end1 _ h2 f2 s2 e
  unfold Re_keyword
  refine Wp_ck (by rw [k28 x.1]) (Wp_bn (p28_0 x.1) (Wp_ck (by rw [k7 x.1]) ?_))
  cases r with
  | inl f =>
    obtain ⟨b, eb⟩ := isWordX (N := N) (w := iv w) x.1
    refine Wp_bde eb ?_
    simp only [bI_0]
    refine Wp_if (fun c => ?_) (fun c => ?_)
    · exact bad h rfl rfl
    · exact end1 (.inl f) h Fr7.rf s rfl
  | inr p =>
    refine Wp_bde (isWordL x s.1 hw) ?_
    simp only [bI_0]
    by_cases c : tWx T L p = w
    · rw [decide_eq_true c]
      exact Wp_ifn (by decide) (end1 (.inr p) h Fr7.rf s (by unfold stpR keyR; dsimp only; rw [if_pos c]))
    · rw [decide_eq_false c]
      exact Wp_ifp rfl (bad h rfl (by unfold stpR blmR keyR; dsimp only; rw [if_neg c]))
theorem signR {N : Nat} {T : Nat → Int} {L : Nat} {r : Int ⊕ Nat} {h : PH} {c : Int} (hN : 1100 ≤ N) (x : TxL T L h) (s : RdS T L r h) (hc : 0 ≤ c ∧ c < 1000) : Wp (Re_sign N 28 (iv c) h) (fun _ h2 => Fr7 h h2 ∧ RdS T L (sgnR T L c r) h2) := by
  have end1 : ∀ (r2 : Int ⊕ Nat) (h1 : PH), Fr7 h h1 → RdS T L r2 h1 → stpR T L r2 = sgnR T L c r → Wp (Re_sign_b19 N 28 h1) (fun _ h2 => Fr7 h h2 ∧ RdS T L (sgnR T L c r) h2) := by
    intro r2 h1 f1 s1 e
    have x1 := f1.tx x
    unfold Re_sign_b19
    refine Wp_ck (by rw [k28 x1.1]) (Wp_bn (p28_0 x1.1) (Wp_ck (by rw [k7 x1.1]) (Wp_bd2 (stepR hN x1 s1) ?_)))
    rintro - h2 ⟨f2, s2⟩
    refine Wp_ret ⟨f1.tr f2, ?_⟩
    rw [← e]
    exact s2
  have bad : stpR T L (blmR T L 1 r) = sgnR T L c r → Wp (bd (Ta_blame N 7 1 h) fun _ h14 => Re_sign_b19 N 28 h14) (fun _ h2 => Fr7 h h2 ∧ RdS T L (sgnR T L c r) h2) := by
    intro e
    rw [il1]
    refine Wp_bd2 (blameR x s (by omega)) ?_
    rintro - h2 ⟨f2, s2⟩
    exact end1 _ h2 f2 s2 e
  unfold Re_sign
  refine Wp_ck (by rw [k28 x.1]) (Wp_bn (p28_0 x.1) (Wp_ck (by rw [k7 x.1]) ?_))
  cases r with
  | inl f =>
    refine Wp_if (fun d => ?_) (fun d => ?_)
    · exact end1 (.inl f) h Fr7.rf s rfl
    · exact bad rfl
  | inr p =>
    have kb := kd_b (p := p) x.2.2.2.1
    rw [s.1.2.2.1]
    refine Wp_if (fun d => ?_) (fun d => ?_)
    · rw [iv_eq (by omega) (by omega) (by omega) (by omega)] at d
      exact end1 (.inr p) h Fr7.rf s (by unfold stpR sgnR; dsimp only; rw [if_pos d])
    · rw [iv_eq (by omega) (by omega) (by omega) (by omega)] at d
      exact bad (by unfold stpR blmR sgnR; dsimp only; rw [if_neg d])
theorem isNumL {N : Nat} {T : Nat → Int} {L p : Nat} {h : PH} {lo hi : Int} (x : TxL T L h) (s : LexL T L p h) (hl : -100000 ≤ lo ∧ lo ≤ 100000) (hh : -100000 ≤ hi ∧ hi ≤ 100000) : Ta_isNumber N 7 (iv lo) (iv hi) h = some (decide (tKd T L p = 1 ∧ lo ≤ tNm T L p ∧ tNm T L p ≤ hi), h) := by
  have kb := kd_b (p := p) x.2.2.2.1
  unfold Ta_isNumber
  rw [ck_p (by rw [k7 x.1]), s.2.2.1, il1]
  simp only [show (iv (tKd T L p) = iv 1) ↔ tKd T L p = 1 from iv_eq (by omega) (by omega) (by omega) (by omega)]
  by_cases c : tKd T L p = 1
  · have nb := tNm_b c
    rw [if_pos c, s.2.2.2.1 c]
    simp only [show (iv (tNm T L p) < iv lo) ↔ tNm T L p < lo from iv_lt (by omega) (by omega) (by omega) (by omega), show (iv hi < iv (tNm T L p)) ↔ hi < tNm T L p from iv_lt (by omega) (by omega) (by omega) (by omega)]
    by_cases c2 : tNm T L p < lo
    · rw [if_pos c2, decide_eq_false (by omega)]
    · rw [if_neg c2]
      by_cases c3 : hi < tNm T L p
      · rw [if_pos c3, decide_eq_false (by omega)]
      · rw [if_neg c3, decide_eq_true (by omega)]
  · rw [if_neg c, decide_eq_false (by omega)]
theorem isNumX {N : Nat} {h : PH} {lo hi : Int32} (x : Shp h) : ∃ b, Ta_isNumber N 7 lo hi h = some (b, h) := by
  unfold Ta_isNumber
  rw [ck_p (by rw [k7 x])]
  by_cases c : hI h 7 2 = 1
  · rw [if_pos c]
    by_cases c2 : hI h 7 5 < lo
    · exact ⟨false, by rw [if_pos c2]⟩
    · rw [if_neg c2]
      by_cases c3 : hi < hI h 7 5
      · exact ⟨false, by rw [if_pos c3]⟩
      · exact ⟨true, by rw [if_neg c3]⟩
  · exact ⟨false, by rw [if_neg c]⟩
theorem numberR {N : Nat} {T : Nat → Int} {L : Nat} {r : Int ⊕ Nat} {h : PH} {lo hi : Int} (hN : 1100 ≤ N) (x : TxL T L h) (s : RdS T L r h) (hl : -100000 ≤ lo ∧ lo ≤ 100000) (hh : -100000 ≤ hi ∧ hi ≤ 100000) : Wp (Re_number N 28 (iv lo) (iv hi) h) (fun v h2 => v = iv (numZ T L lo hi r) ∧ Fr7 h h2 ∧ RdS T L (numP T L lo hi r) h2) := by
  have end1 : ∀ (z : Int32) (r2 : Int ⊕ Nat) (h1 : PH), Fr7 h h1 → RdS T L r2 h1 → stpR T L r2 = numP T L lo hi r → ((∃ p, numP T L lo hi r = .inr p) → z = iv (numZ T L lo hi r)) → ((∃ f, numP T L lo hi r = .inl f) → numZ T L lo hi r = 0) → Wp (Re_number_b50 N 28 z h1) (fun v h2 => v = iv (numZ T L lo hi r) ∧ Fr7 h h2 ∧ RdS T L (numP T L lo hi r) h2) := by
    intro z r2 h1 f1 s1 e e2 e3
    have x1 := f1.tx x
    unfold Re_number_b50
    refine Wp_ck (by rw [k28 x1.1]) (Wp_bn (p28_0 x1.1) (Wp_ck (by rw [k7 x1.1]) (Wp_bd2 (stepR hN x1 s1) ?_)))
    rintro - h2 ⟨f2, s2⟩
    have x2 := f2.tx x1
    rw [e] at s2
    refine Wp_ck (by rw [k28 x2.1]) (Wp_bn (p28_0 x2.1) (Wp_ck (by rw [k7 x2.1]) ?_))
    generalize eq : numP T L lo hi r = q at s2 e e2 e3 ⊢
    cases q with
    | inl f =>
      rw [s2.2, il0]
      have := s2.1
      refine Wp_ifn (by rw [iv_eq (by omega) (by omega) (by omega) (by omega)]; omega) (Wp_ret ⟨?_, f1.tr f2, s2⟩)
      rw [e3 ⟨f, rfl⟩]
    | inr p =>
      rw [s2.1.2.2.2.2.2.2]
      refine Wp_ifp rfl (Wp_ret ⟨e2 ⟨p, rfl⟩, f1.tr f2, s2⟩)
  unfold Re_number
  refine Wp_ck (by rw [k28 x.1]) (Wp_bn (p28_0 x.1) (Wp_ck (by rw [k7 x.1]) ?_))
  cases r with
  | inl f =>
    have no : ∀ z h1, Fr7 h h1 → RdS T L (.inl f) h1 → Wp (Re_number_b50 N 28 z h1) (fun v h2 => v = iv (numZ T L lo hi (.inl f)) ∧ Fr7 h h2 ∧ RdS T L (numP T L lo hi (.inl f)) h2) := by
      intro z h1 f1 s1
      exact end1 z (.inl f) h1 f1 s1 rfl (fun ⟨p, e⟩ => by cases e) (fun _ => rfl)
    refine Wp_if (fun c => ?_) (fun c => ?_)
    · obtain ⟨b, eb⟩ := isNumX (N := N) (lo := iv lo) (hi := iv hi) x.1
      refine Wp_bde eb ?_
      simp only [bI_0]
      refine Wp_if (fun c => ?_) (fun c => ?_)
      · refine Wp_ck (by rw [k28 x.1]) (Wp_bn (p28_0 x.1) (Wp_ck (by rw [k7 x.1]) ?_))
        rw [il4]
        refine Wp_bd2 (blameR x s (by omega)) ?_
        rintro - h2 ⟨f2, s2⟩
        exact no _ h2 f2 s2
      · exact no _ h Fr7.rf s
    · rw [il1]
      refine Wp_bd2 (blameR x s (by omega)) ?_
      rintro - h2 ⟨f2, s2⟩
      exact no _ h2 f2 s2
  | inr p =>
    have kb := kd_b (p := p) x.2.2.2.1
    rw [s.1.2.2.1, il1]
    refine Wp_if (fun c => ?_) (fun c => ?_)
    · rw [iv_eq (by omega) (by omega) (by omega) (by omega)] at c
      rw [s.1.2.2.2.1 c]
      refine Wp_bde (isNumL x s.1 hl hh) ?_
      simp only [bI_0]
      by_cases c2 : lo ≤ tNm T L p ∧ tNm T L p ≤ hi
      · have z : numZ T L lo hi (.inr p) = tNm T L p := by unfold numZ; dsimp only; rw [if_pos ⟨c, c2⟩]
        have e : numP T L lo hi (.inr p) = .inr (tE T L p) := by unfold numP; dsimp only; rw [if_pos c, if_pos c2]
        rw [decide_eq_true ⟨c, c2⟩]
        exact Wp_ifn (by decide) (end1 _ (.inr p) h Fr7.rf s (by rw [e]; rfl) (fun _ => by rw [z]) (fun ⟨f, e2⟩ => by rw [e] at e2; cases e2))
      · have z : numZ T L lo hi (.inr p) = 0 := by unfold numZ; dsimp only; rw [if_neg (by omega)]
        have e : numP T L lo hi (.inr p) = .inl (4 + 16 * (tB T L p : Nat)) := by unfold numP; dsimp only; rw [if_pos c, if_neg c2]
        rw [decide_eq_false (by omega)]
        refine Wp_ifp rfl (Wp_ck (by rw [k28 x.1]) (Wp_bn (p28_0 x.1) (Wp_ck (by rw [k7 x.1]) ?_)))
        rw [il4]
        refine Wp_bd2 (blameR x s (by omega)) ?_
        rintro - h2 ⟨f2, s2⟩
        exact end1 _ _ h2 f2 s2 (by rw [e]; rfl) (fun ⟨p, e2⟩ => by rw [e] at e2; cases e2) (fun _ => z)
    · rw [iv_eq (by omega) (by omega) (by omega) (by omega)] at c
      have z : numZ T L lo hi (.inr p) = 0 := by unfold numZ; dsimp only; rw [if_neg (by omega)]
      have e : numP T L lo hi (.inr p) = .inl (1 + 16 * (tB T L p : Nat)) := by unfold numP; dsimp only; rw [if_neg c]
      refine Wp_bd2 (blameR x s (by omega)) ?_
      rintro - h2 ⟨f2, s2⟩
      exact end1 _ _ h2 f2 s2 (by rw [e]; rfl) (fun ⟨p, e2⟩ => by rw [e] at e2; cases e2) (fun _ => z)
theorem hasMoreL {N : Nat} {T : Nat → Int} {L p : Nat} {h : PH} (x : TxL T L h) (s : LexL T L p h) : Re_hasMore N 28 h = some (decide (tKd T L p ≠ 3), h) := by
  have kb := kd_b (p := p) x.2.2.2.1
  unfold Re_hasMore
  rw [ck_p (by rw [k28 x.1]), p28_0 x.1, bn_s, ck_p (by rw [k7 x.1]), s.2.2.2.2.2.2, il0, if_pos rfl, s.2.2.1, il3]
  simp only [show (iv (tKd T L p) = iv 3) ↔ tKd T L p = 3 from iv_eq (by omega) (by omega) (by omega) (by omega)]
  by_cases c : tKd T L p = 3
  · rw [if_pos c, decide_eq_false (by omega)]
  · rw [if_neg c, decide_eq_true c]
theorem hasMoreF {N : Nat} {f : Int} {h : PH} (x : Shp h) (hf : 0 < f ∧ f < 1048576) (e : hI h 7 8 = iv f) : Re_hasMore N 28 h = some (false, h) := by
  unfold Re_hasMore
  rw [ck_p (by rw [k28 x]), p28_0 x, bn_s, ck_p (by rw [k7 x]), e, il0, if_neg (by rw [iv_eq (by omega) (by omega) (by omega) (by omega)]; omega)]
