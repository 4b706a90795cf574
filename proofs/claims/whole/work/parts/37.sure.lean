/-! THE PURE PROOFS, 15: SURELY. -/
def sT (H C : Nat → Int) (each : Int) (nx : Int → Int → Int) (q t w k : Int) : Int := if k + w = 0 ∨ each * (k + w - 1) < t then cw C 0 q k * nx (max 0 (t - each * (k + w))) (isW H each (k + w)) else 0
def sM (H C : Nat → Int) (each : Int) (nx : Int → Int → Int) (q t w : Int) : Int := (sT H C each nx q t w 0 + sT H C each nx q t w 1 + sT H C each nx q t w 2 + sT H C each nx q t w 3).tdiv 10
def SF (H C : Nat → Int) (each : Int) : Nat → Int → Int → Int
  | 0 => fun _ _ => 1000000
  | n + 1 => fun t w => sM H C each (SF H C each n) (H 0 - (n + 1)) t w
def Sq (H C : Nat → Int) (each q t w : Int) : Int := SF H C each (H 0 - q).toNat t w
theorem Sq_end {H C : Nat → Int} {each q t w : Int} (h : q = H 0) : Sq H C each q t w = 1000000 := by
  unfold Sq
  rw [h, show (H 0 - H 0).toNat = 0 from by omega]
  rfl
theorem Sq_lt {H C : Nat → Int} {each q t w : Int} (h : q < H 0) : Sq H C each q t w = sM H C each (Sq H C each (q + 1)) q t w := by
  have e : (H 0 - q).toNat = (H 0 - (q + 1)).toNat + 1 := by omega
  have e2 : H 0 - (((H 0 - (q + 1)).toNat : Int) + 1) = q := by omega
  unfold Sq
  rw [e]
  show sM H C each (SF H C each (H 0 - (q + 1)).toNat) (H 0 - (((H 0 - (q + 1)).toNat : Int) + 1)) t w = _
  rw [e2]
  try rfl
def BS (H : Nat → Int) (nx : Int → Int → Int) : Prop := ∀ t w, 0 ≤ t → t ≤ H 1 → (w = 0 ∨ w = 1) → 0 ≤ nx t w ∧ nx t w ≤ 1000000
theorem sT_b {H C : Nat → Int} (ho : HOK H C) {each : Int} {nx : Int → Int → Int} (b : BS H nx) {q t w k : Int} (he : 1 ≤ each ∧ each ≤ 3) (hq : 0 ≤ q ∧ q < 24) (ht : 0 ≤ t ∧ t ≤ H 1) (hw : w = 0 ∨ w = 1) (hk : 0 ≤ k ∧ k < 4) : 0 ≤ sT H C each nx q t w k ∧ sT H C each nx q t w k ≤ cw C 0 q k * 1000000 := by
  have cb := cw_b ho (wet := 0) hq hk
  have hx : 0 ≤ each * (k + w) := Int.mul_nonneg (by omega) (by omega)
  have nb := b (max 0 (t - each * (k + w))) (isW H each (k + w)) (by omega) (by omega) (isW_01 H each (k + w))
  unfold sT
  split
  · exact ⟨Int.mul_nonneg cb.1 nb.1, Int.mul_le_mul_of_nonneg_left nb.2 cb.1⟩
  · exact ⟨Int.le_refl _, Int.mul_nonneg cb.1 (by omega)⟩
theorem sM_b {H C : Nat → Int} (ho : HOK H C) {each : Int} {nx : Int → Int → Int} (b : BS H nx) {q t w : Int} (he : 1 ≤ each ∧ each ≤ 3) (hq : 0 ≤ q ∧ q < 24) (ht : 0 ≤ t ∧ t ≤ H 1) (hw : w = 0 ∨ w = 1) : (0 ≤ sT H C each nx q t w 0 + sT H C each nx q t w 1 + sT H C each nx q t w 2 + sT H C each nx q t w 3 ∧ sT H C each nx q t w 0 + sT H C each nx q t w 1 + sT H C each nx q t w 2 + sT H C each nx q t w 3 ≤ 10000000) ∧ 0 ≤ sM H C each nx q t w ∧ sM H C each nx q t w ≤ 1000000 := by
  have s0 := sT_b ho b he hq ht hw (k := 0) (by omega)
  have s1 := sT_b ho b he hq ht hw (k := 1) (by omega)
  have s2 := sT_b ho b he hq ht hw (k := 2) (by omega)
  have s3 := sT_b ho b he hq ht hw (k := 3) (by omega)
  have cs := cw_sum ho (wet := 0) hq
  have m : 0 ≤ sT H C each nx q t w 0 + sT H C each nx q t w 1 + sT H C each nx q t w 2 + sT H C each nx q t w 3 ∧ sT H C each nx q t w 0 + sT H C each nx q t w 1 + sT H C each nx q t w 2 + sT H C each nx q t w 3 ≤ 10000000 := by omega
  refine ⟨m, ?_⟩
  unfold sM
  rw [td10 m.1]
  omega
theorem Sq_bs {H C : Nat → Int} (ho : HOK H C) {each : Int} (he : 1 ≤ each ∧ each ≤ 3) : ∀ (n : Nat) (q : Int), 0 ≤ q → q + n = H 0 → BS H (Sq H C each q)
  | 0, q, hq, e => by
    intro t w t0 t1 hw
    rw [Sq_end (by omega)]
    omega
  | n + 1, q, hq, e => by
    intro t w t0 t1 hw
    have ih := Sq_bs (H := H) (C := C) ho he n (q + 1) (by omega) (by omega)
    have h0 := ho.1
    rw [Sq_lt (by omega)]
    exact (sM_b ho ih he (by omega) ⟨t0, t1⟩ hw).2
theorem Sq_b {H C : Nat → Int} (ho : HOK H C) {each : Int} (he : 1 ≤ each ∧ each ≤ 3) {q : Int} (hq : 0 ≤ q ∧ q ≤ H 0) : BS H (Sq H C each q) := Sq_bs ho he (H 0 - q).toNat q hq.1 (by omega)
/-! ### the class's way -/
def SSh (b : Nat) : Prop := b = 52 ∨ b = 53 ∨ b = 54 ∨ b = 55
/-- which of its two rows is now, which next -/
def ShS (nw nx : Nat) (h : PH) : Prop := Shp h ∧ hR h 52 2 = some nw ∧ hR h 52 3 = some nx ∧ ((nw = 54 ∧ nx = 55) ∨ (nw = 55 ∧ nx = 54))
theorem ShS.k {nw nx : Nat} {h : PH} (x : ShS nw nx h) : hK h nw = (20, 242) ∧ hK h nx = (20, 242) := by
  obtain ⟨s, -, -, c⟩ := x
  rcases c with ⟨rfl, rfl⟩ | ⟨rfl, rfl⟩
  · exact ⟨k54 s, k55 s⟩
  · exact ⟨k55 s, k54 s⟩
theorem ShS.fr {nw nx : Nat} {h h2 : PH} {S : Nat → Prop} (x : ShS nw nx h) (f : FrI S h h2) : ShS nw nx h2 := ⟨f.shp x.1, by rw [f.2.2.1]; exact x.2.1, by rw [f.2.2.1]; exact x.2.2.1, x.2.2.2⟩
def RowS (H : Nat → Int) (f : Int → Int → Int) (a : Nat) (h : PH) : Prop := ∀ t w : Int, 0 ≤ t → t ≤ H 1 → (w = 0 ∨ w = 1) → hI h a (t * 2 + w).toNat = iv (f t w)
theorem sureMeanL {N nw nx : Nat} {H C : Nat → Int} {each q t w : Int} {f : Int → Int → Int} {h : PH} (hN : 100 ≤ N) (ho : HOK H C) (hs : HsL 10 H C h) (sh : ShS nw nx h) (row : RowS H f nx h) (b : BS H f) (he : 1 ≤ each ∧ each ≤ 3) (hq : 0 ≤ q ∧ q < H 0) (ht : 0 ≤ t ∧ t ≤ H 1) (hw : w = 0 ∨ w = 1) : Sh_sureMean N 52 (iv q) (iv each) (iv t) (iv w) h = some (iv (sM H C each f q t w), h) := by
  have h01 := ho.1
  have h11 := ho.2.1
  have s := sh.1
  have mb := sM_b ho b he (q := q) (by omega) ht hw
  have step : ∀ (fu : Nat) (k sum : Int), 0 ≤ k → k ≤ 3 → Sh_sureMean_b6 N (fu + 1) 52 (iv q) (iv each) (iv t) (iv w) (iv sum) (iv k) h = Sh_sureMean_b6 N fu 52 (iv q) (iv each) (iv t) (iv w) (iv (sum + sT H C each f q t w k)) (iv (k + 1)) h := by
    intro fu k sum k0 k3
    have cb := cw_b ho (wet := 0) (q := q) (k := k) (by omega) (by omega)
    have hx : 0 ≤ each * (k + w) ∧ each * (k + w) ≤ 3 * 4 := ⟨Int.mul_nonneg (by omega) (by omega), Int.mul_le_mul he.2 (by omega) (by omega) (by omega)⟩
    have hx2 : -3 ≤ each * (k + w - 1) ∧ each * (k + w - 1) ≤ 12 := by rw [Int.mul_sub, Int.mul_one]; omega
    have yes : (k + w = 0 ∨ each * (k + w - 1) < t) → Sh_sureMean_b34 N (Sh_sureMean_b6 N fu) 52 (iv q) (iv each) (iv t) (iv w) (iv sum) (iv k) (iv (k + w)) h = Sh_sureMean_b6 N fu 52 (iv q) (iv each) (iv t) (iv w) (iv (sum + sT H C each f q t w k)) (iv (k + 1)) h := by
      intro c
      have fin : ∀ z : Int, (z = 0 ∨ z = 1) → z = isW H each (k + w) → Sh_sureMean_b85 N (Sh_sureMean_b6 N fu) (iv sum) (iv (cw C 0 q k)) (some nx) (iv (max 0 (t - each * (k + w)) * 2)) (iv z) 52 (iv q) (iv each) (iv t) (iv w) (iv k) h = Sh_sureMean_b6 N fu 52 (iv q) (iv each) (iv t) (iv w) (iv (sum + sT H C each f q t w k)) (iv (k + 1)) h := by
        intro z z01 ez
        unfold Sh_sureMean_b85 Sh_sureMean_b93
        rw [iv_add, at_in sh.k.2 (by omega) (by omega) (by omega), bd_s, row _ z (by omega) (by omega) z01, iv_mul, iv_add, il1, iv_add]
        unfold sT
        rw [if_pos c, ez]
      unfold Sh_sureMean_b34
      rw [ck_p (by rw [k52 s]), p52_1 s, bn_s, ck_p (by rw [k10 s]), il0, chL_eq s hs (Or.inl rfl) (by omega) (by omega), bd_s, ck_p (by rw [k52 s]), p52_1 s, bn_s, ck_p (by rw [k10 s]), isW_eq s ho hs (by omega) (by omega), bd_s, ← il0]
      simp only [bI_0]
      rw [il0, il1, il2, sh.2.2.1, iv_mul, iv_sub, iv_mx (by omega) (by omega) (by omega) (by omega), iv_mul]
      rcases isW_01 H each (k + w) with e | e
      · rw [e, if_pos (by decide)]
        exact fin 0 (Or.inl rfl) e.symm
      · rw [e, if_neg (by decide)]
        exact fin 1 (Or.inr rfl) e.symm
    rw [Sh_sureMean_b6]
    dsimp only
    rw [il3, if_neg (by rw [iv_lt (by omega) (by omega) (by omega) (by omega)]; omega), iv_add, il1, iv_sub, iv_mul, il0]
    simp only [show (iv (k + w) = iv 0) ↔ k + w = 0 from iv_eq (by omega) (by omega) (by omega) (by omega), show (iv t ≤ iv (each * (k + w - 1))) ↔ t ≤ each * (k + w - 1) from iv_le (by omega) (by omega) (by omega) (by omega)]
    by_cases c : k + w = 0
    · rw [if_pos c]
      exact yes (Or.inl c)
    · rw [if_neg c]
      by_cases c2 : t ≤ each * (k + w - 1)
      · rw [if_pos c2]
        unfold Sh_sureMean_b93
        have e0 : sT H C each f q t w k = 0 := by unfold sT; rw [if_neg (by omega)]
        rw [e0, Int.add_zero, il1, iv_add]
      · rw [if_neg c2]
        exact yes (Or.inr (by omega))
  obtain ⟨fu, rfl⟩ : ∃ g, N = g + 1 + 1 + 1 + 1 + 1 := ⟨N - 5, by omega⟩
  unfold Sh_sureMean
  rw [il0, step _ 0 0 (by omega) (by omega), show (0 : Int) + 1 = 1 from rfl, step _ 1 _ (by omega) (by omega), show (1 : Int) + 1 = 2 from rfl, step _ 2 _ (by omega) (by omega), show (2 : Int) + 1 = 3 from rfl, step _ 3 _ (by omega) (by omega), show (3 : Int) + 1 = 4 from rfl, Sh_sureMean_b6]
  dsimp only
  have e : (0 : Int) + sT H C each f q t w 0 + sT H C each f q t w 1 + sT H C each f q t w 2 + sT H C each f q t w 3 = sT H C each f q t w 0 + sT H C each f q t w 1 + sT H C each f q t w 2 + sT H C each f q t w 3 := by omega
  rw [if_pos (by decide), ck_p (by decide), il10, e, iv_div (by omega) (by omega) (by omega) (by omega)]
  rfl
def DoneS (H : Nat → Int) (f : Int → Int → Int) (a : Nat) (t : Int) (h : PH) : Prop := ∀ t2 w : Int, 0 ≤ t2 → t2 ≤ H 1 → t2 < t → (w = 0 ∨ w = 1) → hI h a (t2 * 2 + w).toNat = iv (f t2 w)
theorem sure47 {N nw nx : Nat} {H C : Nat → Int} {each q : Int} {x2 : Int32} {K : Nat → Int32 → Int32 → Int32 → PH → Option (Unit × PH)} {Q : Unit → PH → Prop} (hN : 100 ≤ N) (ho : HOK H C) (he : 1 ≤ each ∧ each ≤ 3) (hq : 0 ≤ q ∧ q < H 0) {h0 : PH} (kk : ∀ h2, FrI SSh h0 h2 → HsL 10 H C h2 → ShS nw nx h2 → RowS H (Sq H C each q) nw h2 → Wp (K 52 (iv each) x2 (iv (q - 1)) h2) Q) : ∀ (m : Nat) (t : Int) (h : PH), t + m = H 1 + 1 → 0 ≤ t → HsL 10 H C h → ShS nw nx h → FrI SSh h0 h → RowS H (Sq H C each (q + 1)) nx h → DoneS H (Sq H C each q) nw t h → ∀ fuel, m < fuel → Wp (Sh_goBack_b47 N K fuel 52 (iv each) x2 (iv q) (iv t) h) Q := by
  intro m
  have h01 := ho.1
  have h11 := ho.2.1
  induction m with
  | zero =>
    intro t h e ht hs sh fr row d fuel hf
    obtain ⟨fu, rfl⟩ : ∃ fu, fuel = fu + 1 := ⟨fuel - 1, by omega⟩
    have s := sh.1
    rw [Sh_goBack_b47]
    refine Wp_ck (by rw [k52 s]) (Wp_bn (p52_1 s) (Wp_ck (by rw [k10 s]) ?_))
    rw [hs.2.1, il1, iv_neg, iv_add, show q + -1 = q - 1 from by omega]
    refine Wp_ifp (by rw [iv_lt (by omega) (by omega) (by omega) (by omega)]; omega) ?_
    exact kk h fr hs sh (fun t2 w b0 b1 b2 => d t2 w b0 b1 (by omega) b2)
  | succ m ih =>
    intro t h e ht hs sh fr row d fuel hf
    obtain ⟨fu, rfl⟩ : ∃ fu, fuel = fu + 1 := ⟨fuel - 1, by omega⟩
    have s := sh.1
    have c := sh.2.2.2
    have b := Sq_b ho he (q := q + 1) (by omega)
    have f1 : FrI (fun b => b = nw) h (wI h nw (t * 2).toNat (iv (sM H C each (Sq H C each (q + 1)) q t 0))) := FrI.rf.w1
    have f1s : FrI SSh h (wI h nw (t * 2).toNat (iv (sM H C each (Sq H C each (q + 1)) q t 0))) := f1.up (fun b e => by unfold SSh; omega)
    have hs1 : HsL 10 H C (wI h nw (t * 2).toNat (iv (sM H C each (Sq H C each (q + 1)) q t 0))) := hs.fr f1.s (by omega) (by omega) (by omega) (by omega)
    have sh1 := sh.fr f1
    have row1 : RowS H (Sq H C each (q + 1)) nx (wI h nw (t * 2).toNat (iv (sM H C each (Sq H C each (q + 1)) q t 0))) := fun t2 w b0 b1 b2 => (f1.I (by omega) _).trans (row t2 w b0 b1 b2)
    rw [Sh_goBack_b47]
    refine Wp_ck (by rw [k52 s]) (Wp_bn (p52_1 s) (Wp_ck (by rw [k10 s]) ?_))
    rw [hs.2.1]
    refine Wp_ifn (by rw [iv_lt (by omega) (by omega) (by omega) (by omega)]; omega) ?_
    rw [il0, il1, il2]
    refine Wp_bde (sureMeanL hN ho hs sh row b he hq ⟨ht, by omega⟩ (Or.inl rfl)) ?_
    rw [sh.2.1, iv_mul]
    refine Wp_bde (put_in sh.k.1 (by omega) (by omega) (by omega)) (Wp_ck (by rw [hK_wI, k52 s]) ?_)
    refine Wp_bde (sureMeanL hN ho hs1 sh1 row1 b he hq ⟨ht, by omega⟩ (Or.inr rfl)) ?_
    rw [sh1.2.1, iv_add]
    refine Wp_bde (put_in sh1.k.1 (by omega) (by omega) (by omega)) ?_
    rw [iv_add]
    have f2 : FrI (fun b => b = nw) h (wI (wI h nw (t * 2).toNat (iv (sM H C each (Sq H C each (q + 1)) q t 0))) nw (t * 2 + 1).toNat (iv (sM H C each (Sq H C each (q + 1)) q t 1))) := f1.w1
    have f2s : FrI SSh h (wI (wI h nw (t * 2).toNat (iv (sM H C each (Sq H C each (q + 1)) q t 0))) nw (t * 2 + 1).toNat (iv (sM H C each (Sq H C each (q + 1)) q t 1))) := f2.up (fun b e => by unfold SSh; omega)
    refine ih (t + 1) _ (by omega) (by omega) (hs.fr f2.s (by omega) (by omega) (by omega) (by omega)) (sh.fr f2) (fr.tr f2s) (fun t2 w b0 b1 b2 => (f2.I (by omega) _).trans (row t2 w b0 b1 b2)) ?_ fu (by omega)
    intro t2 w b0 b1 b2 b3
    rw [hI_wI, hI_wI]
    by_cases ct : t2 = t
    · rcases b3 with rfl | rfl
      · rw [if_neg (by omega), if_pos (by omega), ct, Sq_lt hq.2]
      · rw [if_pos (by omega), ct, Sq_lt hq.2]
    · rw [if_neg (by omega), if_neg (by omega)]
      exact d t2 w b0 b1 (by omega) b3
theorem swapS {N nw nx : Nat} {h : PH} (sh : ShS nw nx h) : ∃ h2, Sh_swap N 52 h = some ((), h2) ∧ ShS nx nw h2 ∧ FrH SSh h h2 ∧ hI h2 = hI h ∧ hN h2 = hN h ∧ hS h2 = hS h := by
  have s := sh.1
  obtain ⟨-, r2, r3, c⟩ := sh
  have np : ∀ q ∈ PL, ¬ (q.1.1 = 52 ∧ (q.1.2 = 2 ∨ q.1.2 = 3)) := by decide +kernel
  have f : FrH SSh h (wR (wR h 52 2 (some nx)) 52 3 (some nw)) := (FrH.rf.aR (Or.inl rfl) (fun q hq e => np q hq ⟨e.1, Or.inl e.2⟩)).aR (Or.inl rfl) (fun q hq e => np q hq ⟨e.1, Or.inr e.2⟩)
  refine ⟨wR (wR h 52 2 (some nx)) 52 3 (some nw), ?_, ⟨f.1 s, ?_, ?_, by omega⟩, f, rfl, rfl, rfl⟩
  · unfold Sh_swap
    rw [ck_p (by rw [k52 s]), r2, r3]
    rfl
  · rw [hR_wR, if_neg (by omega), hR_wR, if_pos ⟨rfl, rfl⟩]
  · rw [hR_wR, if_pos ⟨rfl, rfl⟩]
theorem sure35 {N : Nat} {H C : Nat → Int} {each q0 : Int} (hN0 : 200 ≤ N) (ho : HOK H C) (he : 1 ≤ each ∧ each ≤ 3) (hq0 : 0 ≤ q0 ∧ q0 ≤ H 0) {h0 : PH} (hn : 127 ≤ hN h0) : ∀ (m : Nat) (q : Int) (nw nx : Nat) (h : PH), q = q0 + m → q ≤ H 0 → HsL 10 H C h → ShS nw nx h → FrH SSh h0 h → hN h = hN h0 → hS h = hS h0 → RowS H (Sq H C each q) nw h → ∀ fuel, m < fuel → Wp (Sh_goBack_b35 N fuel 52 (iv each) (iv q0) (iv (q - 1)) h) (fun _ h2 => ∃ nw2 nx2, FrH SSh h0 h2 ∧ hN h2 = hN h0 ∧ hS h2 = hS h0 ∧ HsL 10 H C h2 ∧ ShS nw2 nx2 h2 ∧ RowS H (Sq H C each q0) nw2 h2) := by
  intro m
  have h01 := ho.1
  have h11 := ho.2.1
  induction m with
  | zero =>
    intro q nw nx h e hq hs sh fr n1 m1 row fuel hf
    obtain ⟨fu, rfl⟩ : ∃ fu, fuel = fu + 1 := ⟨fuel - 1, by omega⟩
    have eq : q = q0 := by omega
    subst eq
    rw [Sh_goBack_b35]
    exact Wp_ifp (by rw [iv_lt (by omega) (by omega) (by omega) (by omega)]; omega) (Wp_ret ⟨nw, nx, fr, n1, m1, hs, sh, row⟩)
  | succ m ih =>
    intro q nw nx h e hq hs sh fr n1 m1 row fuel hf
    obtain ⟨fu, rfl⟩ : ∃ fu, fuel = fu + 1 := ⟨fuel - 1, by omega⟩
    have s := sh.1
    obtain ⟨h1, e1, sh1, f1, i1, n2, m2⟩ := swapS (N := N) sh
    have hs1 : HsL 10 H C h1 := hs.frH f1 (by omega) (by unfold SSh; omega) (by unfold SSh; omega) (by unfold SSh; omega) (by unfold SSh; omega)
    rw [Sh_goBack_b35]
    refine Wp_ifn (by rw [iv_lt (by omega) (by omega) (by omega) (by omega)]; omega) (Wp_ck (by rw [k52 s]) (Wp_bde e1 ?_))
    rw [il0]
    refine sure47 (by omega) ho he ⟨by omega, by omega⟩ (h0 := h1) ?_ (H 1 + 1).toNat 0 h1 (by omega) (by omega) hs1 sh1 FrI.rf ?_ (fun t2 w b0 b1 b2 b3 => by omega) N (by omega)
    · intro h2 f2 hs2 sh2 row2
      refine ih (q - 1) nx nw h2 (by omega) (by omega) hs2 sh2 (fr.tr (f1.tr f2.h)) ?_ ?_ row2 fu (by omega)
      · unfold hN at n2 n1 ⊢; rw [f2.1, n2, n1]
      · unfold hS at m2 m1 ⊢; rw [f2.1, m2, m1]
    · rw [show q - 1 + 1 = q from by omega]
      intro t w b0 b1 b2
      rw [i1]
      exact row t w b0 b1 b2
/-- Shares between its askings -/
def ShP (h : PH) : Prop := ∃ nw nx, ShS nw nx h
theorem goBackL {N : Nat} {H C : Nat → Int} {each q0 : Int} {h : PH} (hN0 : 400 ≤ N) (ho : HOK H C) (he : 1 ≤ each ∧ each ≤ 3) (hq0 : 0 ≤ q0 ∧ q0 ≤ H 0) (hn : 127 ≤ hN h) (hs : HsL 10 H C h) (sh : ShP h) : Wp (Sh_goBack N 52 (iv each) (iv q0) h) (fun _ h2 => ∃ nw2 nx2, FrH SSh h h2 ∧ hN h2 = hN h ∧ hS h2 = hS h ∧ HsL 10 H C h2 ∧ ShS nw2 nx2 h2 ∧ RowS H (Sq H C each q0) nw2 h2) := by
  obtain ⟨nw, nx, sh⟩ := sh
  have h01 := ho.1
  have h11 := ho.2.1
  have c := sh.2.2.2
  have key : ∀ (m k : Nat) (h1 : PH), k + m = 242 → FrI SSh h h1 → HsL 10 H C h1 → ShS nw nx h1 → (∀ j, j < k → hI h1 nw j = iv 1000000) → ∀ fuel, m < fuel → Wp (Sh_goBack_b2 N fuel 52 (iv each) (iv q0) (iv k) h1) (fun _ h2 => ∃ nw2 nx2, FrH SSh h h2 ∧ hN h2 = hN h ∧ hS h2 = hS h ∧ HsL 10 H C h2 ∧ ShS nw2 nx2 h2 ∧ RowS H (Sq H C each q0) nw2 h2) := by
    intro m
    induction m with
    | zero =>
      intro k h1 e f1 hs1 sh1 d fuel hf
      obtain ⟨fu, rfl⟩ : ∃ fu, fuel = fu + 1 := ⟨fuel - 1, by omega⟩
      have s1 := sh1.1
      rw [Sh_goBack_b2]
      refine Wp_ck (by rw [k52 s1]) (Wp_bn sh1.2.1 (Wp_ck (by rw [sh1.k.1]) ?_))
      rw [sh1.k.1, iv_nat]
      refine Wp_ifp (by rw [iv_le (by omega) (by omega) (by omega) (by omega)]; omega) (Wp_bn (p52_1 s1) (Wp_ck (by rw [k10 s1]) ?_))
      rw [hs1.1, il1, iv_sub]
      have n1 : hN h1 = hN h := by unfold hN; rw [f1.1]
      have m1 : hS h1 = hS h := by unfold hS; rw [f1.1]
      refine sure35 (by omega) ho he hq0 hn (H 0 - q0).toNat (H 0) nw nx h1 (by omega) (Int.le_refl _) hs1 sh1 f1.h n1 m1 ?_ N (by omega)
      intro t w b0 b1 b2
      rw [Sq_end rfl]
      exact d _ (by omega)
    | succ m ih =>
      intro k h1 e f1 hs1 sh1 d fuel hf
      obtain ⟨fu, rfl⟩ : ∃ fu, fuel = fu + 1 := ⟨fuel - 1, by omega⟩
      have s1 := sh1.1
      rw [Sh_goBack_b2]
      refine Wp_ck (by rw [k52 s1]) (Wp_bn sh1.2.1 (Wp_ck (by rw [sh1.k.1]) ?_))
      rw [sh1.k.1, iv_nat]
      refine Wp_ifn (by rw [iv_le (by omega) (by omega) (by omega) (by omega)]; omega) (Wp_ck (inb_iv (by omega) (by omega) (by omega)) (Wp_lt ?_))
      rw [ix_nat (by omega), il1000000, il1, iv_add]
      have f2 : FrI (fun b => b = nw) h1 (wI h1 nw k (iv 1000000)) := FrI.rf.w1
      have r := ih (k + 1) (wI h1 nw k (iv 1000000)) (by omega) (f1.tr (f2.up (fun b e => by unfold SSh; omega))) (hs1.fr f2.s (by omega) (by omega) (by omega) (by omega)) (sh1.fr f2) (fun j hj => by
        rw [hI_wI]
        by_cases cj : j = k
        · rw [if_pos ⟨rfl, cj⟩]
        · rw [if_neg (fun e => cj e.2)]
          exact d j (by omega)) fu (by omega)
      rw [show ((k + 1 : Nat) : Int) = (k : Int) + 1 from by omega] at r
      exact r
  unfold Sh_goBack
  rw [il0]
  exact key 242 0 h (by omega) FrI.rf hs sh (fun j hj => by omega) N (by omega)
theorem FrH.ntL {a : Nat} {n : Nat → Int} {h h2 : PH} {S : Nat → Prop} (f : FrH S h h2) (x : NtL a n h) (l : a < hN h) (n0 : ¬ S a) : NtL a n h2 := x.frH f l n0
theorem surenessL {N : Nat} {H C n : Nat → Int} {each : Int} {h : PH} (hN0 : 400 ≤ N) (ho : HOK H C) (he : 1 ≤ each ∧ each ≤ 3) (hn : 127 ≤ hN h) (s : Shp h) (hs : HsL 10 H C h) (sh : ShP h) (nt : NtL 32 n h) (nk : NOK H n) : Wp (Sh_sureness N 52 (iv each) (some 32) h) (fun v h2 => v = iv (Sq H C each (n 0) (n 1) (n 7)) ∧ FrH SSh h h2 ∧ hN h2 = hN h ∧ hS h2 = hS h ∧ ShP h2) := by
  obtain ⟨⟨q1, q2⟩, q3, q4, -, -, -, -, i7, -⟩ := nk
  have h11 := ho.2.1
  unfold Sh_sureness
  refine Wp_bn rfl (Wp_ck (by rw [k32 s]) (Wp_ck (by rw [k52 s]) ?_))
  rw [nt.1]
  refine Wp_bd2 (goBackL hN0 ho he ⟨q1, q2⟩ hn hs sh) ?_
  rintro - h2 ⟨nw, nx, f, n2, m2, hs2, sh2, row⟩
  have s2 := sh2.1
  have nt2 := nt.frH f (by omega) (by unfold SSh; omega)
  obtain ⟨-, t1, -, -, -, -, -, -, -, -, -, -, t7, -⟩ := nt2
  have fin : ∀ w : Int, w = n 7 → Wp (Sh_sureness_b31 N (some nw) (iv (n 1 * 2)) (iv w) h2) (fun v h2 => v = iv (Sq H C each (n 0) (n 1) (n 7)) ∧ FrH SSh h h2 ∧ hN h2 = hN h ∧ hS h2 = hS h ∧ ShP h2) := by
    rintro w rfl
    unfold Sh_sureness_b31
    rw [iv_add]
    refine Wp_bde (at_in sh2.k.1 (by omega) (by omega) (by omega)) (Wp_ret ⟨?_, f, n2, m2, nw, nx, sh2⟩)
    rw [row _ _ q3.1 q3.2 i7]
  refine Wp_ck (by rw [k52 s2]) (Wp_ck (by rw [k32 s2]) ?_)
  rw [t7, t1, sh2.2.1]
  simp only [bI_0]
  rw [il0, il1, il2, iv_mul]
  refine Wp_if (fun c => ?_) (fun c => ?_)
  · exact fin 0 (by simp at c; omega)
  · exact fin 1 (by simp at c; omega)
/-- the fewest (from t on) of f that is no less than mil -/
def fewF (f : Int → Int) (mil : Int) : Nat → Int → Int
  | 0, _ => -1
  | m + 1, t => if f t < mil then fewF f mil m (t + 1) else t
theorem fewestL {N : Nat} {H C n : Nat → Int} {each mil : Int} {h : PH} (hN0 : 400 ≤ N) (ho : HOK H C) (he : 1 ≤ each ∧ each ≤ 3) (hm : 0 ≤ mil ∧ mil ≤ 1000000) (hn : 127 ≤ hN h) (s : Shp h) (hs : HsL 10 H C h) (sh : ShP h) (nt : NtL 32 n h) (nk : NOK H n) : Wp (Sh_fewest N 52 (iv each) (iv mil) (some 32) h) (fun v h2 => v = iv (fewF (fun t => Sq H C each (n 0) t (n 7)) mil (H 1 + 1).toNat 0) ∧ FrH SSh h h2 ∧ hN h2 = hN h ∧ hS h2 = hS h ∧ ShP h2) := by
  have sb := Sq_b ho he (q := n 0) nk.1
  obtain ⟨⟨q1, q2⟩, q3, q4, -, -, -, -, i7, -⟩ := nk
  have h11 := ho.2.1
  unfold Sh_fewest
  refine Wp_bn rfl (Wp_ck (by rw [k32 s]) (Wp_ck (by rw [k52 s]) ?_))
  rw [nt.1]
  refine Wp_bd2 (goBackL hN0 ho he ⟨q1, q2⟩ hn hs sh) ?_
  rintro - h2 ⟨nw, nx, f, n2, m2, hs2, sh2, row⟩
  have s2 := sh2.1
  have nt2 := nt.frH f (by omega) (by unfold SSh; omega)
  obtain ⟨-, t1, -, -, -, -, -, -, -, -, -, -, t7, -⟩ := nt2
  have key : ∀ (m : Nat) (t : Int), t + m = H 1 + 1 → 0 ≤ t → ∀ fuel, m < fuel → Sh_fewest_b12 N fuel 52 (iv mil) (some 32) (iv t) h2 = some (iv (fewF (fun t => Sq H C each (n 0) t (n 7)) mil m t), h2) := by
    intro m
    induction m with
    | zero =>
      intro t e ht fuel hf
      obtain ⟨fu, rfl⟩ : ∃ fu, fuel = fu + 1 := ⟨fuel - 1, by omega⟩
      rw [Sh_fewest_b12]
      dsimp only
      rw [ck_p (by rw [k52 s2]), p52_1 s2, bn_s, ck_p (by rw [k10 s2]), hs2.2.1, if_pos (by rw [iv_lt (by omega) (by omega) (by omega) (by omega)]; omega), il1, iv_neg]
      rfl
    | succ m ih =>
      intro t e ht fuel hf
      obtain ⟨fu, rfl⟩ : ∃ fu, fuel = fu + 1 := ⟨fuel - 1, by omega⟩
      have tb := sb t (n 7) ht (by omega) i7
      have fin : ∀ w : Int, w = n 7 → Sh_fewest_b44 N (Sh_fewest_b12 N fu) (some nw) (iv (t * 2)) (iv w) 52 (iv mil) (some 32) (iv t) h2 = some (iv (fewF (fun t => Sq H C each (n 0) t (n 7)) mil (m + 1) t), h2) := by
        rintro w rfl
        unfold Sh_fewest_b44
        rw [iv_add, at_in sh2.k.1 (by omega) (by omega) (by omega), bd_s, row _ _ ht (by omega) i7]
        simp only [show (iv (Sq H C each (n 0) t (n 7)) < iv mil) ↔ Sq H C each (n 0) t (n 7) < mil from iv_lt (by omega) (by omega) (by omega) (by omega)]
        rw [fewF]
        by_cases c : Sq H C each (n 0) t (n 7) < mil
        · rw [if_pos c, if_pos c, il1, iv_add]
          exact ih (t + 1) (by omega) (by omega) fu (by omega)
        · rw [if_neg c, if_neg c]
      rw [Sh_fewest_b12]
      dsimp only
      rw [ck_p (by rw [k52 s2]), p52_1 s2, bn_s, ck_p (by rw [k10 s2]), hs2.2.1, if_neg (by rw [iv_lt (by omega) (by omega) (by omega) (by omega)]; omega), bn_s, ck_p (by rw [k32 s2]), t7, sh2.2.1]
      simp only [bI_0]
      rw [il0, il1, il2, iv_mul]
      by_cases c : decide (n 7 = 1) = false
      · rw [if_pos c]
        exact fin 0 (by simp at c; omega)
      · rw [if_neg c]
        exact fin 1 (by simp at c; omega)
  rw [il0]
  exact ⟨_, _, key (H 1 + 1).toNat 0 (by omega) (by omega) N (by omega), rfl, f, n2, m2, nw, nx, sh2⟩
