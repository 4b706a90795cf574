/-! THE PURE PROOFS, 80: fed, both ways. -/
def bw8 (w : Int64) (z : Int32) : Int32 := Int64.toInt32 ((w >>> (Int32.toInt64 z &&& 63)) &&& 255)
def mw8 (w : Int64) (z : Int32) : Int32 := Int64.toInt32 (((Int64.toUInt64 w >>> (Int64.toUInt64 (Int32.toInt64 z) &&& Int64.toUInt64 63)).toInt64) &&& 255)
theorem sh_l : ∀ j, j < 8 → ((Int32.toInt64 (iv (56 - 8 * (j : Nat))) &&& 63).toBitVec.smod 64).toNat = 56 - 8 * j := by decide +kernel
theorem sh_u : ∀ j, j < 8 → ((Int64.toUInt64 (Int32.toInt64 (iv (56 - 8 * (j : Nat)))) &&& Int64.toUInt64 63).toBitVec % 64).toNat = 56 - 8 * j := by decide +kernel
theorem bt255 : ∀ i, i < 64 → (255 : Int64).toBitVec.getLsbD i = decide (i < 8) := by decide +kernel
theorem by_eq (w : Int64) {j : Nat} (hj : j < 8) : mw8 w (iv (56 - 8 * (j : Nat))) = bw8 w (iv (56 - 8 * (j : Nat))) := by
  unfold mw8 bw8
  congr 1
  apply Int64.toBitVec_inj.mp
  apply BitVec.eq_of_getLsbD_eq
  intro i hi
  rw [Int64.toBitVec_and, Int64.toBitVec_and, BitVec.getLsbD_and, BitVec.getLsbD_and, bt255 i hi, Int64.toBitVec_shiftRight]
  by_cases c : i < 8
  · have e1 : (w.toBitVec.sshiftRight ((Int32.toInt64 (iv (56 - 8 * (j : Nat))) &&& 63).toBitVec.smod 64).toNat).getLsbD i = w.toBitVec.getLsbD (56 - 8 * j + i) := by
      rw [sh_l j hj, BitVec.getLsbD_sshiftRight]
      simp [hi, show 56 - 8 * j + i < 64 from by omega]
    have e2 : (Int64.toUInt64 w >>> (Int64.toUInt64 (Int32.toInt64 (iv (56 - 8 * (j : Nat)))) &&& Int64.toUInt64 63)).toBitVec.getLsbD i = w.toBitVec.getLsbD (56 - 8 * j + i) := by
      rw [UInt64.toBitVec_shiftRight]
      show ((Int64.toUInt64 w).toBitVec >>> ((Int64.toUInt64 (Int32.toInt64 (iv (56 - 8 * (j : Nat)))) &&& Int64.toUInt64 63).toBitVec % 64).toNat).getLsbD i = _
      rw [sh_u j hj, BitVec.getLsbD_ushiftRight]
      rfl
    have e1' : (w.toBitVec.sshiftRight' ((Int32.toInt64 (iv (56 - 8 * (j : Nat))) &&& 63).toBitVec.smod 64)).getLsbD i = w.toBitVec.getLsbD (56 - 8 * j + i) := e1
    have e2' : (Int64.toUInt64 w >>> (Int64.toUInt64 (Int32.toInt64 (iv (56 - 8 * (j : Nat)))) &&& Int64.toUInt64 63)).toInt64.toBitVec.getLsbD i = w.toBitVec.getLsbD (56 - 8 * j + i) := e2
    rw [e1', e2']
  · rw [decide_eq_false c, Bool.and_false, Bool.and_false]
def byt (w : Int64) (j : Nat) : Int := (bw8 w (iv (56 - 8 * (j : Nat)))).toInt
theorem byt_l (w : Int64) (j : Nat) : bw8 w (iv (56 - 8 * (j : Nat))) = iv (byt w j) := (iv_of _).symm
theorem byt_m (w : Int64) {j : Nat} (hj : j < 8) : mw8 w (iv (56 - 8 * (j : Nat))) = iv (byt w j) := (by_eq w hj).trans (byt_l w j)
theorem byt_b (w : Int64) (j : Nat) : -2147483648 ≤ byt w j ∧ byt w j < 2147483648 := ⟨Int32.le_toInt _, Int32.toInt_lt _⟩
abbrev gdS (b : Int) : Prop := b = 10 ∨ (32 ≤ b ∧ b ≤ 126)
def fd1 (t : (Nat → Int) × Nat) (b : Int) : (Nat → Int) × Nat := if gdS b ∧ t.2 < 1000 then (upN t.1 t.2 b, t.2 + 1) else t
def fd8 (w : Int64) (t : (Nat → Int) × Nat) : Nat → (Nat → Int) × Nat
  | 0 => t
  | k + 1 => fd1 (fd8 w t k) (byt w k)
theorem sgn8 : ∀ z, z < 127 → (Int32.toInt8 ((Int32.toInt8 (iv ((z : Nat) : Int))).toInt32)).toInt32 = iv ((z : Nat) : Int) := by decide +kernel
theorem TxL.put {T : Nat → Int} {L : Nat} {h : PH} {b : Int} (x : TxL T L h) (hb : gdS b) (hL : L < 1000) : TxL (upN T L b) (L + 1) (wI (wI h 8 L (iv b)) 7 1 (iv ((L : Int) + 1))) := by
  obtain ⟨s, t, l, ok, e1, e8, e9⟩ := x
  have f : FrS (fun b => b = 7 ∨ b = 8) h (wI (wI h 8 L (iv b)) 7 1 (iv ((L : Int) + 1))) := (FrS.rf.aI (Or.inr rfl)).aI (Or.inl rfl)
  refine ⟨f.shp s, t.fr f (by omega) (by omega), by omega, fun k hk => ?_, ?_, fun k hk => ?_, fun i hi => e9 i hi⟩
  · unfold upN
    by_cases c : k = L
    · rw [if_pos c]; exact hb
    · rw [if_neg c]; exact ok k (by omega)
  · rw [hI_wI, if_pos ⟨rfl, rfl⟩]
    congr 1
  · rw [hI_wI, if_neg (by omega), hI_wI]
    unfold upN
    by_cases c : k = L
    · rw [if_pos ⟨rfl, c⟩, if_pos c]
    · rw [if_neg (fun z => c z.2), if_neg c]; exact e8 k (by omega)
theorem takeL {N : Nat} {T : Nat → Int} {L : Nat} {h : PH} {w : Int64} (hN : 100 ≤ N) (x : TxL T L h) : Wp (Ta_take N 7 w h) (fun _ h2 => FrS (fun b => b = 7 ∨ b = 8) h h2 ∧ TxL (fd8 w (T, L) 8).1 (fd8 w (T, L) 8).2 h2) := by
  have key : ∀ (m k : Nat) (h1 : PH), k + m = 8 → FrS (fun b => b = 7 ∨ b = 8) h h1 → TxL (fd8 w (T, L) k).1 (fd8 w (T, L) k).2 h1 → ∀ fuel, m < fuel → Wp (Ta_take_b3 N fuel 7 w (iv (56 - 8 * (k : Nat))) h1) (fun _ h2 => FrS (fun b => b = 7 ∨ b = 8) h h2 ∧ TxL (fd8 w (T, L) 8).1 (fd8 w (T, L) 8).2 h2) := by
    intro m
    induction m with
    | zero =>
      intro k h1 hk f1 x1 fuel hf
      obtain ⟨fu, rfl⟩ : ∃ e, fuel = e + 1 := ⟨fuel - 1, by omega⟩
      obtain rfl : k = 8 := by omega
      rw [Ta_take_b3]
      exact Wp_ifp (by decide) (Wp_ret ⟨f1, x1⟩)
    | succ m ih =>
      intro k h1 hk f1 x1 fuel hf
      obtain ⟨fu, rfl⟩ : ∃ e, fuel = e + 1 := ⟨fuel - 1, by omega⟩
      have bb := byt_b w k
      have next : ∀ h2, FrS (fun b => b = 7 ∨ b = 8) h h2 → TxL (fd8 w (T, L) (k + 1)).1 (fd8 w (T, L) (k + 1)).2 h2 → Wp (Ta_take_b79 N (Ta_take_b3 N fu) 7 w (iv (56 - 8 * (k : Nat))) h2) (fun _ h2 => FrS (fun b => b = 7 ∨ b = 8) h h2 ∧ TxL (fd8 w (T, L) 8).1 (fd8 w (T, L) 8).2 h2) := by
        intro h2 f2 x2
        unfold Ta_take_b79
        rw [show (-8 : Int32) = iv (-8) from by decide, iv_add, show (56 : Int) - 8 * (k : Nat) + -8 = 56 - 8 * ((k + 1 : Nat) : Int) from by omega]
        exact ih (k + 1) h2 (by omega) f2 x2 fu (by omega)
      have off : ¬ (gdS (byt w k) ∧ (fd8 w (T, L) k).2 < 1000) → Wp (Ta_take_b79 N (Ta_take_b3 N fu) 7 w (iv (56 - 8 * (k : Nat))) h1) (fun _ h2 => FrS (fun b => b = 7 ∨ b = 8) h h2 ∧ TxL (fd8 w (T, L) 8).1 (fd8 w (T, L) 8).2 h2) := by
        intro e
        refine next h1 f1 ?_
        rw [fd8]
        unfold fd1
        rw [if_neg e]
        exact x1
      have on : gdS (byt w k) → Wp (Ta_take_b38 N (Ta_take_b3 N fu) 7 w (iv (56 - 8 * (k : Nat))) (iv (byt w k)) h1) (fun _ h2 => FrS (fun b => b = 7 ∨ b = 8) h h2 ∧ TxL (fd8 w (T, L) 8).1 (fd8 w (T, L) 8).2 h2) := by
        intro e
        have l1000 := x1.2.2.1
        unfold Ta_take_b38
        rw [x1.2.2.2.2.1, il0, il1]
        refine Wp_ck (by rw [k7 x1.1]) (Wp_ifn (by rw [iv_lt (by omega) (by omega) (by omega) (by omega)]; omega) (Wp_bn (p7_0 x1.1) (Wp_ck (by rw [k8 x1.1]) ?_)))
        rw [k8 x1.1, ofN]
        refine Wp_if (fun c => ?_) (fun c => ?_)
        · rw [iv_le (by omega) (by omega) (by omega) (by omega)] at c
          exact off (by omega)
        · rw [iv_le (by omega) (by omega) (by omega) (by omega)] at c
          have sg := sgn8 (byt w k).toNat (by omega)
          rw [show (((byt w k).toNat : Nat) : Int) = byt w k from by omega] at sg
          refine Wp_ck (inb_iv (by omega) (by omega) (by omega)) (Wp_lt (Wp_lt ?_))
          rw [sg, ix_nat (by omega), show hI (wI h1 8 (fd8 w (T, L) k).2 (iv (byt w k))) 7 1 = iv ((fd8 w (T, L) k).2 : Nat) from by rw [hI_wI, if_neg (by omega)]; exact x1.2.2.2.2.1, iv_add]
          have y := x1.put e (by omega)
          refine next _ ((f1.aI (Or.inr rfl)).aI (Or.inl rfl)) ?_
          rw [fd8]
          unfold fd1
          rw [if_pos ⟨e, by omega⟩]
          exact y
      rw [Ta_take_b3, il0]
      refine Wp_ifn (by rw [iv_lt (by omega) (by omega) (by omega) (by omega)]; omega) ?_
      rw [show Int64.toInt32 ((w >>> (Int32.toInt64 (iv (56 - 8 * (k : Nat))) &&& 63)) &&& 255) = iv (byt w k) from byt_l w k, show (10 : Int32) = iv 10 from iv_lit _, il32, il126]
      refine Wp_if (fun c => ?_) (fun c => ?_)
      · rw [iv_eq (by omega) (by omega) (by omega) (by omega)] at c
        exact on (Or.inl c)
      rw [iv_eq (by omega) (by omega) (by omega) (by omega)] at c
      refine Wp_if (fun c => ?_) (fun c => ?_)
      · rw [iv_lt (by omega) (by omega) (by omega) (by omega)] at c
        exact off (by omega)
      rw [iv_lt (by omega) (by omega) (by omega) (by omega)] at c
      refine Wp_if (fun c => ?_) (fun c => ?_)
      · rw [iv_lt (by omega) (by omega) (by omega) (by omega)] at c
        exact off (by omega)
      rw [iv_lt (by omega) (by omega) (by omega) (by omega)] at c
      exact on (Or.inr (by omega))
  unfold Ta_take
  rw [show (56 : Int32) = iv (56 - 8 * ((0 : Nat) : Int)) from by decide]
  exact key 8 0 h rfl FrS.rf x N (by omega)
def fd24 (a b c : Int64) (t : (Nat → Int) × Nat) : (Nat → Int) × Nat := fd8 c (fd8 b (fd8 a t 8) 8) 8
def gFeed (g : Gs) (a b c : Int64) : Gs := mkG (fd24 a b c (gsT g, gsL g)).1 (fd24 a b c (gsT g, gsL g)).2 (gsH g) (gsC g) (gsE g) (gsN g) (gsV g) (gsU g) (gsM g)
theorem leFeedL {N c : Nat} {g : Gs} {h : PH} {p q r : Int64} (hN : 100 ≤ N) (x : LeI c g h) : Wp (Le_feed N 6 p q r h) (fun v h2 => v = iv (gsL (gFeed g p q r)) ∧ LeI (c + 64) (gFeed g p q r) h2 ∧ CFr h h2) := by
  have s := x.s
  unfold Le_feed
  refine Wp_ck (by rw [k6 s]) (Wp_bn (p6_0 s) (Wp_ck (by rw [k7 s]) (Wp_bd2 (takeL (w := p) hN x.1.1) ?_)))
  rintro - h1 ⟨f1, x1⟩
  have s1 := x1.1
  refine Wp_ck (by rw [k6 s1]) (Wp_bn (p6_0 s1) (Wp_ck (by rw [k7 s1]) (Wp_bd2 (takeL (w := q) hN x1) ?_)))
  rintro - h2 ⟨f2, x2⟩
  have s2 := x2.1
  refine Wp_ck (by rw [k6 s2]) (Wp_bn (p6_0 s2) (Wp_ck (by rw [k7 s2]) (Wp_bd2 (takeL (w := r) hN x2) ?_)))
  rintro - h3 ⟨f3, x3⟩
  have s3 := x3.1
  have f := (f1.tr f2).tr f3
  obtain ⟨a, b, d, nt, ev, un, mk⟩ := x.1
  refine Wp_ck (by rw [k6 s3]) (Wp_bn (p6_0 s3) (Wp_ck (by rw [k7 s3]) (Wp_ret ⟨x3.2.2.2.2.1, ⟨⟨x3, by rw [f.I (by omega)]; exact b, d.cg (fun b _ _ => (f.2.2.2 b (by omega)).1), nt.fr f (by omega), ev.cg (f.2.2.2 22 (by omega)).1 (f.2.2.2 23 (by omega)).1 (f.2.2.2 24 (by omega)).1, un.cg (f.2.2.2 6 (by omega)).1 (fun b _ _ => ⟨(f.2.2.2 b (by omega)).1, (f.2.2.2 b (by omega)).2.2⟩), mk.cg (fun b _ _ => ⟨(f.2.2.2 b (by omega)).1, (f.2.2.2 b (by omega)).2.2⟩)⟩, (x.2.frS f (fun b z => by omega)).mono (by omega)⟩, f.cf x.2.1 (fun b z => by omega)⟩)))
/-! ### the reference -/
def fdn (a b c : Int64) (t : (Nat → Int) × Nat) : Nat → (Nat → Int) × Nat
  | 0 => t
  | k + 1 => fd1 (fdn a b c t k) (byt (if k < 8 then a else if k < 16 then b else c) (k % 8))
theorem fdn1 (a b c : Int64) (t : (Nat → Int) × Nat) : ∀ k, k ≤ 8 → fdn a b c t k = fd8 a t k
  | 0, _ => rfl
  | k + 1, h => by rw [fdn, fd8, fdn1 a b c t k (by omega), if_pos (by omega), Nat.mod_eq_of_lt (by omega)]
theorem fdn2 (a b c : Int64) (t : (Nat → Int) × Nat) : ∀ k, k ≤ 8 → fdn a b c t (8 + k) = fd8 b (fd8 a t 8) k
  | 0, _ => fdn1 a b c t 8 (by omega)
  | k + 1, h => by rw [← Nat.add_assoc, fdn, fd8, fdn2 a b c t k (by omega), if_neg (by omega), if_pos (by omega), show (8 + k) % 8 = k from by omega]
theorem fdn3 (a b c : Int64) (t : (Nat → Int) × Nat) : ∀ k, k ≤ 8 → fdn a b c t (16 + k) = fd8 c (fd8 b (fd8 a t 8) 8) k
  | 0, _ => fdn2 a b c t 8 (by omega)
  | k + 1, h => by rw [← Nat.add_assoc, fdn, fd8, fdn3 a b c t k (by omega), if_neg (by omega), if_neg (by omega), show (16 + k) % 8 = k from by omega]
theorem sh24 : ∀ k, k < 24 → (56 - (8 * ((iv ((k : Nat) : Int)) &&& 7)) : Int32) = iv (56 - 8 * ((k % 8 : Nat) : Int)) := by decide +kernel
theorem moFeedM {N : Nat} {T : Nat → Int} {L : Nat} {h : PH} {a b c : Int64} (hN : 100 ≤ N) (x : Tx0 T L h) : Wp (Mo_feed N 92 a b c h) (fun v h2 => v = iv (fd24 a b c (T, L)).2 ∧ FrI (fun q => q = 92 ∨ q = 93) h h2 ∧ Tx0 (fd24 a b c (T, L)).1 (fd24 a b c (T, L)).2 h2 ∧ ∀ j, j ≠ 0 → j ≠ 1 → hI h2 92 j = hI h 92 j) := by
  have key : ∀ (m k : Nat) (h1 : PH), k + m = 24 → FrI (fun q => q = 92 ∨ q = 93) h h1 → (∀ j, j ≠ 0 → j ≠ 1 → hI h1 92 j = hI h 92 j) → Tx0 (fdn a b c (T, L) k).1 (fdn a b c (T, L) k).2 h1 → ∀ fuel, m < fuel → Wp (Mo_feed_b8 N fuel 92 a b c (iv k) h1) (fun v h2 => v = iv (fd24 a b c (T, L)).2 ∧ FrI (fun q => q = 92 ∨ q = 93) h h2 ∧ Tx0 (fd24 a b c (T, L)).1 (fd24 a b c (T, L)).2 h2 ∧ ∀ j, j ≠ 0 → j ≠ 1 → hI h2 92 j = hI h 92 j) := by
    intro m
    induction m with
    | zero =>
      intro k h1 hk f1 e1 x1 fuel hf
      obtain ⟨fu, rfl⟩ : ∃ e, fuel = e + 1 := ⟨fuel - 1, by omega⟩
      obtain rfl : k = 24 := by omega
      have e24 : fdn a b c (T, L) 24 = fd24 a b c (T, L) := fdn3 a b c (T, L) 8 (by omega)
      rw [e24] at x1
      rw [Mo_feed_b8]
      exact Wp_ifp (by decide) (Wp_ck (by rw [k92 x1.1]) (Wp_ret ⟨x1.2.2.2.1, f1, x1, e1⟩))
    | succ m ih =>
      intro k h1 hk f1 e1 x1 fuel hf
      obtain ⟨fu, rfl⟩ : ∃ e, fuel = e + 1 := ⟨fuel - 1, by omega⟩
      have one : ∀ w : Int64, w = (if k < 8 then a else if k < 16 then b else c) → Wp (Mo_feed_b39 N (Mo_feed_b8 N fu) w 92 a b c (iv k) h1) (fun v h2 => v = iv (fd24 a b c (T, L)).2 ∧ FrI (fun q => q = 92 ∨ q = 93) h h2 ∧ Tx0 (fd24 a b c (T, L)).1 (fd24 a b c (T, L)).2 h2 ∧ ∀ j, j ≠ 0 → j ≠ 1 → hI h2 92 j = hI h 92 j) := by
        intro w ew
        have bb := byt_b w (k % 8)
        have l1000 := x1.2.1
        have st : fdn a b c (T, L) (k + 1) = fd1 (fdn a b c (T, L) k) (byt w (k % 8)) := by rw [fdn, ← ew]
        have next : ∀ h2, FrI (fun q => q = 92 ∨ q = 93) h h2 → (∀ j, j ≠ 0 → j ≠ 1 → hI h2 92 j = hI h 92 j) → Tx0 (fdn a b c (T, L) (k + 1)).1 (fdn a b c (T, L) (k + 1)).2 h2 → Wp (Mo_feed_b114 N (Mo_feed_b8 N fu) 92 a b c (iv k) h2) (fun v h2 => v = iv (fd24 a b c (T, L)).2 ∧ FrI (fun q => q = 92 ∨ q = 93) h h2 ∧ Tx0 (fd24 a b c (T, L)).1 (fd24 a b c (T, L)).2 h2 ∧ ∀ j, j ≠ 0 → j ≠ 1 → hI h2 92 j = hI h 92 j) := by
          intro h2 f2 e2 x2
          unfold Mo_feed_b114
          rw [il1, iv_add]
          exact ih (k + 1) h2 (by omega) f2 e2 x2 fu (by omega)
        have off : ¬ (gdS (byt w (k % 8)) ∧ (fdn a b c (T, L) k).2 < 1000) → Wp (Mo_feed_b114 N (Mo_feed_b8 N fu) 92 a b c (iv k) h1) (fun v h2 => v = iv (fd24 a b c (T, L)).2 ∧ FrI (fun q => q = 92 ∨ q = 93) h h2 ∧ Tx0 (fd24 a b c (T, L)).1 (fd24 a b c (T, L)).2 h2 ∧ ∀ j, j ≠ 0 → j ≠ 1 → hI h2 92 j = hI h 92 j) := by
          intro e
          refine next h1 f1 e1 ?_
          rw [st]
          unfold fd1
          rw [if_neg e]
          exact x1
        unfold Mo_feed_b39
        rw [sh24 k (by omega)]
        refine Wp_ck (by rw [k92 x1.1]) ?_
        rw [x1.2.2.2.1, il1000]
        refine Wp_if (fun d => ?_) (fun d => ?_)
        · rw [iv_le (by omega) (by omega) (by omega) (by omega)] at d
          exact off (by omega)
        rw [iv_le (by omega) (by omega) (by omega) (by omega)] at d
        rw [show Int64.toInt32 (((Int64.toUInt64 w >>> (Int64.toUInt64 (Int32.toInt64 (iv (56 - 8 * ((k % 8 : Nat) : Int)))) &&& Int64.toUInt64 63)).toInt64) &&& 255) = iv (byt w (k % 8)) from byt_m w (by omega), show (10 : Int32) = iv 10 from iv_lit _, il32, il126]
        have on : gdS (byt w (k % 8)) → Wp (Mo_feed_b93 N (Mo_feed_b8 N fu) 92 a b c (iv k) (iv (byt w (k % 8))) h1) (fun v h2 => v = iv (fd24 a b c (T, L)).2 ∧ FrI (fun q => q = 92 ∨ q = 93) h h2 ∧ Tx0 (fd24 a b c (T, L)).1 (fd24 a b c (T, L)).2 h2 ∧ ∀ j, j ≠ 0 → j ≠ 1 → hI h2 92 j = hI h 92 j) := by
          intro e
          unfold Mo_feed_b93
          rw [x1.2.2.2.1]
          refine Wp_ck (by rw [k92 x1.1]) (Wp_bn (p92_2 x1.1) (Wp_ck (by rw [k93 x1.1]) (Wp_ck (by rw [k93 x1.1]; exact inb_iv (by omega) (by omega) (by omega)) (Wp_lt (Wp_lt ?_)))))
          rw [ix_nat (by omega), show hI (wI h1 93 (fdn a b c (T, L) k).2 (iv (byt w (k % 8)))) 92 1 = iv ((fdn a b c (T, L) k).2 : Nat) from by rw [hI_wI, if_neg (by omega)]; exact x1.2.2.2.1, il1, iv_add]
          have f2 : FrI (fun q => q = 92 ∨ q = 93) h (wI (wI h1 93 (fdn a b c (T, L) k).2 (iv (byt w (k % 8)))) 92 1 (iv (((fdn a b c (T, L) k).2 : Nat) + 1))) := (f1.w (Or.inr rfl)).w (Or.inl rfl)
          refine next _ f2 (fun j j0 j1 => ?_) ?_
          · rw [hI_wI, if_neg (by omega), hI_wI, if_neg (by omega)]; exact e1 j j0 j1
          · rw [st]
            unfold fd1
            rw [if_pos ⟨e, by omega⟩]
            refine ⟨f2.shp x.1, by show (fdn a b c (T, L) k).2 + 1 ≤ 1000; omega, fun j hj => ?_, ?_, fun j hj => ?_⟩
            · have hj2 : j < (fdn a b c (T, L) k).2 + 1 := hj
              show upN (fdn a b c (T, L) k).1 (fdn a b c (T, L) k).2 (byt w (k % 8)) j = 10 ∨ (32 ≤ upN (fdn a b c (T, L) k).1 (fdn a b c (T, L) k).2 (byt w (k % 8)) j ∧ upN (fdn a b c (T, L) k).1 (fdn a b c (T, L) k).2 (byt w (k % 8)) j ≤ 126)
              unfold upN
              by_cases z : j = (fdn a b c (T, L) k).2
              · rw [if_pos z]; exact e
              · rw [if_neg z]; exact x1.2.2.1 j (by omega)
            · rw [hI_wI, if_pos ⟨rfl, rfl⟩]
              show iv _ = iv (((fdn a b c (T, L) k).2 + 1 : Nat) : Int)
              congr 1
            · have hj2 : j < (fdn a b c (T, L) k).2 + 1 := hj
              rw [hI_wI, if_neg (by omega), hI_wI]
              show _ = iv (upN (fdn a b c (T, L) k).1 (fdn a b c (T, L) k).2 (byt w (k % 8)) j)
              unfold upN
              by_cases z : j = (fdn a b c (T, L) k).2
              · rw [if_pos ⟨rfl, z⟩, if_pos z]
              · rw [if_neg (fun y => z y.2), if_neg z]; exact x1.2.2.2.2 j (by omega)
        refine Wp_if (fun c => ?_) (fun c => ?_)
        · rw [iv_eq (by omega) (by omega) (by omega) (by omega)] at c
          exact on (Or.inl c)
        rw [iv_eq (by omega) (by omega) (by omega) (by omega)] at c
        refine Wp_if (fun c => ?_) (fun c => ?_)
        · rw [iv_lt (by omega) (by omega) (by omega) (by omega)] at c
          exact off (by omega)
        rw [iv_lt (by omega) (by omega) (by omega) (by omega)] at c
        refine Wp_if (fun c => ?_) (fun c => ?_)
        · rw [iv_lt (by omega) (by omega) (by omega) (by omega)] at c
          exact off (by omega)
        rw [iv_lt (by omega) (by omega) (by omega) (by omega)] at c
        exact on (Or.inr (by omega))
      rw [Mo_feed_b8, il24, il8, show (16 : Int32) = iv 16 from iv_lit _]
      refine Wp_ifn (by rw [iv_le (by omega) (by omega) (by omega) (by omega)]; omega) ?_
      refine Wp_if (fun d => ?_) (fun d => ?_)
      · rw [iv_le (by omega) (by omega) (by omega) (by omega)] at d
        refine Wp_if (fun e => ?_) (fun e => ?_)
        · rw [iv_le (by omega) (by omega) (by omega) (by omega)] at e
          exact one c (by rw [if_neg (by omega), if_neg (by omega)])
        · rw [iv_le (by omega) (by omega) (by omega) (by omega)] at e
          exact one b (by rw [if_neg (by omega), if_pos (by omega)])
      · rw [iv_le (by omega) (by omega) (by omega) (by omega)] at d
        exact one a (by rw [if_pos (by omega)])
  obtain ⟨s, t1, t2, t3, t4⟩ := x
  unfold Mo_feed
  refine Wp_ck (by rw [k92 s]) (Wp_lt ?_)
  have f1 : FrI (fun q => q = 92 ∨ q = 93) h (wI h 92 0 0) := FrI.w (S := fun q => q = 92 ∨ q = 93) FrI.rf (Or.inl rfl)
  exact key 24 0 _ rfl f1 (fun j j0 _ => by rw [hI_wI, if_neg (by omega)]) ⟨f1.shp s, t1, t2, by rw [hI_wI, if_neg (by omega)]; exact t3, fun k hk => by rw [hI_wI, if_neg (by omega)]; exact t4 k hk⟩ N (by omega)
