/-! THE PURE PROOFS, 7: VALUE: places, bounds. -/
def pl (H : Nat → Int) (q t a w : Int) : Int := ((q * (H 1 + 1) + t) * (H 2 + 1) + a) * 2 + w
def szH (H : Nat → Int) : Int := H 0 * (H 1 + 1) * (H 2 + 1) * 2
theorem mix_lt {x n m r : Int} (hx : 0 ≤ x ∧ x < n) (hr : 0 ≤ r ∧ r < m) : 0 ≤ x * m + r ∧ x * m + r < n * m := by
  have h1 : 0 ≤ x * m := Int.mul_nonneg hx.1 (by omega)
  have h2 : x * m ≤ (n - 1) * m := Int.mul_le_mul_of_nonneg_right (by omega) (by omega)
  rw [Int.sub_mul, Int.one_mul] at h2
  omega
theorem mix_inj {x y m r s : Int} (hr : 0 ≤ r ∧ r < m) (hs : 0 ≤ s ∧ s < m) (e : x * m + r = y * m + s) : x = y ∧ r = s := by
  have h : x = y := by
    rcases Int.lt_trichotomy x y with c | c | c
    · have h2 : (x + 1) * m ≤ y * m := Int.mul_le_mul_of_nonneg_right (by omega) (by omega)
      rw [Int.add_mul, Int.one_mul] at h2
      omega
    · exact c
    · have h2 : (y + 1) * m ≤ x * m := Int.mul_le_mul_of_nonneg_right (by omega) (by omega)
      rw [Int.add_mul, Int.one_mul] at h2
      omega
  refine ⟨h, ?_⟩
  rw [h] at e
  omega
theorem sz_b {H C : Nat → Int} (ho : HOK H C) : 0 < szH H ∧ szH H ≤ 75504 := by
  obtain ⟨⟨a1, a2⟩, ⟨b1, b2⟩, ⟨c1, c2⟩, -⟩ := ho
  unfold szH
  have h1 : H 0 * (H 1 + 1) ≤ 24 * 121 := Int.mul_le_mul a2 (by omega) (by omega) (by omega)
  have h2 : 0 < H 0 * (H 1 + 1) := Int.mul_pos (by omega) (by omega)
  have h3 : H 0 * (H 1 + 1) * (H 2 + 1) ≤ (24 * 121) * 13 := Int.mul_le_mul h1 (by omega) (by omega) (by omega)
  have h4 : 0 < H 0 * (H 1 + 1) * (H 2 + 1) := Int.mul_pos h2 (by omega)
  omega
theorem pl_b {H : Nat → Int} {q t a w : Int} (hq : 0 ≤ q ∧ q < H 0) (ht : 0 ≤ t ∧ t ≤ H 1) (ha : 0 ≤ a ∧ a ≤ H 2) (hw : 0 ≤ w ∧ w ≤ 1) : 0 ≤ pl H q t a w ∧ pl H q t a w < szH H := by
  unfold pl szH
  exact mix_lt (mix_lt (mix_lt hq ⟨ht.1, by omega⟩) ⟨ha.1, by omega⟩) ⟨hw.1, by omega⟩
theorem pl_inj {H : Nat → Int} {q t a w q2 t2 a2 w2 : Int} (ht : 0 ≤ t ∧ t ≤ H 1) (ha : 0 ≤ a ∧ a ≤ H 2) (hw : 0 ≤ w ∧ w ≤ 1) (ht2 : 0 ≤ t2 ∧ t2 ≤ H 1) (ha2 : 0 ≤ a2 ∧ a2 ≤ H 2) (hw2 : 0 ≤ w2 ∧ w2 ≤ 1) (e : pl H q t a w = pl H q2 t2 a2 w2) : q = q2 ∧ t = t2 ∧ a = a2 ∧ w = w2 := by
  unfold pl at e
  obtain ⟨e1, e2⟩ := mix_inj ⟨hw.1, by omega⟩ ⟨hw2.1, by omega⟩ e
  obtain ⟨e3, e4⟩ := mix_inj ⟨ha.1, by omega⟩ ⟨ha2.1, by omega⟩ e1
  obtain ⟨e5, e6⟩ := mix_inj ⟨ht.1, by omega⟩ ⟨ht2.1, by omega⟩ e3
  exact ⟨e5, e6, e4, e2⟩
theorem off0_b {H C : Nat → Int} (ho : HOK H C) {q t : Int} (hq : 0 ≤ q ∧ q ≤ H 0) (ht : 0 ≤ t ∧ t ≤ 240) : -26136000 ≤ off0 H q t ∧ off0 H q t ≤ 0 := by
  obtain ⟨⟨a1, a2⟩, -, -, -, -, -, -, ⟨b1, b2⟩, -, -, -, -, ⟨c1, c2⟩, -⟩ := ho
  unfold off0
  have h1 : 0 ≤ H 12 * (H 0 - q) := Int.mul_nonneg c1 (by omega)
  have h2 : H 12 * (H 0 - q) ≤ 99 * 24 := Int.mul_le_mul c2 (by omega) (by omega) (by omega)
  have h3 : 0 ≤ H 7 * t := Int.mul_nonneg b1 ht.1
  have h4 : H 7 * t ≤ 99 * 240 := Int.mul_le_mul b2 ht.2 ht.1 (by omega)
  omega
/-- a bound for the next quarter's table -/
def Bd (H : Nat → Int) (nx : Int → Int → Int → Int) (lo hi : Int) : Prop := ∀ t a w, 0 ≤ t → t ≤ H 1 → 0 ≤ a → a ≤ H 2 → (w = 0 ∨ w = 1) → lo ≤ nx t a w ∧ nx t a w ≤ hi
theorem ifw01 (H : Nat → Int) (mute how here : Int) : (if mute = 0 then isW H how here else 0) = 0 ∨ (if mute = 0 then isW H how here else 0) = 1 := by
  split
  · exact isW_01 H how here
  · exact Or.inl rfl
theorem wv_b {H C : Nat → Int} (ho : HOK H C) {mute : Int} {nx : Int → Int → Int → Int} {lo hi : Int} (b : Bd H nx lo hi) {q here t a how : Int} (hw : 0 ≤ how ∧ how ≤ 4) (hh : 0 ≤ here ∧ here ≤ 4) (ht : 0 ≤ t ∧ t ≤ H 1) (ha : 0 ≤ a ∧ a ≤ H 2) : lo - 396000 ≤ wv H mute nx q here t a how ∧ wv H mute nx q here t a how ≤ hi + 1188000 := by
  have g := g_b ho (q := q) hw hh ht.1 ha.1
  have k := b (gt H q here how t a) (ga H q here how t a) _ (by omega) (by omega) (by omega) (by omega) (ifw01 H mute how here)
  unfold wv
  omega
theorem gr_b {H C : Nat → Int} (ho : HOK H C) {mute : Int} {nx : Int → Int → Int → Int} {lo hi : Int} (b : Bd H nx lo hi) {q here t a : Int} (hh : 0 ≤ here ∧ here ≤ 4) (ht : 0 ≤ t ∧ t ≤ H 1) (ha : 0 ≤ a ∧ a ≤ H 2) : lo - 396000 ≤ gr H mute nx q here t a ∧ gr H mute nx q here t a ≤ hi + 1188000 := by
  have w0 := wv_b ho b (mute := mute) (q := q) (how := 0) (by omega) hh ht ha
  have w1 := wv_b ho b (mute := mute) (q := q) (how := 1) (by omega) hh ht ha
  have w2 := wv_b ho b (mute := mute) (q := q) (how := 2) (by omega) hh ht ha
  have w3 := wv_b ho b (mute := mute) (q := q) (how := 3) (by omega) hh ht ha
  have w4 := wv_b ho b (mute := mute) (q := q) (how := 4) (by omega) hh ht ha
  unfold gr
  omega
theorem mean_b {c0 c1 c2 c3 x0 x1 x2 x3 lo hi : Int} (h0 : 0 ≤ c0) (h1 : 0 ≤ c1) (h2 : 0 ≤ c2) (h3 : 0 ≤ c3) (hs : c0 + c1 + c2 + c3 = 10) (b0 : lo ≤ x0 ∧ x0 ≤ hi) (b1 : lo ≤ x1 ∧ x1 ≤ hi) (b2 : lo ≤ x2 ∧ x2 ≤ hi) (b3 : lo ≤ x3 ∧ x3 ≤ hi) : 10 * lo ≤ c0 * x0 + c1 * x1 + c2 * x2 + c3 * x3 ∧ c0 * x0 + c1 * x1 + c2 * x2 + c3 * x3 ≤ 10 * hi := by
  have l0 := Int.mul_le_mul_of_nonneg_left b0.1 h0
  have l1 := Int.mul_le_mul_of_nonneg_left b1.1 h1
  have l2 := Int.mul_le_mul_of_nonneg_left b2.1 h2
  have l3 := Int.mul_le_mul_of_nonneg_left b3.1 h3
  have u0 := Int.mul_le_mul_of_nonneg_left b0.2 h0
  have u1 := Int.mul_le_mul_of_nonneg_left b1.2 h1
  have u2 := Int.mul_le_mul_of_nonneg_left b2.2 h2
  have u3 := Int.mul_le_mul_of_nonneg_left b3.2 h3
  have e1 : c0 * lo + c1 * lo + c2 * lo + c3 * lo = 10 * lo := by rw [← Int.add_mul, ← Int.add_mul, ← Int.add_mul, hs]
  have e2 : c0 * hi + c1 * hi + c2 * hi + c3 * hi = 10 * hi := by rw [← Int.add_mul, ← Int.add_mul, ← Int.add_mul, hs]
  omega
theorem tdiv_b {s lo hi : Int} (h : 10 * lo ≤ s ∧ s ≤ 10 * hi) : lo ≤ s.tdiv 10 ∧ s.tdiv 10 ≤ hi := by
  rcases Int.le_total 0 s with c | c
  · rw [Int.tdiv_eq_ediv_of_nonneg c]; omega
  · have e : s.tdiv 10 = -((-s) / 10) := by
      rw [← Int.tdiv_eq_ediv_of_nonneg (by omega), Int.neg_tdiv, Int.neg_neg]
    rw [e]; omega
theorem lit_b {H C : Nat → Int} (ho : HOK H C) {wet mute : Int} {nx : Int → Int → Int → Int} {lo hi : Int} (b : Bd H nx lo hi) {q t a w : Int} (hq : 0 ≤ q ∧ q < 24) (ht : 0 ≤ t ∧ t ≤ H 1) (ha : 0 ≤ a ∧ a ≤ H 2) (hw : w = 0 ∨ w = 1) : (10 * (lo - 396000) ≤ cw C wet q 0 * gr H mute nx q (0 + w) t a + cw C wet q 1 * gr H mute nx q (1 + w) t a + cw C wet q 2 * gr H mute nx q (2 + w) t a + cw C wet q 3 * gr H mute nx q (3 + w) t a ∧ cw C wet q 0 * gr H mute nx q (0 + w) t a + cw C wet q 1 * gr H mute nx q (1 + w) t a + cw C wet q 2 * gr H mute nx q (2 + w) t a + cw C wet q 3 * gr H mute nx q (3 + w) t a ≤ 10 * (hi + 1188000)) ∧ lo - 396000 ≤ lit H C wet mute nx q t a w ∧ lit H C wet mute nx q t a w ≤ hi + 1188000 := by
  have m := mean_b (cw_b ho (wet := wet) hq (k := 0) (by omega)).1 (cw_b ho (wet := wet) hq (k := 1) (by omega)).1 (cw_b ho (wet := wet) hq (k := 2) (by omega)).1 (cw_b ho (wet := wet) hq (k := 3) (by omega)).1 (cw_sum ho hq) (gr_b ho b (mute := mute) (q := q) (here := 0 + w) (by omega) ht ha) (gr_b ho b (mute := mute) (q := q) (here := 1 + w) (by omega) ht ha) (gr_b ho b (mute := mute) (q := q) (here := 2 + w) (by omega) ht ha) (gr_b ho b (mute := mute) (q := q) (here := 3 + w) (by omega) ht ha)
  exact ⟨m, tdiv_b m⟩
theorem Vq_b {H C : Nat → Int} (ho : HOK H C) {wet mute : Int} : ∀ (n : Nat) (q : Int), 0 ≤ q → q + n = H 0 → Bd H (Vq H C wet mute q) (-26136000) (1188000 * n)
  | 0, q, hq, e => by
    intro t a w t0 t1 a0 a1 hw
    have h1 := ho.2.1
    have b := off0_b ho (q := q) (t := t) (by omega) (by omega)
    rw [Vq_end (by omega)]
    omega
  | n + 1, q, hq, e => by
    intro t a w t0 t1 a0 a1 hw
    have ih := Vq_b ho (wet := wet) (mute := mute) n (q + 1) (by omega) (by omega)
    have h0 := ho.1
    have h1 := ho.2.1
    have b := off0_b ho (q := q) (t := t) (by omega) (by omega)
    have l := lit_b ho ih (wet := wet) (mute := mute) (q := q) (t := t) (a := a) (w := w) (by omega) (by omega) (by omega) hw
    rw [Vq_lt (by omega)]
    omega
theorem Vq_bd {H C : Nat → Int} (ho : HOK H C) (wet mute : Int) {q : Int} (hq : 0 ≤ q ∧ q ≤ H 0) : Bd H (Vq H C wet mute q) (-26136000) 28512000 := by
  intro t a w t0 t1 a0 a1 hw
  have h0 := ho.1
  have b := Vq_b ho (wet := wet) (mute := mute) (H 0 - q).toNat q hq.1 (by omega) t a w t0 t1 a0 a1 hw
  omega
/-- nobody here: nothing is given -/
theorem wv_none {H : Nat → Int} {mute : Int} {nx : Int → Int → Int → Int} {q t a how : Int} : wv H mute nx q 0 t a how = nx t a 0 := by
  unfold wv gv gt ga isW
  rw [if_neg (show ¬ (0 < H 11 ∧ (0 : Int) < 0 ∧ H 11 ≤ how ∧ how ≤ 3) by omega)]
  simp [gN]
theorem gr_none {H : Nat → Int} {mute : Int} {nx : Int → Int → Int → Int} {q t a : Int} : gr H mute nx q 0 t a = nx t a 0 := by
  unfold gr
  simp only [wv_none]
  omega
/-- no apples: an apple is as good as nothing -/
theorem wv_noapple {H : Nat → Int} {mute : Int} {nx : Int → Int → Int → Int} {q here t : Int} (ht : 0 ≤ t) : wv H mute nx q here t 0 4 = wv H mute nx q here t 0 0 := by
  have e : ∀ k : Nat, gN H q 4 t 0 k = gN H q 0 t 0 k := by
    intro k
    have key : ∀ k : Nat, gN H q 4 t 0 k = (-(k * nob H q), t, 0, (k : Int)) ∧ gN H q 0 t 0 k = (-(k * nob H q), t, 0, (k : Int)) := by
      intro k
      induction k with
      | zero => simp [gN]
      | succ k ih =>
        have m : min 0 t = 0 := by omega
        rw [gN, gN, ih.1, ih.2]
        simp [gst, m, Int.add_mul]
        omega
    rw [(key k).1, (key k).2]
  unfold wv gv gt ga
  rw [e]
  have i4 : isW H 4 here = 0 := by unfold isW; rw [if_neg (by omega)]
  have i0 : isW H 0 here = 0 := by unfold isW; rw [if_neg (by omega)]
  rw [i4, i0]
/-- the first of the best -/
def bs (f : Int → Int) : Nat → Int × Int
  | 0 => (0, f 0)
  | k + 1 => if (bs f k).2 < f ((k : Int) + 1) then ((k : Int) + 1, f ((k : Int) + 1)) else bs f k
def bgv (H : Nat → Int) (mute : Int) (nx : Int → Int → Int → Int) (q here t a : Int) : Int := (bs (wv H mute nx q here t a) 4).1
theorem bs_gr (H : Nat → Int) (mute : Int) (nx : Int → Int → Int → Int) (q here t a : Int) : (bs (wv H mute nx q here t a) 4).2 = gr H mute nx q here t a := by
  unfold gr
  have m : ∀ x y u : Int, ∀ k : Nat, (if x < y then ((k : Int) + 1, y) else (u, x)).2 = max x y := by
    intro x y u k
    split <;> (show _ = _; omega)
  have s : ∀ k : Nat, (bs (wv H mute nx q here t a) (k + 1)).2 = max (bs (wv H mute nx q here t a) k).2 (wv H mute nx q here t a ((k : Int) + 1)) := by
    intro k
    rw [bs]
    split <;> omega
  rw [s 3, s 2, s 1, s 0]
  rfl
theorem bs_b (f : Int → Int) (k : Nat) : 0 ≤ (bs f k).1 ∧ (bs f k).1 ≤ k := by
  induction k with
  | zero => exact ⟨Int.le_refl _, Int.le_refl _⟩
  | succ k ih =>
    rw [bs]
    split
    · dsimp only; omega
    · omega
