/-! THE PURE PROOFS, 12: MEAN, LEFT: what habits are worth; the class's way. -/
def EOK (E : Int → Int → Int → Int → Int → Int) : Prop := ∀ hb q t a here, 0 ≤ E hb q t a here ∧ E hb q t a here ≤ 4
def howE (E : Int → Int → Int → Int → Int → Int) (hb q t a here : Int) : Int := if here = 0 then 0 else E hb q t a here
theorem howE_b {E : Int → Int → Int → Int → Int → Int} (eo : EOK E) (hb q t a here : Int) : 0 ≤ howE E hb q t a here ∧ howE E hb q t a here ≤ 4 := by
  unfold howE
  split
  · omega
  · exact eo _ _ _ _ _
def mtE (H : Nat → Int) (E : Int → Int → Int → Int → Int → Int) (hb lf : Int) (nx : Int → Int → Int → Int) (q t a here : Int) : Int := (if lf = 0 then 1000 * gv H q here (howE E hb q t a here) t a else 0) + nx (gt H q here (howE E hb q t a here) t a) (ga H q here (howE E hb q t a here) t a) (isW H (howE E hb q t a here) here)
def bsE (H : Nat → Int) (lf q t : Int) : Int := if lf = 0 then off0 H q t else 1000 * t
def mnE (H C : Nat → Int) (E : Int → Int → Int → Int → Int → Int) (hb lf : Int) (nx : Int → Int → Int → Int) (q t a w : Int) : Int := (cw C 0 q 0 * mtE H E hb lf nx q t a (0 + w) + cw C 0 q 1 * mtE H E hb lf nx q t a (1 + w) + cw C 0 q 2 * mtE H E hb lf nx q t a (2 + w) + cw C 0 q 3 * mtE H E hb lf nx q t a (3 + w)).tdiv 10
def FM (H C : Nat → Int) (E : Int → Int → Int → Int → Int → Int) (hb lf u : Int) : Nat → Int → Int → Int → Int
  | 0 => fun t _ _ => bsE H lf (H 0) t
  | n + 1 => fun t a w => if H 0 - (n + 1) = u then bsE H lf (H 0 - (n + 1)) t else mnE H C E hb lf (FM H C E hb lf u n) (H 0 - (n + 1)) t a w
/-- what a habit is worth (or leaves) from quarter q on, the light going off at u -/
def Fq (H C : Nat → Int) (E : Int → Int → Int → Int → Int → Int) (hb lf u q t a w : Int) : Int := FM H C E hb lf u (H 0 - q).toNat t a w
theorem Fq_end {H C : Nat → Int} {E : Int → Int → Int → Int → Int → Int} {hb lf u q t a w : Int} (h : q = H 0 ∨ q = u) (hq : q ≤ H 0) : Fq H C E hb lf u q t a w = bsE H lf q t := by
  unfold Fq
  by_cases c : q = H 0
  · rw [c, show (H 0 - H 0).toNat = 0 from by omega]
    rfl
  · have e : (H 0 - q).toNat = (H 0 - (q + 1)).toNat + 1 := by omega
    have e2 : H 0 - (((H 0 - (q + 1)).toNat : Int) + 1) = q := by omega
    rw [e]
    show (if H 0 - (((H 0 - (q + 1)).toNat : Int) + 1) = u then bsE H lf (H 0 - (((H 0 - (q + 1)).toNat : Int) + 1)) t else _) = _
    rw [e2, if_pos (by omega)]
theorem Fq_lt {H C : Nat → Int} {E : Int → Int → Int → Int → Int → Int} {hb lf u q t a w : Int} (h : q < H 0) (hu : q ≠ u) : Fq H C E hb lf u q t a w = mnE H C E hb lf (Fq H C E hb lf u (q + 1)) q t a w := by
  have e : (H 0 - q).toNat = (H 0 - (q + 1)).toNat + 1 := by omega
  have e2 : H 0 - (((H 0 - (q + 1)).toNat : Int) + 1) = q := by omega
  unfold Fq
  rw [e]
  show (if H 0 - (((H 0 - (q + 1)).toNat : Int) + 1) = u then bsE H lf (H 0 - (((H 0 - (q + 1)).toNat : Int) + 1)) t else mnE H C E hb lf (FM H C E hb lf u (H 0 - (q + 1)).toNat) (H 0 - (((H 0 - (q + 1)).toNat : Int) + 1)) t a w) = _
  rw [e2, if_neg hu]
  try rfl
/-- the end told as never, or as the last quarter, is the same -/
theorem Fq_never {H C : Nat → Int} {E : Int → Int → Int → Int → Int → Int} {hb lf : Int} : ∀ (n : Nat) (q t a w : Int), 0 ≤ q → q + n = H 0 → Fq H C E hb lf (-1) q t a w = Fq H C E hb lf (H 0) q t a w
  | 0, q, t, a, w, h0, e => by rw [Fq_end (Or.inl (by omega)) (by omega), Fq_end (Or.inl (by omega)) (by omega)]
  | n + 1, q, t, a, w, h0, e => by
    have ih := fun t a w => Fq_never (H := H) (C := C) (E := E) (hb := hb) (lf := lf) n (q + 1) t a w (by omega) (by omega)
    rw [Fq_lt (H := H) (q := q) (u := -1) (by omega) (by omega), Fq_lt (H := H) (q := q) (u := H 0) (by omega) (by omega)]
    have e2 : Fq H C E hb lf (-1) (q + 1) = Fq H C E hb lf (H 0) (q + 1) := by
      funext t a w
      exact ih t a w
    rw [e2]
theorem mtE_b {H C : Nat → Int} (ho : HOK H C) {E : Int → Int → Int → Int → Int → Int} (eo : EOK E) {hb lf : Int} {nx : Int → Int → Int → Int} {lo hi : Int} (b : Bd H nx lo hi) {q t a here : Int} (hh : 0 ≤ here ∧ here ≤ 4) (ht : 0 ≤ t ∧ t ≤ H 1) (ha : 0 ≤ a ∧ a ≤ H 2) : lo - 396000 ≤ mtE H E hb lf nx q t a here ∧ mtE H E hb lf nx q t a here ≤ hi + 1188000 := by
  have g := g_b ho (q := q) (howE_b eo hb q t a here) hh ht.1 ha.1
  have k := b (gt H q here (howE E hb q t a here) t a) (ga H q here (howE E hb q t a here) t a) _ (by omega) (by omega) (by omega) (by omega) (isW_01 H (howE E hb q t a here) here)
  unfold mtE
  split <;> omega
theorem mnE_b {H C : Nat → Int} (ho : HOK H C) {E : Int → Int → Int → Int → Int → Int} (eo : EOK E) {hb lf : Int} {nx : Int → Int → Int → Int} {lo hi : Int} (b : Bd H nx lo hi) {q t a w : Int} (hq : 0 ≤ q ∧ q < 24) (ht : 0 ≤ t ∧ t ≤ H 1) (ha : 0 ≤ a ∧ a ≤ H 2) (hw : w = 0 ∨ w = 1) : (10 * (lo - 396000) ≤ cw C 0 q 0 * mtE H E hb lf nx q t a (0 + w) + cw C 0 q 1 * mtE H E hb lf nx q t a (1 + w) + cw C 0 q 2 * mtE H E hb lf nx q t a (2 + w) + cw C 0 q 3 * mtE H E hb lf nx q t a (3 + w) ∧ cw C 0 q 0 * mtE H E hb lf nx q t a (0 + w) + cw C 0 q 1 * mtE H E hb lf nx q t a (1 + w) + cw C 0 q 2 * mtE H E hb lf nx q t a (2 + w) + cw C 0 q 3 * mtE H E hb lf nx q t a (3 + w) ≤ 10 * (hi + 1188000)) ∧ lo - 396000 ≤ mnE H C E hb lf nx q t a w ∧ mnE H C E hb lf nx q t a w ≤ hi + 1188000 := by
  have m := mean_b (cw_b ho (wet := 0) hq (k := 0) (by omega)).1 (cw_b ho (wet := 0) hq (k := 1) (by omega)).1 (cw_b ho (wet := 0) hq (k := 2) (by omega)).1 (cw_b ho (wet := 0) hq (k := 3) (by omega)).1 (cw_sum ho hq) (mtE_b ho eo b (hb := hb) (lf := lf) (q := q) (here := 0 + w) (by omega) ht ha) (mtE_b ho eo b (hb := hb) (lf := lf) (q := q) (here := 1 + w) (by omega) ht ha) (mtE_b ho eo b (hb := hb) (lf := lf) (q := q) (here := 2 + w) (by omega) ht ha) (mtE_b ho eo b (hb := hb) (lf := lf) (q := q) (here := 3 + w) (by omega) ht ha)
  exact ⟨m, tdiv_b m⟩
theorem Fq_b {H C : Nat → Int} (ho : HOK H C) {E : Int → Int → Int → Int → Int → Int} (eo : EOK E) {hb lf u : Int} : ∀ (n : Nat) (q : Int), 0 ≤ q → q + n = H 0 → Bd H (Fq H C E hb lf u q) (-26136000 - 396000 * n) (120000 + 1188000 * n)
  | 0, q, hq, e => by
    intro t a w t0 t1 a0 a1 hw
    have h1 := ho.2.1
    have b := off0_b ho (q := q) (t := t) (by omega) (by omega)
    rw [Fq_end (by omega) (by omega)]
    unfold bsE
    split <;> omega
  | n + 1, q, hq, e => by
    intro t a w t0 t1 a0 a1 hw
    have ih := Fq_b ho eo (hb := hb) (lf := lf) (u := u) n (q + 1) (by omega) (by omega)
    have h0 := ho.1
    have h1 := ho.2.1
    have b := off0_b ho (q := q) (t := t) (by omega) (by omega)
    by_cases c : q = u
    · rw [Fq_end (by omega) (by omega)]
      unfold bsE
      split <;> omega
    · have l := mnE_b ho eo ih (hb := hb) (lf := lf) (q := q) (t := t) (a := a) (w := w) (by omega) (by omega) (by omega) hw
      rw [Fq_lt (by omega) c]
      omega
theorem Fq_bd {H C : Nat → Int} (ho : HOK H C) {E : Int → Int → Int → Int → Int → Int} (eo : EOK E) (hb lf u : Int) {q : Int} (hq : 0 ≤ q ∧ q ≤ H 0) : Bd H (Fq H C E hb lf u q) (-36000000) 30000000 := by
  intro t a w t0 t1 a0 a1 hw
  have h0 := ho.1
  have b := Fq_b ho eo (hb := hb) (lf := lf) (u := u) (H 0 - q).toNat q hq.1 (by omega) t a w t0 t1 a0 a1 hw
  omega
/-- the class's habits give what E says -/
def HabL (N : Nat) (H : Nat → Int) (E : Int → Int → Int → Int → Int → Int) (h : PH) : Prop := ∀ h1, Shp h1 → hI h1 10 = hI h 10 → hI h1 14 = hI h 14 → hI h1 15 = hI h 15 → ∀ hb q t a here : Int, 0 ≤ hb → hb < H 15 → 0 ≤ q → q < 24 → 0 ≤ t → t ≤ 120 → 0 ≤ a → a ≤ 12 → 0 ≤ here → here ≤ 4 → ∃ h2, Me_giveOf N 45 (iv hb) (iv q) (iv t) (iv a) (iv here) h1 = some (iv (E hb q t a here), h2) ∧ FrI (fun b => b = 46) h1 h2
theorem HabL.fr {N : Nat} {H : Nat → Int} {E : Int → Int → Int → Int → Int → Int} {h h2 : PH} {S : Nat → Prop} (x : HabL N H E h) (f : FrI S h h2) (n0 : ¬ S 10) (n1 : ¬ S 14) (n2 : ¬ S 15) : HabL N H E h2 := fun h1 s e0 e1 e2 => x h1 s (e0.trans (f.2.2.2.2.2 10 n0)) (e1.trans (f.2.2.2.2.2 14 n1)) (e2.trans (f.2.2.2.2.2 15 n2))
def SMe (kn ro : Nat) (b : Nat) : Prop := b = 46 ∨ b = kn ∨ b = ro
/-- where a Means stands in its asking -/
def MeC (N : Nat) (H C : Nat → Int) (E : Int → Int → Int → Int → Int → Int) (hb lf u : Int) (kn ro lk lr : Nat) (rd : Int) (h : PH) : Prop := Shp h ∧ HsL 10 H C h ∧ HabL N H E h ∧ hR h 45 5 = some kn ∧ hK h kn = (20, lk) ∧ hR h 45 6 = some ro ∧ hK h ro = (20, lr) ∧ hI h 45 2 = iv hb ∧ hI h 45 3 = iv u ∧ hI h 45 7 = iv rd ∧ hZ h 45 4 = decide (lf = 1)
def MeK (H C : Nat → Int) (hb lf u : Int) (kn ro lk lr : Nat) (rd : Int) : Prop := szH H ≤ lk ∧ szH H ≤ lr ∧ lk ≤ 75504 ∧ lr ≤ 75504 ∧ (kn < 10 ∨ 15 < kn) ∧ (ro < 10 ∨ 15 < ro) ∧ kn ≠ ro ∧ kn ≠ 45 ∧ kn ≠ 46 ∧ ro ≠ 45 ∧ ro ≠ 46 ∧ (0 ≤ hb ∧ hb < H 15) ∧ (0 ≤ u ∧ u ≤ H 0) ∧ (lf = 0 ∨ lf = 1) ∧ (1 ≤ rd ∧ rd < 2147483648)
theorem MeC.fr {N : Nat} {H C : Nat → Int} {E : Int → Int → Int → Int → Int → Int} {hb lf u : Int} {kn ro lk lr : Nat} {rd : Int} {h h2 : PH} (k : MeK H C hb lf u kn ro lk lr rd) (x : MeC N H C E hb lf u kn ro lk lr rd h) (f : FrI (SMe kn ro) h h2) : MeC N H C E hb lf u kn ro lk lr rd h2 := by
  obtain ⟨-, -, -, -, k5, k6, k7, k8, k9, k10, k11, -⟩ := k
  obtain ⟨s, hs, hl, r5, e5, r6, e6, i2, i3, i7, z4⟩ := x
  refine ⟨f.shp s, hs.fr f.s ?_ ?_ ?_ ?_, hl.fr f ?_ ?_ ?_, ?_, ?_, ?_, ?_, ?_, ?_, ?_, ?_⟩
  · unfold SMe; omega
  · unfold SMe; omega
  · unfold SMe; omega
  · unfold SMe; omega
  · unfold SMe; omega
  · unfold SMe; omega
  · unfold SMe; omega
  · rw [f.2.2.1]; exact r5
  · rw [f.2.1]; exact e5
  · rw [f.2.2.1]; exact r6
  · rw [f.2.1]; exact e6
  · rw [f.I (by unfold SMe; omega)]; exact i2
  · rw [f.I (by unfold SMe; omega)]; exact i3
  · rw [f.I (by unfold SMe; omega)]; exact i7
  · rw [f.2.2.2.1]; exact z4
def Memo (H C : Nat → Int) (E : Int → Int → Int → Int → Int → Int) (hb lf u : Int) (kn ro : Nat) (rd : Int) (h : PH) : Prop := ∀ q t a w : Int, 0 ≤ q → q < u → 0 ≤ t → t ≤ H 1 → 0 ≤ a → a ≤ H 2 → (w = 0 ∨ w = 1) → hI h ro (pl H q t a w).toNat = iv rd → hI h kn (pl H q t a w).toNat = iv (Fq H C E hb lf u q t a w)
def RLe (ro lr : Nat) (rd : Int) (h : PH) : Prop := ∀ p, p < lr → ∃ r : Int, 0 ≤ r ∧ r ≤ rd ∧ hI h ro p = iv r
theorem fromL {N : Nat} {H C : Nat → Int} {E : Int → Int → Int → Int → Int → Int} {hb lf u : Int} {kn ro lk lr : Nat} {rd : Int} (hN : 200 ≤ N) (ho : HOK H C) (eo : EOK E) (mk : MeK H C hb lf u kn ro lk lr rd) : ∀ (n : Nat) (q t a w : Int) (h : PH), q + n = u → 0 ≤ q → (0 ≤ t ∧ t ≤ H 1) → (0 ≤ a ∧ a ≤ H 2) → (w = 0 ∨ w = 1) → MeC N H C E hb lf u kn ro lk lr rd h → Memo H C E hb lf u kn ro rd h → RLe ro lr rd h → ∀ fuel, n < fuel → Wp (Me_from N fuel 45 (iv q) (iv t) (iv a) (iv w) h) (fun v h2 => v = iv (Fq H C E hb lf u q t a w) ∧ FrI (SMe kn ro) h h2 ∧ Memo H C E hb lf u kn ro rd h2 ∧ RLe ro lr rd h2) := by
  have h01 := ho.1
  have h11 := ho.2.1
  have h21 := ho.2.2.1
  have mk0 := mk
  obtain ⟨zk, zr, lk1, lr1, k5, k6, k7, k8, k9, k10', k11, hhb, hu, hlf, hrd⟩ := mk
  intro n
  induction n with
  | zero =>
    intro q t a w h e hq ht ha hw x mm rl fuel hf
    obtain ⟨fu, rfl⟩ : ∃ fu, fuel = fu + 1 := ⟨fuel - 1, by omega⟩
    have eq : q = u := by omega
    obtain ⟨s, hs, hl, r5, e5, r6, e6, i2, i3, i7, z4⟩ := x
    rw [Me_from]
    refine Wp_ck (by rw [k45 s]) ?_
    rw [i3, z4]
    refine Wp_ifn (by rw [iv_lt (by omega) (by omega) (by omega) (by omega)]; omega) ?_
    simp only [bI_0]
    rw [Fq_end (Or.inr eq) (by omega)]
    unfold bsE
    refine Wp_if (fun c => ?_) (fun c => ?_)
    · have l0 : lf = 0 := by simp at c; omega
      refine Wp_bn (p45_0 s) (Wp_ck (by rw [k10 s]) (Wp_bde (off_eq s hs) (Wp_ret ⟨?_, FrI.rf, mm, rl⟩)))
      rw [if_pos l0, eq]
    · have l1 : lf = 1 := by simp at c; omega
      rw [il1000, iv_mul]
      exact Wp_ret ⟨by rw [if_neg (by omega)], FrI.rf, mm, rl⟩
  | succ n ih =>
    intro q t a w h e hq ht ha hw x mm rl fuel hf
    obtain ⟨fu, rfl⟩ : ∃ fu, fuel = fu + 1 := ⟨fuel - 1, by omega⟩
    have pb := pl_b (H := H) (q := q) (t := t) (a := a) (w := w) ⟨hq, by omega⟩ ht ha (by omega)
    have bd := Fq_bd ho eo hb lf u (q := q + 1) (by omega)
    have mb := mnE_b ho eo bd (hb := hb) (lf := lf) (q := q) (t := t) (a := a) (w := w) (by omega) ht ha hw
    have fe : Fq H C E hb lf u q t a w = mnE H C E hb lf (Fq H C E hb lf u (q + 1)) q t a w := Fq_lt (by omega) (by omega)
    have x0 := x
    obtain ⟨s, hs, hl, r5, e5, r6, e6, i2, i3, i7, z4⟩ := x
    have step : ∀ (gu : Nat) (k sum : Int) (h1 : PH) (Q : Int32 → PH → Prop), 0 ≤ k → k ≤ 3 → FrI (SMe kn ro) h h1 → Memo H C E hb lf u kn ro rd h1 → RLe ro lr rd h1 → (∀ h2, FrI (SMe kn ro) h h2 → Memo H C E hb lf u kn ro rd h2 → RLe ro lr rd h2 → Wp (Me_from_b82 N (Me_from N fu) gu 45 (iv q) (iv t) (iv a) (iv w) (iv (pl H q t a w)) (iv (sum + cw C 0 q k * mtE H E hb lf (Fq H C E hb lf u (q + 1)) q t a (k + w))) (iv (k + 1)) h2) Q) → Wp (Me_from_b82 N (Me_from N fu) (gu + 1) 45 (iv q) (iv t) (iv a) (iv w) (iv (pl H q t a w)) (iv sum) (iv k) h1) Q := by
      intro gu k sum h1 Q kk0 kk3 f1 mm1 rl1 kk
      have x1 := x0.fr mk0 f1
      have x1' := x1
      obtain ⟨s1, hs1, hl1, r51, e51, r61, e61, i21, i31, i71, z41⟩ := x1
      have cb := cw_b ho (wet := 0) (q := q) (k := k) (by omega) (by omega)
      rw [Me_from_b82]
      refine Wp_ifn (by rw [il3, iv_lt (by omega) (by omega) (by omega) (by omega)]; omega) (Wp_ck (by rw [k45 s1]) (Wp_bn (p45_0 s1) (Wp_ck (by rw [k10 s1]) ?_)))
      rw [il0]
      refine Wp_bde (chL_eq s1 hs1 (Or.inl rfl) (by omega) (by omega)) ?_
      refine Wp_if (fun c => ?_) (fun c => ?_)
      · rw [iv_le (by omega) (by omega) (by omega) (by omega)] at c
        unfold Me_from_b234
        rw [il1, iv_add]
        have r := kk h1 f1 mm1 rl1
        rw [show cw C 0 q k = 0 from by omega, Int.zero_mul, Int.add_zero] at r
        exact r
      · rw [iv_le (by omega) (by omega) (by omega) (by omega)] at c
        have body : ∀ here : Int, here = k + w → Wp (Me_from_b120 N (Me_from N fu) (Me_from_b82 N (Me_from N fu) gu) (iv here) 45 (iv q) (iv t) (iv a) (iv w) (iv (pl H q t a w)) (iv sum) (iv k) (iv (cw C 0 q k)) h1) Q := by
          intro here eh
          have hh : 0 ≤ here ∧ here ≤ 4 := by omega
          have tail : ∀ (how : Int) (h2 : PH), how = howE E hb q t a here → FrI (SMe kn ro) h h2 → Memo H C E hb lf u kn ro rd h2 → RLe ro lr rd h2 → Wp (Me_from_b144 N (Me_from N fu) (Me_from_b82 N (Me_from N fu) gu) (iv how) 45 (iv q) (iv t) (iv a) (iv w) (iv (pl H q t a w)) (iv sum) (iv k) (iv (cw C 0 q k)) (iv here) h2) Q := by
            intro how h2 eho f2 mm2 rl2
            have x2 := x0.fr mk0 f2
            have x2' := x2
            obtain ⟨s2, hs2, hl2, r52, e52, r62, e62, i22, i32, i72, z42⟩ := x2
            have hw4 := howE_b eo hb q t a here
            rw [← eho] at hw4
            have g := g_b ho (q := q) hw4 hh ht.1 ha.1
            obtain ⟨c1, c2, c3, c4⟩ := cg_all (H := H) (q := q) hh.1 hw4 ht.1 ha.1
            have last : ∀ z : Int, z = (if lf = 0 then 1000 * gv H q here how t a else 0) → Wp (Me_from_b175 N (Me_from N fu) (Me_from_b82 N (Me_from N fu) gu) (iv z) 45 (iv q) (iv t) (iv a) (iv w) (iv (pl H q t a w)) (iv sum) (iv k) (iv (cw C 0 q k)) (iv here) (iv how) h2) Q := by
              intro z ez
              unfold Me_from_b175 Me_from_b234
              refine Wp_ck (by rw [k45 s2]) (Wp_bn (p45_0 s2) (Wp_ck (by rw [k10 s2]) (Wp_bde (cgt_eq (by omega) (by omega) hw4) (Wp_ck (by rw [k45 s2]) (Wp_bn (p45_0 s2) (Wp_ck (by rw [k10 s2]) (Wp_bde (cga_eq (by omega) (by omega) hw4) (Wp_ck (by rw [k45 s2]) (Wp_bn (p45_0 s2) (Wp_ck (by rw [k10 s2]) (Wp_bde (isW_eq s2 ho hs2 (by omega) hw4) (Wp_ck (by rw [k45 s2]) ?_))))))))))))
              rw [bI_w (isW_01 H how here), il1, iv_add, iv_sub, iv_sub, ← c2, ← c3]
              refine Wp_bd2 (ih (q + 1) _ _ _ h2 (by omega) (by omega) (by omega) (by omega) (isW_01 H how here) x2' mm2 rl2 fu (by omega)) ?_
              rintro v h3 ⟨rfl, f3, mm3, rl3⟩
              rw [iv_add, iv_mul, iv_add, iv_add]
              have r := kk h3 (f2.tr f3) mm3 rl3
              unfold mtE at r
              rw [← eh, ← eho, ← ez] at r
              exact r
            unfold Me_from_b144
            refine Wp_ck (by rw [k45 s2]) ?_
            rw [z42]
            simp only [bI_0]
            refine Wp_if (fun c => ?_) (fun c => ?_)
            · have l0 : lf = 0 := by simp at c; omega
              refine Wp_bn (p45_0 s2) (Wp_ck (by rw [k10 s2]) (Wp_bde (cgv_eq s2 ho hs2 (by omega) (by omega) (by omega) (by omega) hw4) ?_))
              rw [il1000, iv_mul, ← c1]
              exact last _ (by rw [if_pos l0])
            · have l1 : lf = 1 := by simp at c; omega
              rw [il0]
              exact last _ (by rw [if_neg (by omega)])
          unfold Me_from_b120
          refine Wp_if (fun c => ?_) (fun c => ?_)
          · rw [il0, iv_le (by omega) (by omega) (by omega) (by omega)] at c
            rw [il0]
            refine tail 0 h1 ?_ f1 mm1 rl1
            unfold howE
            rw [if_pos (by omega)]
          · rw [il0, iv_le (by omega) (by omega) (by omega) (by omega)] at c
            refine Wp_ck (by rw [k45 s1]) ?_
            rw [i21]
            obtain ⟨h2, eh2, f2⟩ := hl1 h1 s1 rfl rfl rfl hb q t a here hhb.1 hhb.2 hq (by omega) ht.1 (by omega) ha.1 (by omega) hh.1 hh.2
            refine Wp_bde eh2 ?_
            have f2' : FrI (SMe kn ro) h1 h2 := f2.up (fun b eb => Or.inl eb)
            refine tail _ h2 ?_ (f1.tr f2') ?_ ?_
            · unfold howE
              rw [if_neg (by omega)]
            · intro q3 t3 a3 w3 b0 b1 b2 b3 b4 b5 b6 b7
              rw [f2.I (by omega)] at b7 ⊢
              exact mm1 q3 t3 a3 w3 b0 b1 b2 b3 b4 b5 b6 b7
            · intro p hp
              rw [f2.I (by omega)]
              exact rl1 p hp
        simp only [show (iv w = iv 0) ↔ w = 0 from iv_eq (by omega) (by omega) (by omega) (by omega)]
        refine Wp_if (fun c0 => ?_) (fun c0 => ?_)
        · exact body k (by omega)
        · rw [il1, iv_add]
          exact body (k + 1) (by omega)
    rw [Me_from]
    refine Wp_ck (by rw [k45 s]) ?_
    rw [i3]
    refine Wp_ifp (by rw [iv_lt (by omega) (by omega) (by omega) (by omega)]; omega) (Wp_bn (p45_0 s) (Wp_ck (by rw [k10 s]) (Wp_bde (place_eq s hs hw) (Wp_ck (by rw [k45 s]) ?_))))
    rw [r6]
    refine Wp_bde (at_in e6 (by omega) pb.1 (by omega)) (Wp_ck (by rw [k45 s]) ?_)
    rw [i7, r5]
    refine Wp_if (fun c => ?_) (fun c => ?_)
    · refine Wp_bde (at_in e5 (by omega) pb.1 (by omega)) (Wp_ret ⟨?_, FrI.rf, mm, rl⟩)
      exact mm q t a w hq (by omega) ht.1 ht.2 ha.1 ha.2 hw c
    · obtain ⟨gu, egu⟩ : ∃ g, N = g + 1 + 1 + 1 + 1 + 1 := ⟨N - 5, by omega⟩
      have go : Wp (Me_from_b82 N (Me_from N fu) (gu + 1 + 1 + 1 + 1 + 1) 45 (iv q) (iv t) (iv a) (iv w) (iv (pl H q t a w)) (iv 0) (iv 0) h) (fun v h2 => v = iv (Fq H C E hb lf u q t a w) ∧ FrI (SMe kn ro) h h2 ∧ Memo H C E hb lf u kn ro rd h2 ∧ RLe ro lr rd h2) := by
        refine step _ 0 0 h _ (by omega) (by omega) FrI.rf mm rl (fun h2 f2 mm2 rl2 => ?_)
        refine step _ (0 + 1) _ h2 _ (by omega) (by omega) f2 mm2 rl2 (fun h3 f3 mm3 rl3 => ?_)
        refine step _ (0 + 1 + 1) _ h3 _ (by omega) (by omega) f3 mm3 rl3 (fun h4 f4 mm4 rl4 => ?_)
        refine step _ (0 + 1 + 1 + 1) _ h4 _ (by omega) (by omega) f4 mm4 rl4 (fun h5 f5 mm5 rl5 => ?_)
        have x5 := x0.fr mk0 f5
        obtain ⟨s5, hs5, hl5, r55, e55, r65, e65, i25, i35, i75, z45⟩ := x5
        have ev : (0 + cw C 0 q 0 * mtE H E hb lf (Fq H C E hb lf u (q + 1)) q t a (0 + w) + cw C 0 q (0 + 1) * mtE H E hb lf (Fq H C E hb lf u (q + 1)) q t a (0 + 1 + w) + cw C 0 q (0 + 1 + 1) * mtE H E hb lf (Fq H C E hb lf u (q + 1)) q t a (0 + 1 + 1 + w) + cw C 0 q (0 + 1 + 1 + 1) * mtE H E hb lf (Fq H C E hb lf u (q + 1)) q t a (0 + 1 + 1 + 1 + w)) = cw C 0 q 0 * mtE H E hb lf (Fq H C E hb lf u (q + 1)) q t a (0 + w) + cw C 0 q 1 * mtE H E hb lf (Fq H C E hb lf u (q + 1)) q t a (1 + w) + cw C 0 q 2 * mtE H E hb lf (Fq H C E hb lf u (q + 1)) q t a (2 + w) + cw C 0 q 3 * mtE H E hb lf (Fq H C E hb lf u (q + 1)) q t a (3 + w) := by
          rw [show (0 : Int) + 1 = 1 from rfl, show (1 : Int) + 1 = 2 from rfl, show (2 : Int) + 1 = 3 from rfl]
          omega
        have fv : (cw C 0 q 0 * mtE H E hb lf (Fq H C E hb lf u (q + 1)) q t a (0 + w) + cw C 0 q 1 * mtE H E hb lf (Fq H C E hb lf u (q + 1)) q t a (1 + w) + cw C 0 q 2 * mtE H E hb lf (Fq H C E hb lf u (q + 1)) q t a (2 + w) + cw C 0 q 3 * mtE H E hb lf (Fq H C E hb lf u (q + 1)) q t a (3 + w)).tdiv 10 = Fq H C E hb lf u q t a w := fe.symm
        rw [Me_from_b82, ev]
        refine Wp_ifp (by decide) (Wp_ck (by rw [k45 s5]) (Wp_ck (by decide) ?_))
        rw [r55, il10, iv_div (by omega) (by omega) (by omega) (by omega), fv]
        refine Wp_bde (put_in e55 (by omega) pb.1 (by omega)) (Wp_ck (by rw [hK_wI, k45 s5]) ?_)
        rw [hR_wI, r65, hI_wI, if_neg (by omega), i75]
        have f6 : FrI (SMe kn ro) h (wI h5 kn (pl H q t a w).toNat (iv (Fq H C E hb lf u q t a w))) := f5.w (Or.inr (Or.inl rfl))
        refine Wp_bde (put_in (by rw [hK_wI]; exact e65) (by omega) pb.1 (by omega)) (Wp_ck (by decide) (Wp_ret ⟨rfl, f6.w (Or.inr (Or.inr rfl)), ?_, ?_⟩))
        · intro q3 t3 a3 w3 b0 b1 b2 b3 b4 b5 b6
          have pb3 := pl_b (H := H) (q := q3) (t := t3) (a := a3) (w := w3) ⟨b0, by omega⟩ ⟨b2, b3⟩ ⟨b4, b5⟩ (by omega)
          rw [hI_wI, hI_wI, hI_wI, hI_wI, if_neg (by omega : ¬ (kn = ro ∧ (pl H q3 t3 a3 w3).toNat = (pl H q t a w).toNat))]
          by_cases c1 : pl H q3 t3 a3 w3 = pl H q t a w
          · intro _
            obtain ⟨j1, j2, j3, j4⟩ := pl_inj (H := H) ⟨b2, b3⟩ ⟨b4, b5⟩ (by omega : 0 ≤ w3 ∧ w3 ≤ 1) ht ha (by omega : 0 ≤ w ∧ w ≤ 1) c1
            rw [if_pos ⟨rfl, by rw [c1]⟩, j1, j2, j3, j4]
          · rw [if_neg (by omega), if_neg (by omega), if_neg (by omega)]
            exact mm5 q3 t3 a3 w3 b0 b1 b2 b3 b4 b5 b6
        · intro p hp
          rw [hI_wI, hI_wI]
          split
          · exact ⟨rd, by omega, by omega, rfl⟩
          · rw [if_neg (by omega)]
            exact rl5 p hp
      rw [← egu] at go
      rw [il0]
      exact go
