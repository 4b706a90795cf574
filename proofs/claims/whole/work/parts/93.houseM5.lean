/-! THE PURE PROOFS, 71: the reference reads a house: what it begins with, all lines. -/
def FrP (r : Nat) (h h2 : PH) : Prop := FrS (fun b => b = 94 ∨ b = 95 ∨ b = 96) h h2 ∧ (∀ j, j < 18 * r → hI h2 94 j = hI h 94 j) ∧ (∀ j, j < 96 * r → hI h2 95 j = hI h 95 j)
theorem FrP.rf {r : Nat} {h : PH} : FrP r h h := ⟨FrS.rf, fun _ _ => rfl, fun _ _ => rfl⟩
theorem FrP.w {r a i : Nat} {h0 h : PH} {v : Int32} (f : FrP r h0 h) (ha : (a = 94 ∧ 18 * r ≤ i) ∨ (a = 95 ∧ 96 * r ≤ i)) : FrP r h0 (wI h a i v) := ⟨f.1.aI (by omega), fun j hj => by rw [hI_wI, if_neg (by omega)]; exact f.2.1 j hj, fun j hj => by rw [hI_wI, if_neg (by omega)]; exact f.2.2 j hj⟩
theorem FrP.z {r i : Nat} {h0 h : PH} {v : Bool} (f : FrP r h0 h) : FrP r h0 (wZ h 96 i v) := ⟨f.1.aZ (by omega), f.2.1, f.2.2⟩
theorem pl2M {N r : Nat} {h0 : PH} {Q : Unit → PH → Prop} (s0 : Shp h0) (hr : r ≤ 1) (next : ∀ h2, FrP r h0 h2 → (∀ i, i < 18 → hI h2 94 (18 * r + i) = iv (if i = 0 then 1 else 0)) → Wp (Mo_plain_b40 N N 92 (iv r) 0 h2) Q) : ∀ (m k : Nat) (h : PH), k + m = 18 → FrP r h0 h → (∀ i, i < k → hI h 94 (18 * r + i) = iv 0) → ∀ fuel, m < fuel → Wp (Mo_plain_b2 N fuel 92 (iv r) (iv k) h) Q
  | m, k, h, hk, f, e, fuel, hf => by
    obtain ⟨fu, rfl⟩ : ∃ g, fuel = g + 1 := ⟨fuel - 1, by omega⟩
    have s := f.1.shp s0
    rw [Mo_plain_b2]
    dsimp only
    rw [show (18 : Int32) = iv 18 from iv_lit _, il0, il1]
    simp only [iv_mul, iv_add]
    refine Wp_if (fun c => ?_) (fun c => ?_)
    · rw [iv_le (by omega) (by omega) (by omega) (by omega)] at c
      refine Wp_ck (by rw [k92 s]) (Wp_bn (p92_10 s) (Wp_ck (by rw [k94 s]) (Wp_ck (by rw [k94 s]; exact inb_iv (by omega) (by omega) (by omega)) (Wp_lt ?_))))
      rw [ix_iv (by omega) (by omega)]
      refine next _ (f.w (by omega)) (fun i hi => ?_)
      rw [hI_wI]
      by_cases z : i = 0
      · rw [if_pos ⟨rfl, by omega⟩, if_pos z]
      · rw [if_neg (by omega), if_neg z]; exact e i (by omega)
    · rw [iv_le (by omega) (by omega) (by omega) (by omega)] at c
      refine Wp_ck (by rw [k92 s]) (Wp_bn (p92_10 s) (Wp_ck (by rw [k94 s]) (Wp_ck (by rw [k94 s]; exact inb_iv (by omega) (by omega) (by omega)) (Wp_lt ?_))))
      rw [ix_iv (by omega) (by omega)]
      obtain ⟨m2, rfl⟩ : ∃ g, m = g + 1 := ⟨m - 1, by omega⟩
      refine pl2M s0 hr next m2 (k + 1) _ (by omega) (f.w (by omega)) (fun i hi => ?_) fu (by omega)
      rw [hI_wI]
      by_cases z : i = k
      · rw [if_pos ⟨rfl, by omega⟩]
      · rw [if_neg (by omega)]; exact e i (by omega)
theorem pl40M {N r : Nat} {h0 : PH} {Q : Unit → PH → Prop} (s0 : Shp h0) (hr : r ≤ 1) (next : ∀ h2, FrP r h0 h2 → (∀ i, i < 18 → hI h2 94 (18 * r + i) = iv (H1 i)) → Wp (Mo_plain_b69 N N 92 (iv r) 0 h2) Q) : ∀ (m k : Nat) (h : PH), k + m = 3 → FrP r h0 h → (∀ i, i < 18 → hI h 94 (18 * r + i) = iv (if i = 0 then 1 else if 4 ≤ i ∧ i < 4 + k then 7 - (i : Int) else 0)) → ∀ fuel, m < fuel → Wp (Mo_plain_b40 N fuel 92 (iv r) (iv k) h) Q
  | m, k, h, hk, f, e, fuel, hf => by
    obtain ⟨fu, rfl⟩ : ∃ g, fuel = g + 1 := ⟨fuel - 1, by omega⟩
    have s := f.1.shp s0
    rw [Mo_plain_b40, il3]
    refine Wp_if (fun c => ?_) (fun c => ?_)
    · rw [iv_le (by omega) (by omega) (by omega) (by omega)] at c
      refine next h f (fun i hi => ?_)
      rw [e i hi]
      congr 1
      unfold H1
      repeat' split
      all_goals omega
    · rw [iv_le (by omega) (by omega) (by omega) (by omega)] at c
      rw [show (18 : Int32) = iv 18 from iv_lit _, il4, il1, iv_mul, iv_add, iv_add, iv_add, iv_sub]
      refine Wp_ck (by rw [k92 s]) (Wp_bn (p92_10 s) (Wp_ck (by rw [k94 s]) (Wp_ck (by rw [k94 s]; exact inb_iv (by omega) (by omega) (by omega)) (Wp_lt ?_))))
      rw [ix_iv (by omega) (by omega)]
      obtain ⟨m2, rfl⟩ : ∃ g, m = g + 1 := ⟨m - 1, by omega⟩
      refine pl40M s0 hr next m2 (k + 1) _ (by omega) (f.w (by omega)) (fun i hi => ?_) fu (by omega)
      rw [hI_wI]
      by_cases z : i = 4 + k
      · rw [if_pos ⟨rfl, by omega⟩, if_neg (by omega), if_pos (by omega)]
        congr 1
        omega
      · rw [if_neg (by omega), e i hi]
        congr 1
        by_cases y : i = 0
        · rw [if_pos y, if_pos y]
        · rw [if_neg y, if_neg y]
          by_cases w : 4 ≤ i ∧ i < 4 + k
          · rw [if_pos w, if_pos (by omega)]
          · rw [if_neg w, if_neg (by omega)]
theorem pl89M {N r q : Nat} {h0 : PH} {self : Nat → Int32 → Int32 → PH → Option (Unit × PH)} {Q : Unit → PH → Prop} (s0 : Shp h0) (hr : r ≤ 1) (hq : q < 24) (next : ∀ h2, FrP r h0 h2 → hI h2 94 = hI h0 94 → hZ h2 = hZ h0 → (∀ j, hI h2 95 j = if 96 * r + 4 * q ≤ j ∧ j < 96 * r + 4 * q + 4 then iv (C1 (j - 96 * r)) else hI h0 95 j) → Wp (self 92 (iv r) (iv q + 1) h2) Q) : ∀ (m k : Nat) (h : PH), k + m = 4 → FrP r h0 h → hI h 94 = hI h0 94 → hZ h = hZ h0 → (∀ j, hI h 95 j = if 96 * r + 4 * q ≤ j ∧ j < 96 * r + 4 * q + k then iv (C1 (j - 96 * r)) else hI h0 95 j) → ∀ fuel, m < fuel → Wp (Mo_plain_b89 N self fuel 92 (iv r) (iv q) (iv k) h) Q
  | m, k, h, hk, f, e94, eZ, e, fuel, hf => by
    obtain ⟨fu, rfl⟩ : ∃ g, fuel = g + 1 := ⟨fuel - 1, by omega⟩
    have s := f.1.shp s0
    rw [Mo_plain_b89, il4, il0]
    refine Wp_if (fun c => ?_) (fun c => ?_)
    · rw [iv_le (by omega) (by omega) (by omega) (by omega)] at c
      refine next h f e94 eZ (fun j => ?_)
      rw [e j]
      by_cases z : 96 * r + 4 * q ≤ j ∧ j < 96 * r + 4 * q + k
      · rw [if_pos z, if_pos (by omega)]
      · rw [if_neg z, if_neg (by omega)]
    · rw [iv_le (by omega) (by omega) (by omega) (by omega)] at c
      rw [show (96 : Int32) = iv 96 from iv_lit _, iv_mul, iv_mul, iv_add, iv_add, show (10 : Int32) = iv 10 from iv_lit _]
      obtain ⟨m2, rfl⟩ : ∃ g, m = g + 1 := ⟨m - 1, by omega⟩
      have one : ∀ v : Int, v = C1 (4 * q + k) → Wp (Mo_plain_b118 N self (Mo_plain_b89 N self fu) (hR h 92 11) (iv (96 * (r : Int) + 4 * (q : Int) + (k : Int))) (iv v) 92 (iv r) (iv q) (iv k) h) Q := by
        rintro v rfl
        unfold Mo_plain_b118
        refine Wp_bn (p92_11 s) (Wp_ck (by rw [k95 s]) (Wp_ck (by rw [k95 s]; exact inb_iv (by omega) (by omega) (by omega)) (Wp_lt ?_)))
        rw [ix_iv (by omega) (by omega), il1, iv_add]
        refine pl89M s0 hr hq next m2 (k + 1) _ (by omega) (f.w (by omega)) ?_ (by rw [← eZ]; rfl) (fun j => ?_) fu (by omega)
        · rw [← e94]
          funext j
          rw [hI_wI, if_neg (by omega)]
        · rw [hI_wI]
          by_cases z : j = 96 * r + 4 * q + k
          · rw [if_pos ⟨rfl, by omega⟩, if_pos (by omega), show j - 96 * r = 4 * q + k from by omega]
          · rw [if_neg (by omega), e j]
            by_cases y : 96 * r + 4 * q ≤ j ∧ j < 96 * r + 4 * q + k
            · rw [if_pos y, if_pos (by omega)]
            · rw [if_neg y, if_neg (by omega)]
      refine Wp_ck (by rw [k92 s]) (Wp_if (fun d => ?_) (fun d => ?_))
      · rw [iv_eq (by omega) (by omega) (by omega) (by omega)] at d
        exact one 10 (by unfold C1; rw [if_pos (by omega)])
      · rw [iv_eq (by omega) (by omega) (by omega) (by omega)] at d
        exact one 0 (by unfold C1; rw [if_neg (by omega)])
theorem pl69M {N r : Nat} {h0 : PH} (hN : 100 ≤ N) (s0 : Shp h0) (hr : r ≤ 1) (eH : ∀ i, i < 18 → hI h0 94 (18 * r + i) = iv (H1 i)) : ∀ (m q : Nat) (h : PH), q + m = 24 → FrP r h0 h → hI h 94 = hI h0 94 → (∀ i, i < q → hZ h 96 (24 * r + i) = false) → (∀ j, j < 4 * q → hI h 95 (96 * r + j) = iv (C1 j)) → ∀ fuel, m < fuel → Wp (Mo_plain_b69 N fuel 92 (iv r) (iv q) h) (fun _ h2 => FrP r h0 h2 ∧ (∀ i, i < 18 → hI h2 94 (18 * r + i) = iv (H1 i)) ∧ (∀ i, i < 24 → hZ h2 96 (24 * r + i) = false) ∧ (∀ j, j < 96 → hI h2 95 (96 * r + j) = iv (C1 j)))
  | m, q, h, hq, f, e94, eZ, e, fuel, hf => by
    obtain ⟨fu, rfl⟩ : ∃ g, fuel = g + 1 := ⟨fuel - 1, by omega⟩
    have s := f.1.shp s0
    rw [Mo_plain_b69, show (24 : Int32) = iv 24 from iv_lit _]
    refine Wp_if (fun c => ?_) (fun c => ?_)
    · rw [iv_le (by omega) (by omega) (by omega) (by omega)] at c
      exact Wp_ret ⟨f, fun i hi => by rw [e94]; exact eH i hi, fun i hi => eZ i (by omega), fun j hj => e j (by omega)⟩
    · rw [iv_le (by omega) (by omega) (by omega) (by omega)] at c
      rw [iv_mul, iv_add]
      refine Wp_ck (by rw [k92 s]) (Wp_bn (p92_12 s) (Wp_ck (by rw [k96 s]) (Wp_ck (by rw [k96 s]; exact inb_iv (by omega) (by omega) (by omega)) (Wp_lt ?_))))
      rw [ix_iv (by omega) (by omega), tb_0]
      obtain ⟨m2, rfl⟩ : ∃ g, m = g + 1 := ⟨m - 1, by omega⟩
      have g0 := f.z (i := (24 * (r : Int) + (q : Int)).toNat) (v := false)
      have s1 := g0.1.shp s0
      refine pl89M (N := N) (q := q) s1 hr (by omega) (fun h2 f2 a94 aZ a95 => ?_) 4 0 _ (by omega) FrP.rf rfl rfl (fun j => ?_) N (by omega)
      · rw [il1, iv_add]
        refine pl69M hN s0 hr eH m2 (q + 1) h2 (by omega) ⟨g0.1.tr f2.1, fun j hj => (f2.2.1 j hj).trans (g0.2.1 j hj), fun j hj => (f2.2.2 j hj).trans (g0.2.2 j hj)⟩ (a94.trans e94) (fun i hi => ?_) (fun j hj => ?_) fu (by omega)
        · rw [aZ, hZ_wZ]
          by_cases z : i = q
          · rw [if_pos ⟨rfl, by omega⟩]
          · rw [if_neg (by omega)]; exact eZ i (by omega)
        · rw [a95]
          by_cases z : 96 * r + 4 * q ≤ 96 * r + j ∧ 96 * r + j < 96 * r + 4 * q + 4
          · rw [if_pos z, show 96 * r + j - 96 * r = j from by omega]
          · rw [if_neg z]
            exact e j (by omega)
      · rw [if_neg (by omega)]
theorem plainM {N r : Nat} {h : PH} (hN : 100 ≤ N) (s : Shp h) (hr : r ≤ 1) : Wp (Mo_plain N 92 (iv r) h) (fun _ h2 => FrP r h h2 ∧ (∀ i, i < 18 → hI h2 94 (18 * r + i) = iv (H1 i)) ∧ (∀ i, i < 24 → hZ h2 96 (24 * r + i) = false) ∧ (∀ j, j < 96 → hI h2 95 (96 * r + j) = iv (C1 j))) := by
  unfold Mo_plain
  refine pl2M s hr (fun h2 f2 e2 => ?_) 18 0 h (by omega) FrP.rf (fun i hi => by omega) N (by omega)
  refine pl40M s hr (fun h3 f3 e3 => ?_) 3 0 h2 (by omega) f2 (fun i hi => ?_) N (by omega)
  · have s3 := f3.1.shp s
    refine Wp_mono (pl69M hN s3 hr e3 24 0 h3 (by omega) FrP.rf rfl (fun i hi => by omega) (fun j hj => by omega) N (by omega)) ?_
    rintro - h4 ⟨f4, b1, b2, b3⟩
    exact ⟨⟨f3.1.tr f4.1, fun j hj => (f4.2.1 j hj).trans (f3.2.1 j hj), fun j hj => (f4.2.2 j hj).trans (f3.2.2 j hj)⟩, b1, b2, b3⟩
  · rw [e2 i hi]
    congr 1
    by_cases y : i = 0
    · rw [if_pos y, if_pos y]
    · rw [if_neg y, if_neg y, if_neg (by omega)]
/-! ### a line -/
def LnP (T : Nat → Int) (L p : Nat) (S : Sta) (h : PH) (v : Bool) (h2 : PH) : Prop := FrK h h2 ∧ match hlR T L S p with
    | .inl f => v = false ∧ hI h2 92 9 = iv f ∧ 0 < f ∧ f < 1048576
    | .inr p2 => v = true ∧ LexM T L p2 h2 ∧ p2 ≤ L ∧ p + 1 ≤ p2 ∧ StM T L (hlS T L S p) h2 ∧ (catI (sE (hlS T L S p)) (sH (hlS T L S p) 15).toNat).length ≤ p2
theorem LnK.p {T : Nat → Int} {L p : Nat} {S : Sta} {h h2 : PH} {v : Bool} (k : LnK T L p S h v h2) (hp : p ≤ L) (k3 : tKd T L p ≠ 3) (hs : (catI (sE S) (sH S 15).toNat).length ≤ p) (w : tWx T L p ≠ 12) : LnP T L p S h v h2 := by
  obtain ⟨f, g, t⟩ := k
  have ge := fun p2 => hlR_ge (p2 := p2) (S := S) hp k3 w
  have e : sE (hlS T L S p) = sE S ∧ sH (hlS T L S p) 15 = sH S 15 := by
    unfold hlS
    by_cases c : tWx T L p = 11
    · rw [if_pos c]
      refine ⟨rfl, ?_⟩
      show up (sH S) 17 (sH S 17 + 1) 15 = sH S 15
      exact up_n _ _ _ _ (by omega)
    · rw [if_neg c, if_neg w]
      refine ⟨rfl, ?_⟩
      show plH T L (sH S) (tWx T L p) (.inr (tE T L p)) 15 = sH S 15
      unfold plH
      split
      · rfl
      · split
        · rfl
        · split
          · rfl
          · refine up_n _ _ _ _ ?_
            unfold oK
            repeat' split
            all_goals omega
  refine ⟨f, ?_⟩
  cases eq : hlR T L S p with
  | inl f => rw [eq] at g; exact g
  | inr p2 =>
    rw [eq] at g
    obtain ⟨rfl, g2, g3⟩ := g
    have b := ge p2 eq
    refine ⟨rfl, g2, g3, b.1, t rfl, ?_⟩
    rw [e.1, e.2]
    omega
theorem HbK.p {T : Nat → Int} {L p : Nat} {S : Sta} {h h2 : PH} {v : Bool} (k : HbK T L p S h v h2) (h15 : 0 ≤ sH S 15 ∧ sH S 15 ≤ 4) (w : tWx T L p = 12) : LnP T L p S h v h2 := by
  obtain ⟨f, g⟩ := k
  have eR : hlR T L S p = lnF (haR T L (sH S) (sPl S) p) := by
    unfold hlR
    rw [if_neg (by omega), if_pos w]
  have eS : hlS T L S p = mkS (up (sH S) 15 (sH S 15 + 1)) (sC S) (sK S) (sD S) (upN (sPl S) (sH S 15).toNat (tE T L p)) (upN (sE S) (sH S 15).toNat (lnE (haR T L (sH S) (sPl S) p))) := by
    unfold hlS
    rw [if_neg (by omega), if_pos w]
  refine ⟨f, ?_⟩
  rw [eR, eS]
  cases e : haR T L (sH S) (sPl S) p with
  | inl f => rw [e] at g; exact g
  | inr t =>
    obtain ⟨p2, ex⟩ := t
    rw [e] at g
    obtain ⟨g1, g2, g3, g4, g5, g6⟩ := g
    refine ⟨g1, g2, g3, g4, g5, ?_⟩
    show (catI (upN (sE S) (sH S 15).toNat ex) (up (sH S) 15 (sH S 15 + 1) 15).toNat).length ≤ p2
    rw [up_s, show (sH S 15 + 1).toNat = (sH S 15).toNat + 1 from by omega, catI, catI_up _ (Nat.le_refl _)]
    unfold upN
    rw [if_pos rfl]
    exact g6
theorem wK {N i : Nat} {T : Nat → Int} {L p : Nat} {h : PH} {w : Int64} {α : Type} {a b : PH → Option (α × PH)} {Q : α → PH → Prop} (x : TxM T L h) (l : LexM T L p h) (hi : i < 28) (hw : w = jv (K27 i)) (no : ¬ tWx T L p = i → Wp (a h) Q) (yes : tWx T L p = i → Wp (b h) Q) : Wp (bd (Mo_isWord N 92 w h) fun v h4 => if (bI v) = 0 then a h4 else b h4) Q := by
  refine Wp_bde (isWordM x l hi hw) ?_
  simp only [bI_0]
  by_cases c : tWx T L p = i
  · rw [decide_eq_true c]
    exact Wp_ifn (by decide) (yes c)
  · rw [decide_eq_false c]
    exact Wp_ifp rfl (no c)
theorem readsLoopM {N : Nat} {T : Nat → Int} {L : Nat} {h0 : PH} (hN : 1100 ≤ N) : ∀ (m k p : Nat) (S : Sta) (h : PH), k + m = 1001 → k ≤ p → FrK h0 h → TxM T L h → LexM T L p h → p ≤ L → StM T L S h → SOK T L S → (catI (sE S) (sH S 15).toNat).length ≤ p → ∀ fuel, m < fuel → Wp (Mo_readsAll_b56 N fuel 92 h) (fun v h2 => FrK h0 h2 ∧ match hoL T L m S p with
    | .inl f => v = false ∧ hI h2 92 9 = iv f ∧ 0 < f ∧ f < 1048576
    | .inr S => v = true ∧ StM T L S h2 ∧ SOK T L S ∧ (catI (sE S) (sH S 15).toNat).length ≤ 1000)
  | 0, k, p, S, h, hk, kp, f0, x, l, hp, st, ok, hs, fuel, hf => by
    have := x.2.1
    omega
  | m + 1, k, p, S, h, hk, kp, f0, x, l, hp, st, ok, hs, fuel, hf => by
    obtain ⟨fu, rfl⟩ : ∃ g, fuel = g + 1 := ⟨fuel - 1, by omega⟩
    have hL := x.2.1
    have kl := K27_lits
    have cb := tCd_b (T := T) (L := L) (p := p)
    have ci := (tCd_iff (T := T) (L := L) (p := p)).1
    have h15 : 0 ≤ sH S 15 ∧ sH S 15 ≤ 4 := ok.1.2.2.2.2.2.2.2.2.2.2.2.2.2.2.2.1
    rw [Mo_readsAll_b56]
    refine Wp_ck (by rw [k92 x.1]) ?_
    rw [l.2.2.1, il0]
    refine Wp_if (fun c => ?_) (fun c => ?_)
    · rw [iv_eq (by omega) (by omega) (by omega) (by omega)] at c
      refine Wp_ret ⟨f0, ?_⟩
      rw [hoL, if_pos (ci.mp c)]
      exact ⟨rfl, st, ok, by omega⟩
    rw [iv_eq (by omega) (by omega) (by omega) (by omega)] at c
    have k3 : tKd T L p ≠ 3 := fun z => c (ci.mpr z)
    have tg := tE_gt (T := T) (L := L) (p := p) k3 hp
    have te := tE_le (T := T) (L := L) (p := p) hp
    rw [hoL, if_neg k3]
    have step : ∀ v h2, LnP T L p S h v h2 → Wp (Mo_readsAll_b305 N (Mo_readsAll_b56 N fu) (bI v) 92 h2) (fun v h2 => FrK h0 h2 ∧ match (match hlR T L S p with
        | .inl f => .inl f
        | .inr p2 => hoL T L m (hlS T L S p) p2 : Int ⊕ Sta) with
      | .inl f => v = false ∧ hI h2 92 9 = iv f ∧ 0 < f ∧ f < 1048576
      | .inr S => v = true ∧ StM T L S h2 ∧ SOK T L S ∧ (catI (sE S) (sH S 15).toNat).length ≤ 1000) := by
      rintro v h2 ⟨f2, g2⟩
      unfold Mo_readsAll_b305
      cases e : hlR T L S p with
      | inl f =>
        rw [e] at g2
        obtain ⟨rfl, g3, g4⟩ := g2
        exact Wp_ifp rfl (Wp_ret ⟨f0.tr f2, rfl, g3, g4⟩)
      | inr p2 =>
        rw [e] at g2
        obtain ⟨rfl, l2, hp2, gt, t2, s2⟩ := g2
        exact Wp_ifn (by decide) (readsLoopM hN m (k + 1) p2 (hlS T L S p) h2 (by omega) (by omega) (f0.tr f2) (f2.tx x) l2 hp2 t2 (hlS_ok ok e) s2 fu (by omega))
    have cn : (hK h 92).1 = 11 := by rw [k92 x.1]
    rw [← il0]
    refine wK (i := 1) x l (by omega) (by rw [kl.2.1]; exact jv_lit _) (fun c1 => Wp_ck cn ?_) (fun e => Wp_ck cn (Wp_bd2 (readsOneM hN x l hp st e (by omega) il1 rfl il0 il120) (fun v h2 z => step v h2 (z.p hp k3 hs (by omega)))))
    refine wK (i := 2) x l (by omega) (by rw [kl.2.2.1]; exact jv_lit _) (fun c2 => Wp_ck cn ?_) (fun e => Wp_ck cn (Wp_bd2 (readsApplesM hN x l hp st e) (fun v h2 z => step v h2 (z.p hp k3 hs (by omega)))))
    refine wK (i := 3) x l (by omega) (by rw [kl.2.2.2.1]; exact jv_lit _) (fun c3 => Wp_ck cn ?_) (fun e => Wp_ck cn (Wp_bd2 (readsWorthsM hN x l hp st e) (fun v h2 z => step v h2 (z.p hp k3 hs (by omega)))))
    refine wK (i := 4) x l (by omega) (by rw [kl.2.2.2.2.1]; exact jv_lit _) (fun c4 => Wp_ck cn ?_) (fun e => Wp_ck cn (Wp_bd2 (readsOneM hN x l hp st e (by omega) il7 rfl il0 il99) (fun v h2 z => step v h2 (z.p hp k3 hs (by omega)))))
    refine wK (i := 5) x l (by omega) (by rw [kl.2.2.2.2.2.1]; exact jv_lit _) (fun c5 => Wp_ck cn ?_) (fun e => Wp_ck cn (Wp_bd2 (readsOneM hN x l hp st e (by omega) il8 rfl il0 il99) (fun v h2 z => step v h2 (z.p hp k3 hs (by omega)))))
    refine wK (i := 6) x l (by omega) (by rw [kl.2.2.2.2.2.2.1]; exact jv_lit _) (fun c6 => Wp_ck cn ?_) (fun e => Wp_ck cn (Wp_bd2 (readsEggsM hN x l hp st ok.1.1 e) (fun v h2 z => step v h2 (z.p hp k3 hs (by omega)))))
    refine wK (i := 7) x l (by omega) (by rw [kl.2.2.2.2.2.2.2.1]; exact jv_lit _) (fun c7 => Wp_ck cn ?_) (fun e => Wp_ck cn (Wp_bd2 (readsOneM hN x l hp st e (by omega) il11 rfl il1 il3) (fun v h2 z => step v h2 (z.p hp k3 hs (by omega)))))
    refine wK (i := 8) x l (by omega) (by rw [kl.2.2.2.2.2.2.2.2.1]; exact jv_lit _) (fun c8 => Wp_ck cn ?_) (fun e => Wp_ck cn (Wp_bd2 (readsOneM hN x l hp st e (by omega) il12 rfl il0 il99) (fun v h2 z => step v h2 (z.p hp k3 hs (by omega)))))
    refine wK (i := 9) x l (by omega) (by rw [kl.2.2.2.2.2.2.2.2.2.1]; exact jv_lit _) (fun c9 => Wp_ck cn ?_) (fun e => Wp_ck cn (Wp_bd2 (readsOneM hN x l hp st e (by omega) il13 rfl il0 (iv_lit 10)) (fun v h2 z => step v h2 (z.p hp k3 hs (by omega)))))
    refine wK (i := 10) x l (by omega) (by rw [kl.2.2.2.2.2.2.2.2.2.2.1]; exact jv_lit _) (fun c10 => Wp_ck cn ?_) (fun e => Wp_ck cn (Wp_bd2 (readsOneM hN x l hp st e (by omega) il14 rfl il0 (iv_lit 10)) (fun v h2 z => step v h2 (z.p hp k3 hs (by omega)))))
    refine wK (i := 11) x l (by omega) (by rw [kl.2.2.2.2.2.2.2.2.2.2.2.1]; exact jv_lit _) (fun c11 => Wp_ck cn ?_) (fun e => Wp_ck cn (Wp_bd2 (readsCallsM hN x l hp st ok.1.1 ok.2.1 e) (fun v h2 z => step v h2 (z.p hp k3 hs (by omega)))))
    refine wK (i := 12) x l (by omega) (by rw [kl.2.2.2.2.2.2.2.2.2.2.2.2.1]; exact jv_lit _) (fun c12 => Wp_ck cn ?_) (fun e => Wp_ck cn (Wp_bd2 (readsHabitM hN x l hp st h15 ok.2.2.1 hs k3) (fun v h2 z => step v h2 (z.p h15 e))))
    rw [il1]
    refine Wp_bde (failM x l) (step false _ ⟨FrK.rf.w (by omega), ?_⟩)
    unfold hlR
    rw [if_neg (by omega), if_neg (by omega), if_pos (by omega)]
    exact ⟨rfl, by rw [hI_wI, if_pos ⟨rfl, rfl⟩], flt_b hp hL (by omega)⟩
