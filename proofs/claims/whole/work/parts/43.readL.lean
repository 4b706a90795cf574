/-! THE PURE PROOFS, 21: READ, the class's way. -/
def pR (wd t n w : Nat) : Nat := (t * wd + n) * 2 + w
theorem pR_b {wd t n w T : Nat} (ht : t ≤ T) (hn : n < wd) (hw : w < 2) : pR wd t n w < (T + 1) * wd * 2 := by
  unfold pR
  have h1 : t * wd ≤ T * wd := Nat.mul_le_mul_right wd ht
  have e : (T + 1) * wd = T * wd + wd := by rw [Nat.add_mul, Nat.one_mul]
  rw [e]
  omega
theorem pR_inj {wd t n w t2 n2 w2 : Nat} (hn : n < wd) (hw : w < 2) (hn2 : n2 < wd) (hw2 : w2 < 2) (e : pR wd t n w = pR wd t2 n2 w2) : t = t2 ∧ n = n2 ∧ w = w2 := by
  unfold pR at e
  have a := mix_inj (x := t) (y := t2) (m := wd) (r := n) (s := n2) (by omega) (by omega) (by
    have e2 : t * wd + n = t2 * wd + n2 := by omega
    have := congrArg (fun z : Nat => (z : Int)) e2
    simp only [Int.natCast_add, Int.natCast_mul] at this
    exact this)
  omega
def RowD (H : Nat → Int) (wd : Nat) (D : Nat → Nat → Nat → Int) (a : Nat) (h : PH) : Prop := ∀ t n w : Nat, t ≤ (H 1).toNat → n < wd → w < 2 → hI h a (pR wd t n w) = iv (D t n w)
def SRd (bf af : Nat) (b : Nat) : Prop := b = 46 ∨ b = bf ∨ b = af
def wdH (H : Nat → Int) : Nat := (H 0).toNat * 4 + 1
def ndH (H : Nat → Int) : Nat := ((H 1).toNat + 1) * wdH H * 2
/-- a Readings at work: before, after -/
def RdC (N : Nat) (H C : Nat → Int) (E : Int → Int → Int → Int → Int → Int) (bf af lb la : Nat) (h : PH) : Prop := Shp h ∧ HsL 10 H C h ∧ HabL N H E h ∧ hR h 49 3 = some bf ∧ hR h 49 4 = some af ∧ hK h bf = (20, lb) ∧ hK h af = (20, la) ∧ hI h 49 2 = iv (wdH H)
def RdK (H : Nat → Int) (bf af lb la : Nat) : Prop := ndH H ≤ lb ∧ ndH H ≤ la ∧ lb ≤ 75504 ∧ la ≤ 75504 ∧ (bf < 10 ∨ 15 < bf) ∧ (af < 10 ∨ 15 < af) ∧ bf ≠ af ∧ bf ≠ 45 ∧ bf ≠ 46 ∧ bf ≠ 49 ∧ af ≠ 45 ∧ af ≠ 46 ∧ af ≠ 49
theorem RdC.fr {N : Nat} {H C : Nat → Int} {E : Int → Int → Int → Int → Int → Int} {bf af lb la : Nat} {h h2 : PH} (k : RdK H bf af lb la) (x : RdC N H C E bf af lb la h) (f : FrI (SRd bf af) h h2) : RdC N H C E bf af lb la h2 := by
  obtain ⟨-, -, -, -, k5, k6, k7, k8, k9, k10, k11, k12, k13⟩ := k
  obtain ⟨s, hs, hl, r3, r4, e3, e4, i2⟩ := x
  refine ⟨f.shp s, hs.fr f.s ?_ ?_ ?_ ?_, hl.fr f ?_ ?_ ?_, ?_, ?_, ?_, ?_, ?_⟩
  · unfold SRd; omega
  · unfold SRd; omega
  · unfold SRd; omega
  · unfold SRd; omega
  · unfold SRd; omega
  · unfold SRd; omega
  · unfold SRd; omega
  · rw [f.2.2.1]; exact r3
  · rw [f.2.2.1]; exact r4
  · rw [f.2.1]; exact e3
  · rw [f.2.1]; exact e4
  · rw [f.I (by unfold SRd; omega)]; exact i2
theorem nd_b {H C : Nat → Int} (ho : HOK H C) : wdH H ≤ 97 ∧ 5 ≤ wdH H ∧ ndH H ≤ 23474 := by
  have h01 := ho.1
  have h11 := ho.2.1
  have hw : wdH H ≤ 97 := by unfold wdH; omega
  have h5 : 5 ≤ wdH H := by unfold wdH; omega
  refine ⟨hw, h5, ?_⟩
  unfold ndH
  have : ((H 1).toNat + 1) * wdH H ≤ 121 * 97 := Nat.mul_le_mul (by omega) hw
  omega
theorem rplace {N : Nat} {H C : Nat → Int} {E : Int → Int → Int → Int → Int → Int} {bf af lb la : Nat} {h : PH} (x : RdC N H C E bf af lb la h) (t n w : Nat) : Rd_placeOf N 49 (iv t) (iv n) (iv w) h = some (iv (pR (wdH H) t n w : Nat), h) := by
  unfold Rd_placeOf
  rw [ck_p (by rw [k49 x.1]), x.2.2.2.2.2.2.2, il2, iv_mul, iv_add, iv_mul, iv_add]
  have e : ((pR (wdH H) t n w : Nat) : Int) = ((t : Int) * (wdH H : Nat) + n) * 2 + w := by
    unfold pR
    simp only [Int.natCast_add, Int.natCast_mul]
    rfl
  rw [e]
theorem spread90 {N : Nat} {H C : Nat → Int} {E : Int → Int → Int → Int → Int → Int} {hb : Int} {q : Nat} {bf af lb la : Nat} {D R : Nat → Nat → Nat → Int} {t w k : Nat} (hN : 200 ≤ N) (ho : HOK H C) (eo : EOK E) (mk : RdK H bf af lb la) (hq : q < 24) (dk : DOK H q D) (ht : t ≤ (H 1).toNat) (hw : w < 2) (hk : k < 4) {h0 : PH} (rowB : RowD H (wdH H) D bf h0) : ∀ (m n : Nat) (h : PH), n + m + (k + w) = wdH H → RdC N H C E bf af lb la h → FrI (fun b => b = af) h0 h → RowD H (wdH H) (fun t2 n2 w2 => R t2 n2 w2 + SS (fun n => con H C E hb q D t2 n2 w2 t w k n) n) af h → ∀ fuel, m < fuel → Wp (Rd_spreadCallers_b90 N fuel 49 (iv t) (iv w) (iv (ch C q k)) (iv ((k : Int) + w)) (iv (rT H E hb q t w k : Nat)) (iv (rW H E hb q t w k : Nat)) (iv n) h) (fun _ h2 => FrI (fun b => b = af) h0 h2 ∧ RowD H (wdH H) (fun t2 n2 w2 => R t2 n2 w2 + SS (fun n => con H C E hb q D t2 n2 w2 t w k n) (wdH H - (k + w))) af h2) := by
  intro m
  have h01 := ho.1
  have h11 := ho.2.1
  have nb := nd_b ho
  have mk0 := mk
  obtain ⟨z1, z2, z3, z4, k5, k6, k7, k8, k9, k10, k11, k12, k13⟩ := mk
  have cb := ch_b ho (q := q) (k := k) (by omega) (by omega)
  have rt := rT_le ho eo (hb := hb) (q := q) (t := t) hw hk
  have rw2 : rW H E hb q t w k < 2 := by
    have iw := isW_01 H (howE E hb q t 0 ((k : Int) + w)) ((k : Int) + w)
    unfold rW
    omega
  induction m with
  | zero =>
    intro n h e x f row fuel hf
    obtain ⟨fu, rfl⟩ : ∃ fu, fuel = fu + 1 := ⟨fuel - 1, by omega⟩
    rw [Rd_spreadCallers_b90]
    refine Wp_ck (by rw [k49 x.1]) ?_
    rw [x.2.2.2.2.2.2.2, iv_add]
    refine Wp_ifp (by rw [iv_le (by omega) (by omega) (by omega) (by omega)]; omega) (Wp_ret ⟨f, ?_⟩)
    rw [show wdH H - (k + w) = n from by omega]
    exact row
  | succ m ih =>
    intro n h e x f row fuel hf
    obtain ⟨fu, rfl⟩ : ∃ fu, fuel = fu + 1 := ⟨fuel - 1, by omega⟩
    have s := x.1
    have pb := pR_b (wd := wdH H) (t := t) (n := n) (w := w) ht (by omega) hw
    have rowB1 : hI h bf (pR (wdH H) t n w) = iv (D t n w) := (f.I (by omega) _).trans (rowB t n w ht (by omega) hw)
    have db : 0 ≤ D t n w ∧ D t n w ≤ 1000000 := by
      have := place_le_mass dk.1 (t := t) (n := n) (w := w) (by omega) (by omega) hw
      exact ⟨dk.1 t n w, Int.le_trans this dk.2.2⟩
    have prod : 0 ≤ D t n w * ch C q k ∧ D t n w * ch C q k ≤ 1000000 * 10 := ⟨Int.mul_nonneg db.1 cb.1, Int.mul_le_mul db.2 cb.2 cb.1 (by omega)⟩
    have stepR : ∀ h2, FrI (fun b => b = af) h h2 → RowD H (wdH H) (fun t2 n2 w2 => R t2 n2 w2 + SS (fun n => con H C E hb q D t2 n2 w2 t w k n) (n + 1)) af h2 → Wp (Rd_spreadCallers_b164 N (Rd_spreadCallers_b90 N fu) 49 (iv t) (iv w) (iv (ch C q k)) (iv ((k : Int) + w)) (iv (rT H E hb q t w k : Nat)) (iv (rW H E hb q t w k : Nat)) (iv n) h2) (fun _ h2 => FrI (fun b => b = af) h0 h2 ∧ RowD H (wdH H) (fun t2 n2 w2 => R t2 n2 w2 + SS (fun n => con H C E hb q D t2 n2 w2 t w k n) (wdH H - (k + w))) af h2) := by
      intro h2 f2 row2
      unfold Rd_spreadCallers_b164
      rw [il1, iv_add]
      have r := ih (n + 1) h2 (by omega) (x.fr mk0 (f2.up (fun b eb => Or.inr (Or.inr eb)))) (f.tr f2) row2 fu (by omega)
      rw [show ((n + 1 : Nat) : Int) = (n : Int) + 1 from by omega] at r
      exact r
    rw [Rd_spreadCallers_b90]
    refine Wp_ck (by rw [k49 s]) ?_
    rw [x.2.2.2.2.2.2.2, iv_add]
    refine Wp_ifn (by rw [iv_le (by omega) (by omega) (by omega) (by omega)]; omega) (Wp_bde (rplace x t n w) ?_)
    rw [x.2.2.2.1]
    refine Wp_bde (at_in x.2.2.2.2.2.1 (by omega) (by omega) (by unfold ndH at z1; omega)) ?_
    rw [Int.toNat_natCast, rowB1, iv_mul]
    refine Wp_if (fun c => ?_) (fun c => ?_)
    · rw [il0, iv_le (by omega) (by omega) (by omega) (by omega)] at c
      refine stepR h FrI.rf ?_
      intro t2 n2 w2 b0 b1 b2
      rw [row t2 n2 w2 b0 b1 b2]
      dsimp only
      rw [SS]
      have z : con H C E hb q D t2 n2 w2 t w k n = 0 := by
        unfold con
        rw [show D t n w * ch C q k = 0 from by omega]
        split <;> rfl
      rw [z, Int.add_zero]
    · rw [il0, iv_le (by omega) (by omega) (by omega) (by omega)] at c
      have pb2 := pR_b (wd := wdH H) (t := rT H E hb q t w k) (n := n + (k + w)) (w := rW H E hb q t w k) (Nat.le_trans rt ht) (by omega) rw2
      have e1 : ((n : Int) + ((k : Int) + w)) = ((n + (k + w) : Nat) : Int) := by omega
      refine Wp_ck (by rw [k49 s]) ?_
      rw [e1]
      refine Wp_bde (rplace x _ _ _) (Wp_ck (by rw [k49 s]) ?_)
      rw [x.2.2.2.2.1]
      refine Wp_bde (at_in x.2.2.2.2.2.2.1 (by omega) (by omega) (by unfold ndH at z2; omega)) ?_
      rw [Int.toNat_natCast, row _ _ _ (Nat.le_trans rt ht) (by omega) rw2, iv_add]
      refine Wp_bde (put_in x.2.2.2.2.2.2.1 (by omega) (by omega) (by unfold ndH at z2; omega)) ?_
      rw [Int.toNat_natCast]
      refine stepR _ FrI.rf.w1 ?_
      intro t2 n2 w2 b0 b1 b2
      rw [hI_wI]
      dsimp only
      rw [SS]
      by_cases cc : rT H E hb q t w k = t2 ∧ n + (k + w) = n2 ∧ rW H E hb q t w k = w2
      · obtain ⟨rfl, rfl, rfl⟩ := cc
        rw [if_pos ⟨rfl, rfl⟩]
        have z : con H C E hb q D (rT H E hb q t w k) (n + (k + w)) (rW H E hb q t w k) t w k n = D t n w * ch C q k := by
          unfold con
          rw [if_pos ⟨rfl, rfl, rfl⟩]
        rw [z, Int.add_assoc]
      · rw [if_neg ?_, row t2 n2 w2 b0 b1 b2]
        · have z : con H C E hb q D t2 n2 w2 t w k n = 0 := by
            unfold con
            rw [if_neg cc]
          rw [z, Int.add_zero]
        · intro ee
          have := pR_inj b1 b2 (by omega : n + (k + w) < wdH H) rw2 ee.2
          exact cc ⟨this.1.symm, this.2.1.symm, this.2.2.symm⟩
theorem spreadC {N : Nat} {H C : Nat → Int} {E : Int → Int → Int → Int → Int → Int} {hb : Int} {q : Nat} {bf af lb la : Nat} {D R : Nat → Nat → Nat → Int} {t w k : Nat} {h : PH} (hN : 200 ≤ N) (ho : HOK H C) (eo : EOK E) (hhb : 0 ≤ hb ∧ hb < H 15) (mk : RdK H bf af lb la) (hq : q < 24) (hq2 : (q : Int) < H 0) (dk : DOK H q D) (ht : t ≤ (H 1).toNat) (hw : w < 2) (hk : k < 4) (x : RdC N H C E bf af lb la h) (rowB : RowD H (wdH H) D bf h) (rowA : RowD H (wdH H) R af h) : Wp (Rd_spreadCallers N 49 (iv hb) (iv q) (iv t) (iv w) (iv k) h) (fun _ h2 => FrI (fun b => b = 46 ∨ b = af) h h2 ∧ RowD H (wdH H) (fun t2 n2 w2 => R t2 n2 w2 + SS (fun n => con H C E hb q D t2 n2 w2 t w k n) (wdH H - (k + w))) af h2) := by
  have h01 := ho.1
  have h11 := ho.2.1
  have nb := nd_b ho
  have s := x.1
  have mk0 := mk
  obtain ⟨z1, z2, z3, z4, k5, k6, k7, k8, k9, k10', k11, k12, k13⟩ := mk
  have cb := ch_b ho (q := q) (k := k) (by omega) (by omega)
  have tail : ∀ (how : Int) (h1 : PH), how = howE E hb q t 0 ((k : Int) + w) → FrI (fun b => b = 46) h h1 → Wp (Rd_spreadCallers_b48 N (iv how) 49 (iv t) (iv w) (iv (ch C q k)) (iv ((k : Int) + w)) h1) (fun _ h2 => FrI (fun b => b = 46 ∨ b = af) h h2 ∧ RowD H (wdH H) (fun t2 n2 w2 => R t2 n2 w2 + SS (fun n => con H C E hb q D t2 n2 w2 t w k n) (wdH H - (k + w))) af h2) := by
    intro how h1 eh f1
    have x1 := x.fr mk0 (f1.up (fun b eb => Or.inl eb))
    have s1 := x1.1
    have hw4 := howE_b eo hb q t 0 ((k : Int) + w)
    rw [← eh] at hw4
    obtain ⟨c1, c2, c3, c4⟩ := cg_all (H := H) (q := q) (here := (k : Int) + w) (how := how) (t := t) (a := 0) (by omega) hw4 (by omega) (Int.le_refl 0)
    have g := g_b ho (q := q) (here := (k : Int) + w) (how := how) (t := t) (a := 0) hw4 (by omega) (by omega) (Int.le_refl 0)
    have er : ((rT H E hb q t w k : Nat) : Int) = (t : Int) - cgt t ((k : Int) + w) how := by
      unfold rT
      rw [← eh, ← c2]
      omega
    have iw := isW_01 H how ((k : Int) + w)
    have ew : ((rW H E hb q t w k : Nat) : Int) = isW H how ((k : Int) + w) := by
      unfold rW
      rw [← eh]
      omega
    have fin : ∀ z : Int, z = ((rW H E hb q t w k : Nat) : Int) → Wp (Rd_spreadCallers_b85 N (iv z) 49 (iv t) (iv w) (iv (ch C q k)) (iv ((k : Int) + w)) (iv (rT H E hb q t w k : Nat)) h1) (fun _ h2 => FrI (fun b => b = 46 ∨ b = af) h h2 ∧ RowD H (wdH H) (fun t2 n2 w2 => R t2 n2 w2 + SS (fun n => con H C E hb q D t2 n2 w2 t w k n) (wdH H - (k + w))) af h2) := by
      rintro z rfl
      unfold Rd_spreadCallers_b85
      rw [il0]
      refine Wp_mono (spread90 hN ho eo mk0 hq dk ht hw hk (h0 := h1) (R := R) (fun t2 n2 w2 b0 b1 b2 => (f1.I (by omega) _).trans (rowB t2 n2 w2 b0 b1 b2)) (wdH H - (k + w)) 0 h1 (by omega) x1 FrI.rf (fun t2 n2 w2 b0 b1 b2 => ?_) N (by omega)) ?_
      · rw [f1.I (by omega), rowA t2 n2 w2 b0 b1 b2]
        show iv (R t2 n2 w2) = iv (R t2 n2 w2 + 0)
        rw [Int.add_zero]
      · rintro - h2 ⟨f2, row2⟩
        exact ⟨(f1.up (fun b eb => Or.inl eb)).tr (f2.up (fun b eb => Or.inr eb)), row2⟩
    unfold Rd_spreadCallers_b48
    refine Wp_ck (by rw [k49 s1]) (Wp_bn (p49_0 s1) (Wp_ck (by rw [k10 s1]) (Wp_bde (cgt_eq (by omega) (by omega) hw4) (Wp_ck (by rw [k49 s1]) (Wp_bn (p49_0 s1) (Wp_ck (by rw [k10 s1]) (Wp_bde (isW_eq s1 ho x1.2.1 (by omega) hw4) ?_)))))))
    simp only [bI_0]
    rw [iv_sub, ← er, il0, il1]
    rcases iw with e | e
    · rw [e]
      exact Wp_ifp (by decide) (fin 0 (by omega))
    · rw [e]
      exact Wp_ifn (by decide) (fin 1 (by omega))
  unfold Rd_spreadCallers
  refine Wp_ck (by rw [k49 s]) (Wp_bn (p49_0 s) (Wp_ck (by rw [k10 s]) ?_))
  rw [il0]
  refine Wp_bde (chL_eq s x.2.1 (Or.inl rfl) (by omega) (by omega)) ?_
  rw [show cw C 0 q k = ch C q k from by unfold cw; rw [if_pos rfl], iv_add]
  refine Wp_if (fun c => ?_) (fun c => ?_)
  · rw [iv_eq (by omega) (by omega) (by omega) (by omega)] at c
    refine Wp_ret ⟨FrI.rf, ?_⟩
    intro t2 n2 w2 b0 b1 b2
    rw [rowA t2 n2 w2 b0 b1 b2]
    dsimp only
    rw [SS_zero _ (fun n _ => ?_), Int.add_zero]
    unfold con
    rw [c, Int.mul_zero]
    split <;> rfl
  · refine Wp_if (fun c2 => ?_) (fun c2 => ?_)
    · rw [iv_le (by omega) (by omega) (by omega) (by omega)] at c2
      refine tail 0 h ?_ FrI.rf
      unfold howE
      rw [if_pos (by omega)]
    · rw [iv_le (by omega) (by omega) (by omega) (by omega)] at c2
      refine Wp_ck (by rw [k49 s]) (Wp_bn (p49_1 s) (Wp_ck (by rw [k45 s]) ?_))
      obtain ⟨h1, e1, f1⟩ := x.2.2.1 h s rfl rfl rfl hb q t 0 ((k : Int) + w) hhb.1 hhb.2 (by omega) (by omega) (by omega) (by omega) (by omega) (by omega) (by omega) (by omega)
      refine Wp_bde e1 ?_
      refine tail _ h1 ?_ f1
      unfold howE
      rw [if_neg (by omega)]
theorem likelyL {N : Nat} {H C : Nat → Int} {E : Int → Int → Int → Int → Int → Int} {q : Nat} {bf af lb la : Nat} {D : Nat → Nat → Nat → Int} {t w : Nat} {h : PH} (hN : 200 ≤ N) (ho : HOK H C) (mk : RdK H bf af lb la) (dk : DOK H q D) (ht : t ≤ (H 1).toNat) (hw : w < 2) (x : RdC N H C E bf af lb la h) (rowB : RowD H (wdH H) D bf h) : ∃ b, Rd_isLikely N 49 (iv t) (iv w) h = some (b, h) ∧ (b = false → ∀ n, n < wdH H → D t n w = 0) := by
  have h11 := ho.2.1
  have nb := nd_b ho
  obtain ⟨z1, z2, z3, z4, -⟩ := mk
  have key : ∀ (m n : Nat), n + m = wdH H → (∀ j, j < n → D t j w = 0) → ∀ fuel, m < fuel → ∃ b, Rd_isLikely_b2 N fuel 49 (iv t) (iv w) (iv n) h = some (b, h) ∧ (b = false → ∀ n, n < wdH H → D t n w = 0) := by
    intro m
    induction m with
    | zero =>
      intro n e d fuel hf
      obtain ⟨fu, rfl⟩ : ∃ fu, fuel = fu + 1 := ⟨fuel - 1, by omega⟩
      refine ⟨false, ?_, fun _ j hj => d j (by omega)⟩
      rw [Rd_isLikely_b2]
      dsimp only
      rw [ck_p (by rw [k49 x.1]), x.2.2.2.2.2.2.2, if_pos (by rw [iv_le (by omega) (by omega) (by omega) (by omega)]; omega)]
    | succ m ih =>
      intro n e d fuel hf
      obtain ⟨fu, rfl⟩ : ∃ fu, fuel = fu + 1 := ⟨fuel - 1, by omega⟩
      have pb := pR_b (wd := wdH H) (t := t) (n := n) (w := w) ht (by omega) hw
      have db : 0 ≤ D t n w ∧ D t n w ≤ 1000000 := by
        have := place_le_mass dk.1 (t := t) (n := n) (w := w) (by omega) (by omega) hw
        exact ⟨dk.1 t n w, Int.le_trans this dk.2.2⟩
      rw [Rd_isLikely_b2]
      dsimp only
      rw [ck_p (by rw [k49 x.1]), x.2.2.2.2.2.2.2, if_neg (by rw [iv_le (by omega) (by omega) (by omega) (by omega)]; omega), rplace x t n w, bd_s, x.2.2.2.1, at_in x.2.2.2.2.2.1 (by omega) (by omega) (by unfold ndH at z1; omega), bd_s, Int.toNat_natCast, rowB t n w ht (by omega) hw, il0]
      simp only [show (iv (D t n w) ≤ iv 0) ↔ D t n w ≤ 0 from iv_le (by omega) (by omega) (by omega) (by omega)]
      by_cases c : D t n w ≤ 0
      · rw [if_pos c, il1, iv_add]
        have r := ih (n + 1) (by omega) (fun j hj => by
          by_cases cj : j = n
          · rw [cj]; omega
          · exact d j (by omega)) fu (by omega)
        rw [show ((n + 1 : Nat) : Int) = (n : Int) + 1 from by omega] at r
        exact r
      · rw [if_neg c]
        exact ⟨true, rfl, fun e => by cases e⟩
  unfold Rd_isLikely
  rw [il0]
  exact key (wdH H) 0 (by omega) (fun j hj => by omega) N (by omega)
def conN (H C : Nat → Int) (E : Int → Int → Int → Int → Int → Int) (hb q : Int) (D : Nat → Nat → Nat → Int) (t2 n2 w2 t w k : Nat) : Int := SS (fun n => con H C E hb q D t2 n2 w2 t w k n) (wdH H - (k + w))
def conK (H C : Nat → Int) (E : Int → Int → Int → Int → Int → Int) (hb q : Int) (D : Nat → Nat → Nat → Int) (t2 n2 w2 t w : Nat) : Int := SS (fun k => conN H C E hb q D t2 n2 w2 t w k) 4
def conW (H C : Nat → Int) (E : Int → Int → Int → Int → Int → Int) (hb q : Int) (D : Nat → Nat → Nat → Int) (t2 n2 w2 t : Nat) : Int := SS (fun w => conK H C E hb q D t2 n2 w2 t w) 2
def S46 (af : Nat) (b : Nat) : Prop := b = 46 ∨ b = af
theorem conK_zero {H C : Nat → Int} {E : Int → Int → Int → Int → Int → Int} {hb q : Int} {D : Nat → Nat → Nat → Int} {t w : Nat} (z : ∀ n, n < wdH H → D t n w = 0) (t2 n2 w2 : Nat) : conK H C E hb q D t2 n2 w2 t w = 0 := by
  unfold conK
  refine SS_zero _ (fun k _ => ?_)
  unfold conN
  refine SS_zero _ (fun n hn => ?_)
  unfold con
  rw [z n (by omega), Int.zero_mul]
  split <;> rfl
theorem spread35 {N : Nat} {H C : Nat → Int} {E : Int → Int → Int → Int → Int → Int} {hb : Int} {q : Nat} {bf af lb la : Nat} {D R : Nat → Nat → Nat → Int} {t w : Nat} {K2 : Nat → Int32 → Int32 → Int32 → PH → Option (Unit × PH)} {K16 : Nat → Int32 → Int32 → Int32 → Int32 → PH → Option (Unit × PH)} {Q : Unit → PH → Prop} {h : PH} (hN : 200 ≤ N) (ho : HOK H C) (eo : EOK E) (hhb : 0 ≤ hb ∧ hb < H 15) (mk : RdK H bf af lb la) (hq : q < 24) (hq2 : (q : Int) < H 0) (dk : DOK H q D) (ht : t ≤ (H 1).toNat) (hw : w < 2) (x : RdC N H C E bf af lb la h) (rowB : RowD H (wdH H) D bf h) (rowA : RowD H (wdH H) R af h) (kk : ∀ h2, FrI (S46 af) h h2 → RowD H (wdH H) (fun t2 n2 w2 => R t2 n2 w2 + conK H C E hb q D t2 n2 w2 t w) af h2 → Wp (K16 49 (iv hb) (iv q) (iv t) (iv ((w : Int) + 1)) h2) Q) : Wp (Rd_spread_b35 N K2 K16 N 49 (iv hb) (iv q) (iv t) (iv w) (iv 0) h) Q := by
  have mk0 := mk
  obtain ⟨z1, z2, z3, z4, k5, k6, k7, k8, k9, k10', k11, k12, k13⟩ := mk
  have step : ∀ (fu k : Nat) (h1 : PH), k < 4 → FrI (S46 af) h h1 → RowD H (wdH H) (fun t2 n2 w2 => R t2 n2 w2 + SS (fun k => conN H C E hb q D t2 n2 w2 t w k) k) af h1 → (∀ h2, FrI (S46 af) h h2 → RowD H (wdH H) (fun t2 n2 w2 => R t2 n2 w2 + SS (fun k => conN H C E hb q D t2 n2 w2 t w k) (k + 1)) af h2 → Wp (Rd_spread_b35 N K2 K16 fu 49 (iv hb) (iv q) (iv t) (iv w) (iv ((k : Int) + 1)) h2) Q) → Wp (Rd_spread_b35 N K2 K16 (fu + 1) 49 (iv hb) (iv q) (iv t) (iv w) (iv k) h1) Q := by
    intro fu k h1 hk f1 r1 kn
    have x1 := x.fr mk0 (f1.up (fun b eb => by unfold S46 at eb; unfold SRd; omega))
    rw [Rd_spread_b35]
    refine Wp_ifn (by rw [il3, iv_lt (by omega) (by omega) (by omega) (by omega)]; omega) (Wp_ck (by rw [k49 x1.1]) ?_)
    refine Wp_bd2 (spreadC hN ho eo hhb mk0 hq hq2 dk ht hw hk x1 (fun t2 n2 w2 b0 b1 b2 => (f1.I (by unfold S46; omega) _).trans (rowB t2 n2 w2 b0 b1 b2)) r1) ?_
    rintro - h2 ⟨f2, r2⟩
    rw [il1, iv_add]
    refine kn h2 (f1.tr f2) ?_
    intro t2 n2 w2 b0 b1 b2
    rw [r2 t2 n2 w2 b0 b1 b2]
    dsimp only
    rw [SS, Int.add_assoc]
    rfl
  obtain ⟨fu, efu⟩ : ∃ g, N = g + 1 + 1 + 1 + 1 + 1 := ⟨N - 5, by omega⟩
  have go : Wp (Rd_spread_b35 N K2 K16 (fu + 1 + 1 + 1 + 1 + 1) 49 (iv hb) (iv q) (iv t) (iv w) (iv ((0 : Nat) : Int)) h) Q := by
    refine step _ 0 h (by omega) FrI.rf (fun t2 n2 w2 b0 b1 b2 => by rw [rowA t2 n2 w2 b0 b1 b2]; dsimp only; rw [SS, Int.add_zero]) (fun h1 f1 r1 => ?_)
    refine step _ 1 h1 (by omega) f1 r1 (fun h2 f2 r2 => ?_)
    refine step _ 2 h2 (by omega) f2 r2 (fun h3 f3 r3 => ?_)
    refine step _ 3 h3 (by omega) f3 r3 (fun h4 f4 r4 => ?_)
    rw [Rd_spread_b35]
    refine Wp_ifp (by decide) ?_
    unfold Rd_spread_b58
    rw [il1, iv_add]
    exact kk h4 f4 r4
  rw [← efu] at go
  exact go
theorem spread16 {N : Nat} {H C : Nat → Int} {E : Int → Int → Int → Int → Int → Int} {hb : Int} {q : Nat} {bf af lb la : Nat} {D R : Nat → Nat → Nat → Int} {t : Nat} {K2 : Nat → Int32 → Int32 → Int32 → PH → Option (Unit × PH)} {Q : Unit → PH → Prop} {h : PH} (hN : 200 ≤ N) (ho : HOK H C) (eo : EOK E) (hhb : 0 ≤ hb ∧ hb < H 15) (mk : RdK H bf af lb la) (hq : q < 24) (hq2 : (q : Int) < H 0) (dk : DOK H q D) (ht : t ≤ (H 1).toNat) (x : RdC N H C E bf af lb la h) (rowB : RowD H (wdH H) D bf h) (rowA : RowD H (wdH H) R af h) (kk : ∀ h2, FrI (S46 af) h h2 → RowD H (wdH H) (fun t2 n2 w2 => R t2 n2 w2 + conW H C E hb q D t2 n2 w2 t) af h2 → Wp (K2 49 (iv hb) (iv q) (iv ((t : Int) + 1)) h2) Q) : Wp (Rd_spread_b16 N K2 N 49 (iv hb) (iv q) (iv t) (iv 0) h) Q := by
  have mk0 := mk
  obtain ⟨z1, z2, z3, z4, k5, k6, k7, k8, k9, k10', k11, k12, k13⟩ := mk
  have step : ∀ (fu w : Nat) (h1 : PH), w < 2 → FrI (S46 af) h h1 → RowD H (wdH H) (fun t2 n2 w2 => R t2 n2 w2 + SS (fun w => conK H C E hb q D t2 n2 w2 t w) w) af h1 → (∀ h2, FrI (S46 af) h h2 → RowD H (wdH H) (fun t2 n2 w2 => R t2 n2 w2 + SS (fun w => conK H C E hb q D t2 n2 w2 t w) (w + 1)) af h2 → Wp (Rd_spread_b16 N K2 fu 49 (iv hb) (iv q) (iv t) (iv ((w : Int) + 1)) h2) Q) → Wp (Rd_spread_b16 N K2 (fu + 1) 49 (iv hb) (iv q) (iv t) (iv w) h1) Q := by
    intro fu w h1 hw f1 r1 kn
    have x1 := x.fr mk0 (f1.up (fun b eb => by unfold S46 at eb; unfold SRd; omega))
    have rb1 : RowD H (wdH H) D bf h1 := fun t2 n2 w2 b0 b1 b2 => (f1.I (by unfold S46; omega) _).trans (rowB t2 n2 w2 b0 b1 b2)
    obtain ⟨b, eb, zb⟩ := likelyL hN ho mk0 dk ht hw x1 rb1
    rw [Rd_spread_b16]
    refine Wp_ifn (by rw [il1, iv_lt (by omega) (by omega) (by omega) (by omega)]; omega) (Wp_ck (by rw [k49 x1.1]) (Wp_bde eb ?_))
    simp only [bI_0]
    refine Wp_if (fun c => ?_) (fun c => ?_)
    · unfold Rd_spread_b58
      rw [il1, iv_add]
      refine kn h1 f1 ?_
      intro t2 n2 w2 b0 b1 b2
      rw [r1 t2 n2 w2 b0 b1 b2]
      dsimp only
      rw [SS, conK_zero (zb c), Int.add_zero]
    · rw [il0]
      refine spread35 hN ho eo hhb mk0 hq hq2 dk ht hw x1 rb1 r1 (fun h2 f2 r2 => ?_)
      refine kn h2 (f1.tr f2) ?_
      intro t2 n2 w2 b0 b1 b2
      rw [r2 t2 n2 w2 b0 b1 b2]
      dsimp only
      rw [SS, Int.add_assoc]
  obtain ⟨fu, efu⟩ : ∃ g, N = g + 1 + 1 + 1 := ⟨N - 3, by omega⟩
  have go : Wp (Rd_spread_b16 N K2 (fu + 1 + 1 + 1) 49 (iv hb) (iv q) (iv t) (iv ((0 : Nat) : Int)) h) Q := by
    refine step _ 0 h (by omega) FrI.rf (fun t2 n2 w2 b0 b1 b2 => by rw [rowA t2 n2 w2 b0 b1 b2]; dsimp only; rw [SS, Int.add_zero]) (fun h1 f1 r1 => ?_)
    refine step _ 1 h1 (by omega) f1 r1 (fun h2 f2 r2 => ?_)
    rw [Rd_spread_b16]
    refine Wp_ifp (by decide) ?_
    rw [il1, iv_add]
    exact kk h2 f2 r2
  rw [← efu] at go
  exact go
theorem spreadL {N : Nat} {H C : Nat → Int} {E : Int → Int → Int → Int → Int → Int} {hb : Int} {q : Nat} {bf af lb la : Nat} {D : Nat → Nat → Nat → Int} {h : PH} (hN : 200 ≤ N) (ho : HOK H C) (eo : EOK E) (hhb : 0 ≤ hb ∧ hb < H 15) (mk : RdK H bf af lb la) (hq2 : (q : Int) < H 0) (dk : DOK H q D) (x : RdC N H C E bf af lb la h) (rowB : RowD H (wdH H) D bf h) (rowA : RowD H (wdH H) (fun _ _ _ => 0) af h) : Wp (Rd_spread N 49 (iv hb) (iv q) h) (fun _ h2 => FrI (S46 af) h h2 ∧ RowD H (wdH H) (acc H C E hb q D) af h2) := by
  have h01 := ho.1
  have h11 := ho.2.1
  have hq : q < 24 := by omega
  have mk0 := mk
  obtain ⟨z1, z2, z3, z4, k5, k6, k7, k8, k9, k10', k11, k12, k13⟩ := mk
  have key : ∀ (m t : Nat) (h1 : PH), t + m = (H 1).toNat + 1 → FrI (S46 af) h h1 → RowD H (wdH H) (fun t2 n2 w2 => SS (fun t => conW H C E hb q D t2 n2 w2 t) t) af h1 → ∀ fuel, m < fuel → Wp (Rd_spread_b2 N fuel 49 (iv hb) (iv q) (iv t) h1) (fun _ h2 => FrI (S46 af) h h2 ∧ RowD H (wdH H) (acc H C E hb q D) af h2) := by
    intro m
    induction m with
    | zero =>
      intro t h1 e f1 r1 fuel hf
      obtain ⟨fu, rfl⟩ : ∃ fu, fuel = fu + 1 := ⟨fuel - 1, by omega⟩
      have x1 := x.fr mk0 (f1.up (fun b eb => by unfold S46 at eb; unfold SRd; omega))
      rw [Rd_spread_b2]
      refine Wp_ck (by rw [k49 x1.1]) (Wp_bn (p49_0 x1.1) (Wp_ck (by rw [k10 x1.1]) ?_))
      rw [x1.2.1.2.1]
      refine Wp_ifp (by rw [iv_lt (by omega) (by omega) (by omega) (by omega)]; omega) (Wp_ret ⟨f1, ?_⟩)
      intro t2 n2 w2 b0 b1 b2
      rw [r1 t2 n2 w2 b0 b1 b2, acc_cls H C E hb q D (fun t n w hn => dk.2.1 t n w (Or.inr (Or.inl hn))) (wdH H) (by unfold wdH; omega) (nd_b ho).1, show t = (H 1).toNat + 1 from by omega]
      rfl
    | succ m ih =>
      intro t h1 e f1 r1 fuel hf
      obtain ⟨fu, rfl⟩ : ∃ fu, fuel = fu + 1 := ⟨fuel - 1, by omega⟩
      have x1 := x.fr mk0 (f1.up (fun b eb => by unfold S46 at eb; unfold SRd; omega))
      have rb1 : RowD H (wdH H) D bf h1 := fun t2 n2 w2 b0 b1 b2 => (f1.I (by unfold S46; omega) _).trans (rowB t2 n2 w2 b0 b1 b2)
      rw [Rd_spread_b2]
      refine Wp_ck (by rw [k49 x1.1]) (Wp_bn (p49_0 x1.1) (Wp_ck (by rw [k10 x1.1]) ?_))
      rw [x1.2.1.2.1, il0]
      refine Wp_ifn (by rw [iv_lt (by omega) (by omega) (by omega) (by omega)]; omega) ?_
      refine spread16 hN ho eo hhb mk0 hq hq2 dk (by omega) x1 rb1 r1 (fun h2 f2 r2 => ?_)
      have r := ih (t + 1) h2 (by omega) (f1.tr f2) r2 fu (by omega)
      rw [show ((t + 1 : Nat) : Int) = (t : Int) + 1 from by omega] at r
      exact r
  unfold Rd_spread
  rw [il0]
  exact key ((H 1).toNat + 1) 0 h (by omega) FrI.rf rowA N (by omega)
theorem clearL {N a len need : Nat} {h : PH} (hN : need < N) (hk : hK h a = (20, len)) (hn : need ≤ len) (hl : len ≤ 75504) : Wp (Rd_clear N (some a) (iv need) h) (fun _ h2 => FrI (fun b => b = a) h h2 ∧ ∀ i, i < need → hI h2 a i = iv 0) := by
  have key : ∀ (m k : Nat) (h1 : PH), k + m = need → FrI (fun b => b = a) h h1 → (∀ i, i < k → hI h1 a i = iv 0) → ∀ fuel, m < fuel → Wp (Rd_clear_b2 N fuel (some a) (iv need) (iv k) h1) (fun _ h2 => FrI (fun b => b = a) h h2 ∧ ∀ i, i < need → hI h2 a i = iv 0) := by
    intro m
    induction m with
    | zero =>
      intro k h1 e f1 d fuel hf
      obtain ⟨fu, rfl⟩ : ∃ fu, fuel = fu + 1 := ⟨fuel - 1, by omega⟩
      rw [Rd_clear_b2]
      exact Wp_ifp (by rw [iv_le (by omega) (by omega) (by omega) (by omega)]; omega) (Wp_ret ⟨f1, fun i hi => d i (by omega)⟩)
    | succ m ih =>
      intro k h1 e f1 d fuel hf
      obtain ⟨fu, rfl⟩ : ∃ fu, fuel = fu + 1 := ⟨fuel - 1, by omega⟩
      have k1 : hK h1 a = (20, len) := by rw [f1.2.1]; exact hk
      rw [Rd_clear_b2]
      refine Wp_ifn (by rw [iv_le (by omega) (by omega) (by omega) (by omega)]; omega) (Wp_bn rfl (Wp_ck (by rw [k1]) ?_))
      rw [k1, iv_nat]
      refine Wp_ifn (by rw [iv_le (by omega) (by omega) (by omega) (by omega)]; omega) (Wp_ck (inb_iv (by omega) (by omega) (by omega)) (Wp_lt ?_))
      rw [ix_nat (by omega), il0, il1, iv_add]
      have r := ih (k + 1) (wI h1 a k (iv 0)) (by omega) f1.w1 (fun i hi => by
        rw [hI_wI]
        by_cases c : i = k
        · rw [if_pos ⟨rfl, c⟩]
        · rw [if_neg (fun e => c e.2)]
          exact d i (by omega)) fu (by omega)
      rw [show ((k + 1 : Nat) : Int) = (k : Int) + 1 from by omega] at r
      exact r
  unfold Rd_clear
  rw [il0]
  exact key need 0 h (by omega) FrI.rf (fun i hi => by omega) N (by omega)
def S49 (bf af : Nat) (b : Nat) : Prop := b = 46 ∨ b = 49 ∨ b = bf ∨ b = af
theorem np49 : ∀ q ∈ PL, ¬ (q.1.1 = 49 ∧ (q.1.2 = 3 ∨ q.1.2 = 4)) := by decide +kernel
theorem tell133 {N : Nat} {H C : Nat → Int} {E : Int → Int → Int → Int → Int → Int} {hb : Int} {q : Nat} {bf af lb la : Nat} {D : Nat → Nat → Nat → Int} {x1 x2 : Int32} {K : Nat → Int32 → Int32 → Int32 → Int32 → PH → Option (Unit × PH)} {Q : Unit → PH → Prop} {h : PH} (hN : 24000 ≤ N) (ho : HOK H C) (mk : RdK H bf af lb la) (hq2 : (q : Int) < H 0) (dk : DOK H q D) (x : RdC N H C E bf af lb la h) (rowA : RowD H (wdH H) (acc H C E hb q D) af h) (kk : ∀ h2, FrI (fun b => b = af) h h2 → RowD H (wdH H) (nextD H C E hb q D) af h2 → Wp (K 49 x1 x2 (iv (ndH H)) (iv ((q : Int) + 1)) h2) Q) : Wp (Rd_tell_b133 N K N 49 x1 x2 (iv (ndH H)) (iv q) (iv 0) h) Q := by
  have h01 := ho.1
  have h11 := ho.2.1
  have nb := nd_b ho
  have mk0 := mk
  obtain ⟨z1, z2, z3, z4, k5, k6, k7, k8, k9, k10', k11, k12, k13⟩ := mk
  have key : ∀ (m k : Nat) (h1 : PH), k + m = ndH H → FrI (fun b => b = af) h h1 → (∀ i, hI h1 af i = if i < k then hI h af i / 10 else hI h af i) → ∀ fuel, m < fuel → Wp (Rd_tell_b133 N K fuel 49 x1 x2 (iv (ndH H)) (iv q) (iv k) h1) Q := by
    intro m
    induction m with
    | zero =>
      intro k h1 e f1 d fuel hf
      obtain ⟨fu, rfl⟩ : ∃ fu, fuel = fu + 1 := ⟨fuel - 1, by omega⟩
      rw [Rd_tell_b133]
      refine Wp_ifp (by rw [iv_le (by omega) (by omega) (by omega) (by omega)]; omega) ?_
      rw [il1, iv_add]
      refine kk h1 f1 ?_
      intro t2 n2 w2 b0 b1 b2
      have pb := pR_b (wd := wdH H) (t := t2) (n := n2) (w := w2) b0 b1 b2
      have ab := acc_b ho (E := E) (hb := hb) (q := q) (by omega) dk (t := t2) (n := n2) (w := w2) (by omega) (by omega) b2
      rw [d, if_pos (by unfold ndH at e; omega), rowA t2 n2 w2 b0 b1 b2, il10, iv_div (by omega) (by omega) (by omega) (by omega)]
      rfl
    | succ m ih =>
      intro k h1 e f1 d fuel hf
      obtain ⟨fu, rfl⟩ : ∃ fu, fuel = fu + 1 := ⟨fuel - 1, by omega⟩
      have xx := x.fr mk0 (f1.up (fun b eb => Or.inr (Or.inr eb)))
      rw [Rd_tell_b133]
      refine Wp_ifn (by rw [iv_le (by omega) (by omega) (by omega) (by omega)]; omega) (Wp_ck (by rw [k49 xx.1]) ?_)
      rw [xx.2.2.2.2.1]
      refine Wp_bde (at_in xx.2.2.2.2.2.2.1 (by omega) (by omega) (by omega)) (Wp_ck (by decide) ?_)
      refine Wp_bde (put_in xx.2.2.2.2.2.2.1 (by omega) (by omega) (by omega)) ?_
      rw [Int.toNat_natCast, il1, iv_add, d k, if_neg (by omega)]
      have r := ih (k + 1) (wI h1 af k (hI h af k / 10)) (by omega) f1.w1 (fun i => by
        rw [hI_wI]
        by_cases c : i = k
        · rw [if_pos ⟨rfl, c⟩, if_pos (by omega), c]
        · rw [if_neg (fun e => c e.2), d i]
          by_cases c2 : i < k
          · rw [if_pos c2, if_pos (by omega)]
          · rw [if_neg c2, if_neg (by omega)]) fu (by omega)
      rw [show ((k + 1 : Nat) : Int) = (k : Int) + 1 from by omega] at r
      exact r
  exact key (ndH H) 0 h (by omega) FrI.rf (fun i => by rw [if_neg (by omega)]) N (by omega)
