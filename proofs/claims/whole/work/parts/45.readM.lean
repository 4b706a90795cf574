/-! THE PURE PROOFS, 23: READ, the reference's way. -/
def SR (b : Nat) : Prop := b = 92 ∨ b = 121 ∨ (103 ≤ b ∧ b ≤ 112) ∨ b = 122 ∨ b = 123 ∨ b = 124 ∨ b = 125
def FrR (h h2 : PH) : Prop := FrS SR h h2 ∧ hZ h2 = hZ h ∧ ∀ j, j ≠ 41 → j ≠ 42 → j ≠ 43 → j ≠ 47 → hI h2 92 j = hI h 92 j
theorem FrR.rf {h : PH} : FrR h h := ⟨FrS.rf, rfl, fun _ _ _ _ _ => rfl⟩
theorem FrR.tr {h h1 h2 : PH} (a : FrR h h1) (b : FrR h1 h2) : FrR h h2 := ⟨a.1.tr b.1, b.2.1.trans a.2.1, fun j x y z u => (b.2.2 j x y z u).trans (a.2.2 j x y z u)⟩
theorem FrV.r {h h2 : PH} (f : FrV h h2) : FrR h h2 := ⟨f.1.s.up (fun b e => by unfold SV at e; unfold SR; omega), f.1.2.2.2.1, f.2⟩
theorem FrR.j {h0 h : PH} {a i : Nat} {v : Int64} (f : FrR h0 h) (ha : a = 124 ∨ a = 125) : FrR h0 (wJ h a i v) := f.tr ⟨FrS.rf.aJ (by unfold SR; omega), rfl, fun j _ _ _ _ => by rw [hI_wJ]⟩
theorem FrR.shp {h h2 : PH} (f : FrR h h2) (s : Shp h) : Shp h2 := f.1.shp s
theorem FrR.hs {H C : Nat → Int} {h h2 : PH} (f : FrR h h2) (x : HsM H C h) : HsM H C h2 := x.fr f.1 (by unfold SR; omega) (by unfold SR; omega)
theorem FrR.nt {n : Nat → Int} {h h2 : PH} (f : FrR h h2) (x : NtM n h) : NtM n h2 := x.fr f.1 (by unfold SR; omega)
theorem FrR.hab {N : Nat} {H : Nat → Int} {E : Int → Int → Int → Int → Int → Int} {h h2 : PH} (f : FrR h h2) (x : HabM N H E h) : HabM N H E h2 := fun h1 s e0 e1 e2 e3 => x h1 s (e0.trans (f.1.I (by unfold SR; omega) 0)) (e1.trans (f.1.2.2.2 98 (by unfold SR; omega)).1) (e2.trans (f.1.2.2.2 99 (by unfold SR; omega)).1) (e3.trans (f.1.2.2.2 100 (by unfold SR; omega)).1)
def pM (t n w : Nat) : Nat := (t * 97 + n) * 2 + w
theorem pM_b {t n w : Nat} (ht : t < 121) (hn : n < 97) (hw : w < 2) : pM t n w < 23474 := by unfold pM; omega
theorem pM_inj {t n w t2 n2 w2 : Nat} (hn : n < 97) (hw : w < 2) (hn2 : n2 < 97) (hw2 : w2 < 2) (e : pM t n w = pM t2 n2 w2) : t = t2 ∧ n = n2 ∧ w = w2 := by unfold pM at e; omega
def RowJ (D : Nat → Nat → Nat → Int) (a : Nat) (h : PH) : Prop := ∀ t n w : Nat, t < 121 → n < 97 → w < 2 → hJ h a (pM t n w) = jv (D t n w)
theorem likeAt {N : Nat} {h : PH} (t n w : Nat) : Mo_likelyAt N (iv t) (iv n) (iv w) h = some (iv (pM t n w : Nat), h) := by
  unfold Mo_likelyAt
  rw [il97, il2, iv_mul, iv_add, iv_mul, iv_add]
  have e : ((pM t n w : Nat) : Int) = ((t : Int) * 97 + n) * 2 + w := by unfold pM; omega
  rw [e]
def CxR (N : Nat) (H C : Nat → Int) (E : Int → Int → Int → Int → Int → Int) (hb : Int) (h : PH) : Prop := Shp h ∧ HsM H C h ∧ HabM N H E h ∧ (0 ≤ hb ∧ hb < H 15) ∧ EOK E
theorem CxR.fr {N : Nat} {H C : Nat → Int} {E : Int → Int → Int → Int → Int → Int} {hb : Int} {h h2 : PH} (x : CxR N H C E hb h) (f : FrR h h2) : CxR N H C E hb h2 := ⟨f.shp x.1, f.hs x.2.1, f.hab x.2.2.1, x.2.2.2⟩
theorem stepK {N : Nat} {H C : Nat → Int} {E : Int → Int → Int → Int → Int → Int} {hb : Int} {q : Nat} {D R : Nat → Nat → Nat → Int} {t n w : Nat} {K24 : Nat → Int32 → Int32 → Int32 → PH → Option (Unit × PH)} {K37 : Nat → Int32 → Int32 → Int32 → Int32 → PH → Option (Unit × PH)} {K48 : Nat → Int32 → Int32 → Int32 → Int32 → Int32 → PH → Option (Unit × PH)} {Q : Unit → PH → Prop} {h : PH} (hN : 200 ≤ N) (ho : HOK H C) (cx : CxR N H C E hb h) (hq2 : (q : Int) < H 0) (dk : DOK H q D) (ht : t ≤ (H 1).toNat) (hn : n ≤ 4 * q) (hw : w < 2) (rowA : RowJ R 125 h) (kk : ∀ h2, FrR h h2 → (∀ i, hJ h2 124 i = hJ h 124 i) → RowJ (fun t2 n2 w2 => R t2 n2 w2 + SS (fun k => con H C E hb q D t2 n2 w2 t w k n) 4) 125 h2 → Wp (K48 92 (iv hb) (iv q) (iv t) (iv n) (iv ((w : Int) + 1)) h2) Q) : Wp (Mo_step_b72 N K24 K37 K48 N 92 (iv hb) (iv q) (iv t) (iv n) (iv w) (jv (D t n w)) (iv 0) h) Q := by
  have h01 := ho.1
  have h11 := ho.2.1
  have eo := cx.2.2.2.2
  have hhb := cx.2.2.2.1
  have db : 0 ≤ D t n w ∧ D t n w ≤ 1000000 := by
    have := place_le_mass dk.1 (t := t) (n := n) (w := w) (by omega) (by omega) hw
    exact ⟨dk.1 t n w, Int.le_trans this dk.2.2⟩
  by_cases dz : D t n w = 0
  · obtain ⟨fu, efu⟩ : ∃ g, N = g + 1 := ⟨N - 1, by omega⟩
    have go : Wp (Mo_step_b72 N K24 K37 K48 (fu + 1) 92 (iv hb) (iv q) (iv t) (iv n) (iv w) (jv (D t n w)) (iv 0) h) Q := by
      rw [Mo_step_b72]
      refine Wp_ifn (by decide) (Wp_ifp (by rw [lg_cmp_le, jl0, jv_le (by omega) (by omega) (by omega) (by omega)]; omega) ?_)
      unfold Mo_step_b179
      rw [il1, iv_add]
      refine kk h FrR.rf (fun _ => rfl) ?_
      intro t2 n2 w2 b0 b1 b2
      rw [rowA t2 n2 w2 b0 b1 b2]
      dsimp only
      rw [SS_zero 4 (fun k _ => ?_), Int.add_zero]
      unfold con
      rw [dz, Int.zero_mul]
      split <;> rfl
    rw [← efu] at go
    exact go
  · have step : ∀ (fu k : Nat) (h1 : PH), k < 4 → FrR h h1 → (∀ i, hJ h1 124 i = hJ h 124 i) → RowJ (fun t2 n2 w2 => R t2 n2 w2 + SS (fun k => con H C E hb q D t2 n2 w2 t w k n) k) 125 h1 → (∀ h2, FrR h h2 → (∀ i, hJ h2 124 i = hJ h 124 i) → RowJ (fun t2 n2 w2 => R t2 n2 w2 + SS (fun k => con H C E hb q D t2 n2 w2 t w k n) (k + 1)) 125 h2 → Wp (Mo_step_b72 N K24 K37 K48 fu 92 (iv hb) (iv q) (iv t) (iv n) (iv w) (jv (D t n w)) (iv ((k : Int) + 1)) h2) Q) → Wp (Mo_step_b72 N K24 K37 K48 (fu + 1) 92 (iv hb) (iv q) (iv t) (iv n) (iv w) (jv (D t n w)) (iv k) h1) Q := by
      intro fu k h1 hk f1 j1 r1 kn
      have cx1 := cx.fr f1
      have s1 := cx1.1
      have cb := ch_b ho (q := q) (k := k) (by omega) (by omega)
      have rt := rT_le ho eo (hb := hb) (q := q) (t := t) hw hk
      have rw2 : rW H E hb q t w k < 2 := by
        have iw := isW_01 H (howE E hb q t 0 ((k : Int) + w)) ((k : Int) + w)
        unfold rW
        omega
      have tail : ∀ (how : Int) (h2 : PH), how = howE E hb q t 0 ((k : Int) + w) → FrR h h2 → (∀ i, hJ h2 124 i = hJ h 124 i) → (∀ i, hJ h2 125 i = hJ h1 125 i) → Wp (Mo_step_b111 N K24 K37 K48 (Mo_step_b72 N K24 K37 K48 fu) (iv how) 92 (iv hb) (iv q) (iv t) (iv n) (iv w) (jv (D t n w)) (iv k) (iv ((k : Int) + w)) h2) Q := by
        intro how h2 eh f2 j2 a2
        have cx2 := cx.fr f2
        have s2 := cx2.1
        have hw4 := howE_b eo hb q t 0 ((k : Int) + w)
        rw [← eh] at hw4
        have g := g_b ho (q := q) (here := (k : Int) + w) (how := how) (t := t) (a := 0) hw4 (by omega) (by omega) (Int.le_refl 0)
        have er : ((rT H E hb q t w k : Nat) : Int) = gt H q ((k : Int) + w) how t 0 := by
          unfold rT
          rw [← eh]
          omega
        have iw := isW_01 H how ((k : Int) + w)
        have ew : ((rW H E hb q t w k : Nat) : Int) = isW H how ((k : Int) + w) := by
          unfold rW
          rw [← eh]
          omega
        unfold Mo_step_b111
        refine Wp_ck (by rw [k92 s2]) ?_
        rw [il0]
        refine Wp_bd2 (givesM (by omega) ho (by omega) hw4 (by omega) (by omega) (by omega) s2 cx2.2.1) ?_
        rintro v h3 ⟨rfl, gf, g1, g2, g3⟩
        have f3 := f2.tr gf.v.r
        have cx3 := cx.fr f3
        have s3 := cx3.1
        have j3 : ∀ i, hJ h3 124 i = hJ h 124 i := fun i => by rw [gf.2.1]; exact j2 i
        have a3 : ∀ i, hJ h3 125 i = hJ h1 125 i := fun i => by rw [gf.2.1]; exact a2 i
        have fin : ∀ z : Int, z = ((rW H E hb q t w k : Nat) : Int) → Wp (Mo_step_b154 N K24 K37 K48 (Mo_step_b72 N K24 K37 K48 fu) (some 125) (iv (rT H E hb q t w k : Nat)) (iv ((n : Int) + ((k : Int) + w))) (iv z) 92 (iv hb) (iv q) (iv t) (iv n) (iv w) (jv (D t n w)) (iv k) h3) Q := by
          rintro z rfl
          have pb := pM_b (t := rT H E hb q t w k) (n := n + (k + w)) (w := rW H E hb q t w k) (by omega) (by omega) rw2
          unfold Mo_step_b154
          rw [show ((n : Int) + ((k : Int) + w)) = ((n + (k + w) : Nat) : Int) from by omega]
          refine Wp_bde (likeAt _ _ _) (Wp_bn rfl (Wp_ck (by rw [k125 s3]) (Wp_ck (by rw [k125 s3]; exact inb_iv (by omega) (by omega) (by omega)) (Wp_ck (by rw [k92 s3]) ?_))))
          rw [il0]
          refine Wp_bde (chM_eq s3 cx3.2.1 (Or.inl rfl) (by omega) (by omega)) (Wp_ck (by rw [k125 s3]) (Wp_ck (by rw [k125 s3]; exact inb_iv (by omega) (by omega) (by omega)) (Wp_lt ?_)))
          rw [show cw C 0 q k = ch C q k from by unfold cw; rw [if_pos rfl], ix_nat (by omega), a3, r1 _ _ _ (by omega) (by omega) rw2, iv_wide (by omega) (by omega), jv_mul, jv_add, il1, iv_add]
          refine kn _ (f3.j (Or.inr rfl)) (fun i => by rw [hJ_wJ, if_neg (by omega)]; exact j3 i) ?_
          intro t2 n2 w2 b0 b1 b2
          rw [hJ_wJ]
          dsimp only
          rw [SS]
          by_cases cc : rT H E hb q t w k = t2 ∧ n + (k + w) = n2 ∧ rW H E hb q t w k = w2
          · obtain ⟨rfl, rfl, rfl⟩ := cc
            rw [if_pos ⟨rfl, rfl⟩]
            have z : con H C E hb q D (rT H E hb q t w k) (n + (k + w)) (rW H E hb q t w k) t w k n = D t n w * ch C q k := by
              unfold con
              rw [if_pos ⟨rfl, rfl, rfl⟩]
            rw [z, Int.add_assoc]
          · rw [if_neg ?_, a3, r1 t2 n2 w2 b0 b1 b2]
            · have z : con H C E hb q D t2 n2 w2 t w k n = 0 := by
                unfold con
                rw [if_neg cc]
              rw [z, Int.add_zero]
            · intro ee
              have := pM_inj b1 b2 (by omega : n + (k + w) < 97) rw2 ee.2
              exact cc ⟨this.1.symm, this.2.1.symm, this.2.2.symm⟩
        refine Wp_ck (by rw [k92 s3]) (Wp_bde (isWM_eq s3 ho cx3.2.1 (by omega) hw4) ?_)
        rw [← il0]
        simp only [bI_0]
        rw [il0, il1, g1, ← er, p92_52 s3, iv_add]
        rcases iw with e | e
        · rw [e]
          exact Wp_ifp (by decide) (fin 0 (by omega))
        · rw [e]
          exact Wp_ifn (by decide) (fin 1 (by omega))
      rw [Mo_step_b72]
      refine Wp_ifn (by rw [il4, iv_le (by omega) (by omega) (by omega) (by omega)]; omega) (Wp_ifn (by rw [lg_cmp_le, jl0, jv_le (by omega) (by omega) (by omega) (by omega)]; omega) ?_)
      rw [iv_add, il0]
      refine Wp_if (fun c => ?_) (fun c => ?_)
      · rw [iv_eq (by omega) (by omega) (by omega) (by omega)] at c
        refine tail 0 h1 ?_ f1 j1 (fun _ => rfl)
        unfold howE
        rw [if_pos c]
      · rw [iv_eq (by omega) (by omega) (by omega) (by omega)] at c
        refine Wp_ck (by rw [k92 s1]) ?_
        refine Wp_bd2 (cx1.2.2.1 h1 s1 rfl rfl rfl rfl hb q t 0 ((k : Int) + w) hhb.1 hhb.2 (by omega) (by omega) (by omega) (by omega) (by omega) (by omega) (by omega) (by omega)) ?_
        rintro v h2 ⟨rfl, f2, -⟩
        refine tail _ h2 ?_ (f1.tr f2.r) (fun i => by rw [f2.1.2.2.2.2.1]; exact j1 i) (fun i => by rw [f2.1.2.2.2.2.1])
        unfold howE
        rw [if_neg c]
    obtain ⟨fu, efu⟩ : ∃ g, N = g + 1 + 1 + 1 + 1 + 1 := ⟨N - 5, by omega⟩
    have go : Wp (Mo_step_b72 N K24 K37 K48 (fu + 1 + 1 + 1 + 1 + 1) 92 (iv hb) (iv q) (iv t) (iv n) (iv w) (jv (D t n w)) (iv ((0 : Nat) : Int)) h) Q := by
      refine step _ 0 h (by omega) FrR.rf (fun _ => rfl) (fun t2 n2 w2 b0 b1 b2 => by rw [rowA t2 n2 w2 b0 b1 b2]; dsimp only; rw [SS, Int.add_zero]) (fun h1 f1 j1 r1 => ?_)
      refine step _ 1 h1 (by omega) f1 j1 r1 (fun h2 f2 j2 r2 => ?_)
      refine step _ 2 h2 (by omega) f2 j2 r2 (fun h3 f3 j3 r3 => ?_)
      refine step _ 3 h3 (by omega) f3 j3 r3 (fun h4 f4 j4 r4 => ?_)
      rw [Mo_step_b72]
      refine Wp_ifp (by decide) ?_
      unfold Mo_step_b179
      rw [il1, iv_add]
      exact kk h4 f4 j4 r4
    rw [← efu] at go
    exact go
def mkK (H C : Nat → Int) (E : Int → Int → Int → Int → Int → Int) (hb q : Int) (D : Nat → Nat → Nat → Int) (t2 n2 w2 t n w : Nat) : Int := SS (fun k => con H C E hb q D t2 n2 w2 t w k n) 4
def mkW (H C : Nat → Int) (E : Int → Int → Int → Int → Int → Int) (hb q : Int) (D : Nat → Nat → Nat → Int) (t2 n2 w2 t n : Nat) : Int := SS (fun w => mkK H C E hb q D t2 n2 w2 t n w) 2
def mkN (H C : Nat → Int) (E : Int → Int → Int → Int → Int → Int) (hb : Int) (q : Nat) (D : Nat → Nat → Nat → Int) (t2 n2 w2 t : Nat) : Int := SS (fun n => mkW H C E hb q D t2 n2 w2 t n) (4 * q + 1)
theorem stepW {N : Nat} {H C : Nat → Int} {E : Int → Int → Int → Int → Int → Int} {hb : Int} {q : Nat} {D R : Nat → Nat → Nat → Int} {t n : Nat} {K24 : Nat → Int32 → Int32 → Int32 → PH → Option (Unit × PH)} {K37 : Nat → Int32 → Int32 → Int32 → Int32 → PH → Option (Unit × PH)} {Q : Unit → PH → Prop} {h : PH} (hN : 200 ≤ N) (ho : HOK H C) (cx : CxR N H C E hb h) (hq2 : (q : Int) < H 0) (dk : DOK H q D) (ht : t ≤ (H 1).toNat) (hn : n ≤ 4 * q) (rowB : RowJ D 124 h) (rowA : RowJ R 125 h) (kk : ∀ h2, FrR h h2 → (∀ i, hJ h2 124 i = hJ h 124 i) → RowJ (fun t2 n2 w2 => R t2 n2 w2 + mkW H C E hb q D t2 n2 w2 t n) 125 h2 → Wp (K37 92 (iv hb) (iv q) (iv t) (iv ((n : Int) + 1)) h2) Q) : Wp (Mo_step_b48 N K24 K37 N 92 (iv hb) (iv q) (iv t) (iv n) (iv 0) h) Q := by
  have h01 := ho.1
  have h11 := ho.2.1
  have step : ∀ (fu w : Nat) (h1 : PH), w < 2 → FrR h h1 → (∀ i, hJ h1 124 i = hJ h 124 i) → RowJ (fun t2 n2 w2 => R t2 n2 w2 + SS (fun w => mkK H C E hb q D t2 n2 w2 t n w) w) 125 h1 → (∀ h2, FrR h h2 → (∀ i, hJ h2 124 i = hJ h 124 i) → RowJ (fun t2 n2 w2 => R t2 n2 w2 + SS (fun w => mkK H C E hb q D t2 n2 w2 t n w) (w + 1)) 125 h2 → Wp (Mo_step_b48 N K24 K37 fu 92 (iv hb) (iv q) (iv t) (iv n) (iv ((w : Int) + 1)) h2) Q) → Wp (Mo_step_b48 N K24 K37 (fu + 1) 92 (iv hb) (iv q) (iv t) (iv n) (iv w) h1) Q := by
    intro fu w h1 hw f1 j1 r1 kn
    have cx1 := cx.fr f1
    have s1 := cx1.1
    have pb := pM_b (t := t) (n := n) (w := w) (by omega) (by omega) hw
    rw [Mo_step_b48]
    refine Wp_ifn (by rw [il2, iv_le (by omega) (by omega) (by omega) (by omega)]; omega) (Wp_ck (by rw [k92 s1]) (Wp_bde (likeAt t n w) (Wp_bn (p92_51 s1) (Wp_ck (by rw [k124 s1]) (Wp_ck (by rw [k124 s1]; exact inb_iv (by omega) (by omega) (by omega)) ?_)))))
    rw [ix_nat (by omega), j1, rowB t n w (by omega) (by omega) hw, il0]
    refine stepK hN ho cx1 hq2 dk ht hn hw r1 (fun h2 f2 j2 r2 => ?_)
    refine kn h2 (f1.tr f2) (fun i => (j2 i).trans (j1 i)) ?_
    intro t2 n2 w2 b0 b1 b2
    rw [r2 t2 n2 w2 b0 b1 b2]
    dsimp only
    rw [SS, Int.add_assoc]
    rfl
  obtain ⟨fu, efu⟩ : ∃ g, N = g + 1 + 1 + 1 := ⟨N - 3, by omega⟩
  have go : Wp (Mo_step_b48 N K24 K37 (fu + 1 + 1 + 1) 92 (iv hb) (iv q) (iv t) (iv n) (iv ((0 : Nat) : Int)) h) Q := by
    refine step _ 0 h (by omega) FrR.rf (fun _ => rfl) (fun t2 n2 w2 b0 b1 b2 => by rw [rowA t2 n2 w2 b0 b1 b2]; dsimp only; rw [SS, Int.add_zero]) (fun h1 f1 j1 r1 => ?_)
    refine step _ 1 h1 (by omega) f1 j1 r1 (fun h2 f2 j2 r2 => ?_)
    rw [Mo_step_b48]
    refine Wp_ifp (by decide) ?_
    rw [il1, iv_add]
    exact kk h2 f2 j2 r2
  rw [← efu] at go
  exact go
theorem stepN {N : Nat} {H C : Nat → Int} {E : Int → Int → Int → Int → Int → Int} {hb : Int} {q : Nat} {D R : Nat → Nat → Nat → Int} {t : Nat} {K24 : Nat → Int32 → Int32 → Int32 → PH → Option (Unit × PH)} {Q : Unit → PH → Prop} (hN : 200 ≤ N) (ho : HOK H C) (hq2 : (q : Int) < H 0) (dk : DOK H q D) (ht : t ≤ (H 1).toNat) {h0 : PH} (rowB : RowJ D 124 h0) (kk : ∀ h2, FrR h0 h2 → (∀ i, hJ h2 124 i = hJ h0 124 i) → RowJ (fun t2 n2 w2 => R t2 n2 w2 + mkN H C E hb q D t2 n2 w2 t) 125 h2 → Wp (K24 92 (iv hb) (iv q) (iv ((t : Int) + 1)) h2) Q) : ∀ (m n : Nat) (h : PH), n + m = 4 * q + 1 → CxR N H C E hb h → FrR h0 h → (∀ i, hJ h 124 i = hJ h0 124 i) → RowJ (fun t2 n2 w2 => R t2 n2 w2 + SS (fun n => mkW H C E hb q D t2 n2 w2 t n) n) 125 h → ∀ fuel, m < fuel → Wp (Mo_step_b37 N K24 fuel 92 (iv hb) (iv q) (iv t) (iv n) h) Q := by
  intro m
  have h01 := ho.1
  induction m with
  | zero =>
    intro n h e cx f j r fuel hf
    obtain ⟨fu, rfl⟩ : ∃ fu, fuel = fu + 1 := ⟨fuel - 1, by omega⟩
    rw [Mo_step_b37]
    dsimp only
    rw [il4, il1, iv_mul, iv_add]
    refine Wp_ifp (by rw [iv_lt (by omega) (by omega) (by omega) (by omega)]; omega) ?_
    refine kk h f j ?_
    rw [show n = 4 * q + 1 from by omega] at r
    exact r
  | succ m ih =>
    intro n h e cx f j r fuel hf
    obtain ⟨fu, rfl⟩ : ∃ fu, fuel = fu + 1 := ⟨fuel - 1, by omega⟩
    rw [Mo_step_b37]
    dsimp only
    rw [il4, iv_mul]
    refine Wp_ifn (by rw [iv_lt (by omega) (by omega) (by omega) (by omega)]; omega) ?_
    rw [il0]
    refine stepW hN ho cx hq2 dk ht (by omega) (fun t2 n2 w2 b0 b1 b2 => (j _).trans (rowB t2 n2 w2 b0 b1 b2)) r (fun h2 f2 j2 r2 => ?_)
    have r3 := ih (n + 1) h2 (by omega) (cx.fr f2) (f.tr f2) (fun i => (j2 i).trans (j i)) (fun t2 n2 w2 b0 b1 b2 => by rw [r2 t2 n2 w2 b0 b1 b2]; dsimp only; rw [SS, Int.add_assoc]) fu (by omega)
    rw [show ((n + 1 : Nat) : Int) = (n : Int) + 1 from by omega] at r3
    exact r3
theorem div199 {N : Nat} {h : PH} (hN : 24000 ≤ N) (s : Shp h) : Wp (Mo_step_b199 N N 92 (iv 0) h) (fun _ h2 => FrR h h2 ∧ ∀ i, i < 23474 → hJ h2 124 i = hJ h 125 i / jv 10) := by
  have key : ∀ (m k : Nat) (h1 : PH), k + m = 23474 → FrR h h1 → (∀ i, hJ h1 125 i = hJ h 125 i) → (∀ i, i < k → hJ h1 124 i = hJ h 125 i / jv 10) → ∀ fuel, m < fuel → Wp (Mo_step_b199 N fuel 92 (iv k) h1) (fun _ h2 => FrR h h2 ∧ ∀ i, i < 23474 → hJ h2 124 i = hJ h 125 i / jv 10) := by
    intro m
    induction m with
    | zero =>
      intro k h1 e f1 j1 d fuel hf
      obtain ⟨fu, rfl⟩ : ∃ fu, fuel = fu + 1 := ⟨fuel - 1, by omega⟩
      rw [Mo_step_b199]
      refine Wp_ifp (by rw [show (23474 : Int32) = iv 23474 from iv_lit _, iv_le (by omega) (by omega) (by omega) (by omega)]; omega) (Wp_ret ⟨f1, fun i hi => d i (by omega)⟩)
    | succ m ih =>
      intro k h1 e f1 j1 d fuel hf
      obtain ⟨fu, rfl⟩ : ∃ fu, fuel = fu + 1 := ⟨fuel - 1, by omega⟩
      have s1 := f1.shp s
      rw [Mo_step_b199]
      refine Wp_ifn (by rw [show (23474 : Int32) = iv 23474 from iv_lit _, iv_le (by omega) (by omega) (by omega) (by omega)]; omega) (Wp_ck (by rw [k92 s1]) (Wp_bn (p92_52 s1) (Wp_ck (by rw [k125 s1]) (Wp_ck (by rw [k125 s1]; exact inb_iv (by omega) (by omega) (by omega)) (Wp_ck (by decide) (Wp_bn (p92_51 s1) (Wp_ck (by rw [k124 s1]) (Wp_ck (by rw [k124 s1]; exact inb_iv (by omega) (by omega) (by omega)) (Wp_lt ?_)))))))))
      rw [ix_nat (by omega), j1, il1, iv_add, jl10]
      have r := ih (k + 1) (wJ h1 124 k (hJ h 125 k / jv 10)) (by omega) (f1.j (Or.inl rfl)) (fun i => by rw [hJ_wJ, if_neg (by omega)]; exact j1 i) (fun i hi => by
        rw [hJ_wJ]
        by_cases c : i = k
        · rw [if_pos ⟨rfl, c⟩, c]
        · rw [if_neg (fun e => c e.2)]
          exact d i (by omega)) fu (by omega)
      rw [show ((k + 1 : Nat) : Int) = (k : Int) + 1 from by omega] at r
      exact r
  exact key 23474 0 h (by omega) FrR.rf (fun _ => rfl) (fun i hi => by omega) N (by omega)
theorem stepM2 {N : Nat} {H C : Nat → Int} {E : Int → Int → Int → Int → Int → Int} {hb : Int} {q : Nat} {D : Nat → Nat → Nat → Int} {h : PH} (hN : 24000 ≤ N) (ho : HOK H C) (cx : CxR N H C E hb h) (hq2 : (q : Int) < H 0) (dk : DOK H q D) (rowB : RowJ D 124 h) : Wp (Mo_step N 92 (iv hb) (iv q) h) (fun _ h2 => FrR h h2 ∧ RowJ (nextD H C E hb q D) 124 h2) := by
  have h01 := ho.1
  have h11 := ho.2.1
  have tl : ∀ (m t : Nat) (h1 : PH), t + m = (H 1).toNat + 1 → FrR h h1 → (∀ i, hJ h1 124 i = hJ h 124 i) → RowJ (fun t2 n2 w2 => SS (fun t => mkN H C E hb q D t2 n2 w2 t) t) 125 h1 → ∀ fuel, m < fuel → Wp (Mo_step_b24 N fuel 92 (iv hb) (iv q) (iv t) h1) (fun _ h2 => FrR h h2 ∧ RowJ (nextD H C E hb q D) 124 h2) := by
    intro m
    induction m with
    | zero =>
      intro t h1 e f1 j1 r1 fuel hf
      obtain ⟨fu, rfl⟩ : ∃ fu, fuel = fu + 1 := ⟨fuel - 1, by omega⟩
      have cx1 := cx.fr f1
      have s1 := cx1.1
      rw [Mo_step_b24]
      refine Wp_ck (by rw [k92 s1]) (Wp_bn (p92_10 s1) (Wp_ck (by rw [k94 s1]) (Wp_ck (by rw [k94 s1]; decide) ?_)))
      rw [ix_l 1 (by omega), cx1.2.1.1 1 (by omega), il0]
      refine Wp_ifp (by rw [iv_lt (by omega) (by omega) (by omega) (by omega)]; omega) ?_
      refine Wp_mono (div199 hN s1) ?_
      rintro - h2 ⟨f2, d2⟩
      refine ⟨f1.tr f2, ?_⟩
      intro t2 n2 w2 b0 b1 b2
      have ab := acc_b ho (E := E) (hb := hb) (q := q) (by omega) dk b0 b1 b2
      have ea : acc H C E hb q D t2 n2 w2 = SS (fun t => mkN H C E hb q D t2 n2 w2 t) ((H 1).toNat + 1) := acc_ref H C E hb q D (fun t n w hn => dk.2.1 t n w (Or.inr (Or.inl hn))) (by omega) t2 n2 w2
      rw [d2 _ (pM_b b0 b1 b2), r1 t2 n2 w2 b0 b1 b2]
      dsimp only
      rw [show t = (H 1).toNat + 1 from by omega, ← ea, jv_div (by omega) (by omega) (by omega) (by omega)]
      rfl
    | succ m ih =>
      intro t h1 e f1 j1 r1 fuel hf
      obtain ⟨fu, rfl⟩ : ∃ fu, fuel = fu + 1 := ⟨fuel - 1, by omega⟩
      have cx1 := cx.fr f1
      have s1 := cx1.1
      rw [Mo_step_b24]
      refine Wp_ck (by rw [k92 s1]) (Wp_bn (p92_10 s1) (Wp_ck (by rw [k94 s1]) (Wp_ck (by rw [k94 s1]; decide) ?_)))
      rw [ix_l 1 (by omega), cx1.2.1.1 1 (by omega), il0]
      refine Wp_ifn (by rw [iv_lt (by omega) (by omega) (by omega) (by omega)]; omega) ?_
      refine stepN (by omega) ho hq2 dk (by omega) (h0 := h1) (fun t2 n2 w2 b0 b1 b2 => (j1 _).trans (rowB t2 n2 w2 b0 b1 b2)) ?_ (4 * q + 1) 0 h1 (by omega) cx1 FrR.rf (fun _ => rfl) (fun t2 n2 w2 b0 b1 b2 => by rw [r1 t2 n2 w2 b0 b1 b2]; dsimp only; rw [SS.eq_def (fun n => mkW H C E hb q D t2 n2 w2 t n) 0]; dsimp only; rw [Int.add_zero]) N (by omega)
      intro h2 f2 j2 r2
      have r := ih (t + 1) h2 (by omega) (f1.tr f2) (fun i => (j2 i).trans (j1 i)) r2 fu (by omega)
      rw [show ((t + 1 : Nat) : Int) = (t : Int) + 1 from by omega] at r
      exact r
  have key : ∀ (m k : Nat) (h1 : PH), k + m = 23474 → FrR h h1 → (∀ i, hJ h1 124 i = hJ h 124 i) → (∀ i, i < k → hJ h1 125 i = jv 0) → ∀ fuel, m < fuel → Wp (Mo_step_b2 N fuel 92 (iv hb) (iv q) (iv k) h1) (fun _ h2 => FrR h h2 ∧ RowJ (nextD H C E hb q D) 124 h2) := by
    intro m
    induction m with
    | zero =>
      intro k h1 e f1 j1 d fuel hf
      obtain ⟨fu, rfl⟩ : ∃ fu, fuel = fu + 1 := ⟨fuel - 1, by omega⟩
      rw [Mo_step_b2]
      refine Wp_ifp (by rw [show (23474 : Int32) = iv 23474 from iv_lit _, iv_le (by omega) (by omega) (by omega) (by omega)]; omega) ?_
      rw [il0]
      exact tl ((H 1).toNat + 1) 0 h1 (by omega) f1 j1 (fun t2 n2 w2 b0 b1 b2 => d _ (by have := pM_b b0 b1 b2; omega)) N (by omega)
    | succ m ih =>
      intro k h1 e f1 j1 d fuel hf
      obtain ⟨fu, rfl⟩ : ∃ fu, fuel = fu + 1 := ⟨fuel - 1, by omega⟩
      have s1 := f1.shp cx.1
      rw [Mo_step_b2]
      refine Wp_ifn (by rw [show (23474 : Int32) = iv 23474 from iv_lit _, iv_le (by omega) (by omega) (by omega) (by omega)]; omega) (Wp_ck (by rw [k92 s1]) (Wp_bn (p92_52 s1) (Wp_ck (by rw [k125 s1]) (Wp_ck (by rw [k125 s1]; exact inb_iv (by omega) (by omega) (by omega)) (Wp_lt ?_)))))
      rw [ix_nat (by omega), il1, iv_add, jl0]
      have r := ih (k + 1) (wJ h1 125 k (jv 0)) (by omega) (f1.j (Or.inr rfl)) (fun i => by rw [hJ_wJ, if_neg (by omega)]; exact j1 i) (fun i hi => by
        rw [hJ_wJ]
        by_cases c : i = k
        · rw [if_pos ⟨rfl, c⟩]
        · rw [if_neg (fun e => c e.2)]
          exact d i (by omega)) fu (by omega)
      rw [show ((k + 1 : Nat) : Int) = (k : Int) + 1 from by omega] at r
      exact r
  unfold Mo_step
  rw [il0]
  exact key 23474 0 h (by omega) FrR.rf (fun _ => rfl) (fun i hi => by omega) N (by omega)
