/-! THE PURE PROOFS, 31: an evening is read, the reference's way. -/
/-- the text on the reference's tape, not begun -/
def Tx0 (T : Nat → Int) (L : Nat) (h : PH) : Prop := Shp h ∧ L ≤ 1000 ∧ (∀ k, k < L → T k = 10 ∨ (32 ≤ T k ∧ T k ≤ 126)) ∧ hI h 92 1 = iv L ∧ (∀ k, k < L → hI h 93 k = iv (T k))
/-- all that a reading of the tape may touch -/
def Q0 (j : Nat) : Prop := j ≠ 0 ∧ j ≠ 1 ∧ j ≠ 3 ∧ j ≠ 4 ∧ j ≠ 5 ∧ j ≠ 6 ∧ j ≠ 8 ∧ j ≠ 9 ∧ j ≠ 31
def FrV0 (h h2 : PH) : Prop := FrS (fun b => b = 92 ∨ b = 113 ∨ b = 114 ∨ b = 115) h h2 ∧ hZ h2 = hZ h ∧ (∀ j, Q0 j → hI h2 92 j = hI h 92 j) ∧ (∀ j, j ≠ 7 → hJ h2 92 j = hJ h 92 j) ∧ (∀ j, j ≠ 0 → j ≠ 5 → hI h2 113 j = hI h 113 j) ∧ (∀ j, 60 ≤ j → j < 300 → hI h2 114 j = hI h 114 j ∧ hI h2 115 j = hI h 115 j)
theorem FrV0.rf {h : PH} : FrV0 h h := ⟨FrS.rf, rfl, fun _ _ => rfl, fun _ _ => rfl, fun _ _ _ => rfl, fun _ _ _ => ⟨rfl, rfl⟩⟩
theorem FrV0.tr {h h1 h2 : PH} (a : FrV0 h h1) (b : FrV0 h1 h2) : FrV0 h h2 := ⟨a.1.tr b.1, b.2.1.trans a.2.1, fun j q => (b.2.2.1 j q).trans (a.2.2.1 j q), fun j q => (b.2.2.2.1 j q).trans (a.2.2.2.1 j q), fun j q r => (b.2.2.2.2.1 j q r).trans (a.2.2.2.2.1 j q r), fun j q r => ⟨(b.2.2.2.2.2 j q r).1.trans (a.2.2.2.2.2 j q r).1, (b.2.2.2.2.2 j q r).2.trans (a.2.2.2.2.2 j q r).2⟩⟩
theorem FrY.v {h h2 : PH} (f : FrY h h2) : FrV0 h h2 := ⟨f.1.up (fun b e => Or.inl e), f.2.1, fun j q => by unfold Q0 at q; exact f.2.2.1 j (by omega) (by omega) (by omega) (by omega) (by omega) (by omega), f.2.2.2, fun j _ _ => f.1.I (by omega) j, fun j _ _ => ⟨f.1.I (by omega) j, f.1.I (by omega) j⟩⟩
theorem FrV0.w {h0 h : PH} {a i : Nat} {v : Int32} (f : FrV0 h0 h) (ha : (a = 92 ∧ ¬ Q0 i) ∨ (a = 113 ∧ (i = 0 ∨ i = 5)) ∨ ((a = 114 ∨ a = 115) ∧ (i < 60 ∨ 300 ≤ i))) : FrV0 h0 (wI h a i v) := by
  refine f.tr ⟨FrS.rf.aI (by omega), rfl, fun j q => ?_, fun j _ => by rw [hJ_wI], fun j _ _ => ?_, fun j _ _ => ⟨?_, ?_⟩⟩
  · rw [hI_wI, if_neg ?_]
    rintro ⟨e1, e2⟩
    subst e2
    rcases ha with b | b | b
    · exact b.2 q
    · omega
    · omega
  · rw [hI_wI, if_neg (by omega)]
  · rw [hI_wI, if_neg (by omega)]
  · rw [hI_wI, if_neg (by omega)]
theorem startsM {N : Nat} {T : Nat → Int} {L : Nat} {h : PH} (hN : 1100 ≤ N) (x : Tx0 T L h) : Wp (Mo_starts N 92 h) (fun _ h2 => FrV0 h h2 ∧ TxM T L h2 ∧ LexM T L 0 h2 ∧ hI h2 92 1 = iv 0 ∧ (∀ a, a ≠ 92 → hI h2 a = hI h a) ∧ hI h2 92 0 = hI h 92 0) := by
  obtain ⟨s, hL, ok, e1, sg⟩ := x
  unfold Mo_starts
  refine Wp_ck (by rw [k92 s]) (Wp_lt (Wp_lt (Wp_lt ?_)))
  rw [e1, il0]
  have f1 : FrV0 h (wI (wI (wI h 92 3 (iv L)) 92 1 (iv 0)) 92 4 (iv 0)) := ((FrV0.rf.w (by unfold Q0; omega)).w (by unfold Q0; omega)).w (by unfold Q0; omega)
  have x1 : TxM T L (wI (wI (wI h 92 3 (iv L)) 92 1 (iv 0)) 92 4 (iv 0)) := by
    refine ⟨f1.1.shp s, hL, ok, ?_, fun k hk => ?_⟩
    · rw [hI_wI, if_neg (by omega), hI_wI, if_neg (by omega), hI_wI, if_pos ⟨rfl, rfl⟩]
    · rw [f1.1.I (by omega)]
      exact sg k hk
  refine Wp_bd2 (nextM (p := 0) hN x1 (by omega) (by rw [hI_wI, if_pos ⟨rfl, rfl⟩]; rfl)) ?_
  rintro - h2 ⟨f2, l2⟩
  refine Wp_ret ⟨f1.tr f2.y.v, f2.tx x1, l2, ?_, fun a ha => ?_, ?_⟩
  · rw [f2.2.2.1 1 (by omega) (by omega) (by omega) (by omega), hI_wI, if_neg (by omega), hI_wI, if_pos ⟨rfl, rfl⟩]
  · rw [(f2.1.2.2.2 a (by omega)).1]
    funext j
    rw [hI_wI, if_neg (by omega), hI_wI, if_neg (by omega), hI_wI, if_neg (by omega)]
  · rw [f2.2.2.1 0 (by omega) (by omega) (by omega) (by omega), hI_wI, if_neg (by omega), hI_wI, if_neg (by omega), hI_wI, if_neg (by omega)]
def ScM (n : Nat) (A B : Nat → Int) (h : PH) : Prop := hI h 113 5 = iv n ∧ ∀ i, i < n → hI h 114 (300 + i) = iv (A i - 16) ∧ (A i ≤ 17 → hI h 115 (300 + i) = iv (B i))
theorem ScM.fr {n : Nat} {A B : Nat → Int} {h h2 : PH} (x : ScM n A B h) (f : FrY h h2) : ScM n A B h2 := ⟨(f.1.I (by omega) 5).trans x.1, fun i hi => ⟨(f.1.I (by omega) _).trans (x.2 i hi).1, fun c => (f.1.I (by omega) _).trans ((x.2 i hi).2 c)⟩⟩
theorem FrV0.tx {T : Nat → Int} {L : Nat} {h h2 : PH} (f : FrV0 h h2) (x : TxM T L h) (e : hI h2 92 3 = hI h 92 3) : TxM T L h2 := x.fr f.1 (by omega) e
/-- the lines that stand kept -/
def FrV1 (h h2 : PH) : Prop := FrS (fun b => b = 92 ∨ b = 113 ∨ b = 114 ∨ b = 115) h h2 ∧ hZ h2 = hZ h ∧ (∀ j, Q0 j → hI h2 92 j = hI h 92 j) ∧ (∀ j, j ≠ 7 → hJ h2 92 j = hJ h 92 j) ∧ (∀ j, j ≠ 5 → hI h2 113 j = hI h 113 j) ∧ (∀ j, j < 300 → hI h2 114 j = hI h 114 j ∧ hI h2 115 j = hI h 115 j)
theorem FrV1.v0 {h h2 : PH} (f : FrV1 h h2) : FrV0 h h2 := ⟨f.1, f.2.1, f.2.2.1, f.2.2.2.1, fun j _ q => f.2.2.2.2.1 j q, fun j _ q => f.2.2.2.2.2 j q⟩
theorem FrV1.rf {h : PH} : FrV1 h h := ⟨FrS.rf, rfl, fun _ _ => rfl, fun _ _ => rfl, fun _ _ => rfl, fun _ _ => ⟨rfl, rfl⟩⟩
theorem FrV1.tr {h h1 h2 : PH} (a : FrV1 h h1) (b : FrV1 h1 h2) : FrV1 h h2 := ⟨a.1.tr b.1, b.2.1.trans a.2.1, fun j q => (b.2.2.1 j q).trans (a.2.2.1 j q), fun j q => (b.2.2.2.1 j q).trans (a.2.2.2.1 j q), fun j q => (b.2.2.2.2.1 j q).trans (a.2.2.2.2.1 j q), fun j q => ⟨(b.2.2.2.2.2 j q).1.trans (a.2.2.2.2.2 j q).1, (b.2.2.2.2.2 j q).2.trans (a.2.2.2.2.2 j q).2⟩⟩
theorem FrY.v1 {h h2 : PH} (f : FrY h h2) : FrV1 h h2 := ⟨f.1.up (fun b e => Or.inl e), f.2.1, fun j q => by unfold Q0 at q; exact f.2.2.1 j (by omega) (by omega) (by omega) (by omega) (by omega) (by omega), f.2.2.2, fun j _ => f.1.I (by omega) j, fun j _ => ⟨f.1.I (by omega) j, f.1.I (by omega) j⟩⟩
theorem FrV1.w {h0 h : PH} {a i : Nat} {v : Int32} (f : FrV1 h0 h) (ha : (a = 113 ∧ i = 5) ∨ ((a = 114 ∨ a = 115) ∧ 300 ≤ i)) : FrV1 h0 (wI h a i v) := by
  refine f.tr ⟨FrS.rf.aI (by omega), rfl, fun j q => ?_, fun j _ => by rw [hJ_wI], fun j _ => ?_, fun j _ => ⟨?_, ?_⟩⟩
  · rw [hI_wI, if_neg (by omega)]
  · rw [hI_wI, if_neg (by omega)]
  · rw [hI_wI, if_neg (by omega)]
  · rw [hI_wI, if_neg (by omega)]
theorem FrV1.tx {T : Nat → Int} {L : Nat} {h h2 : PH} (f : FrV1 h h2) (x : TxM T L h) (e : hI h2 92 3 = hI h 92 3) : TxM T L h2 := x.fr f.1 (by omega) e
theorem evlineM {N : Nat} {T : Nat → Int} {L n p : Nat} {A B : Nat → Int} {h : PH} (hN : 1100 ≤ N) (x : TxM T L h) (s : LexM T L p h) (hp : p ≤ L) (c : ScM n A B h) (hn : n ≤ 60) : Wp (Mo_readsLine N 92 h) (fun v h2 => FrV1 h h2 ∧ TxM T L h2 ∧ hI h2 92 0 = hI h 92 0 ∧ hI h2 92 1 = hI h 92 1 ∧ GdM T L (evL T L n p) v h2 ∧ (v = true → ScM (n + 1) (up1 A n (tWx T L p)) (up1 B n (evZ T L p)) h2)) := by
  have hL := x.2.1
  have s0 := x.1
  obtain ⟨lits⟩ : True := trivial
  have kl := K27_lits
  have wb := tWx_b (T := T) (L := L) (p := p)
  have other : (tWx T L p < 16 ∨ 19 < tWx T L p) → Wp (Mo_readsLine_b57 N (-1) 92 h) (fun v h2 => FrV1 h h2 ∧ TxM T L h2 ∧ hI h2 92 0 = hI h 92 0 ∧ hI h2 92 1 = hI h 92 1 ∧ GdM T L (evL T L n p) v h2 ∧ (v = true → ScM (n + 1) (up1 A n (tWx T L p)) (up1 B n (evZ T L p)) h2)) := by
    intro b
    unfold Mo_readsLine_b57
    refine Wp_ifn (by decide) (Wp_ck (by rw [k92 s0]) ?_)
    rw [il1]
    refine Wp_bd2 (failR (r := evL T L n p) x s hp (by omega) (by unfold evL; rw [if_pos b])) ?_
    rintro v h2 ⟨f2, g2⟩
    refine Wp_ret ⟨f2.v1, f2.tx x, f2.2.2.1 0 (by omega) (by omega) (by omega) (by omega) (by omega) (by omega), f2.2.2.1 1 (by omega) (by omega) (by omega) (by omega) (by omega) (by omega), g2, fun e => ?_⟩
    have e0 : evL T L n p = .inl (1 + 16 * (tB T L p : Nat)) := by unfold evL; rw [if_pos b]
    rw [e0] at g2
    rw [g2.1] at e
    cases e
  have one : ∀ a : Nat, a ≤ 3 → tWx T L p = (a : Int) + 16 → Wp (Mo_readsLine_b57 N (iv a) 92 h) (fun v h2 => FrV1 h h2 ∧ TxM T L h2 ∧ hI h2 92 0 = hI h 92 0 ∧ hI h2 92 1 = hI h 92 1 ∧ GdM T L (evL T L n p) v h2 ∧ (v = true → ScM (n + 1) (up1 A n (tWx T L p)) (up1 B n (evZ T L p)) h2)) := by
    intro a ha ea
    unfold Mo_readsLine_b57
    rw [il0, il2]
    refine Wp_ifp (by rw [iv_le (by omega) (by omega) (by omega) (by omega)]; omega) (Wp_ck (by rw [k92 s0]) (Wp_bn (p92_32 s0) (Wp_ck (by rw [k113 s0]) (Wp_ck (by rw [k113 s0]; decide) ?_))))
    rw [show ix 5 = 5 from rfl, c.1, show (60 : Int32) = iv 60 from iv_lit _]
    refine Wp_if (fun c1 => ?_) (fun c1 => ?_)
    · rw [iv_eq (by omega) (by omega) (by omega) (by omega)] at c1
      have e0 : evL T L n p = .inl (5 + 16 * (tB T L p : Nat)) := by unfold evL; rw [if_neg (by omega), if_pos (by omega)]
      rw [show (5 : Int32) = iv 5 from iv_lit _]
      refine Wp_bd2 (failR (r := evL T L n p) x s hp (by omega) e0) ?_
      rintro v h2 ⟨f2, g2⟩
      refine Wp_ret ⟨f2.v1, f2.tx x, f2.2.2.1 0 (by omega) (by omega) (by omega) (by omega) (by omega) (by omega), f2.2.2.1 1 (by omega) (by omega) (by omega) (by omega) (by omega) (by omega), g2, fun e => ?_⟩
      rw [e0] at g2
      rw [g2.1] at e
      cases e
    · rw [iv_eq (by omega) (by omega) (by omega) (by omega)] at c1
      have e0 : evL T L n p = evN T L p := by unfold evL; rw [if_neg (by omega), if_neg (by omega)]
      rw [e0]
      refine Wp_bd2 (nextR hN x s hp) ?_
      rintro - h1 ⟨f1, l1⟩
      have x1 := f1.tx x
      have te := tE_le (T := T) hp
      have last : ∀ (h2 : PH) (p2 : Nat), FrV1 h h2 → TxM T L h2 → hI h2 92 0 = hI h 92 0 → hI h2 92 1 = hI h 92 1 → LexM T L p2 h2 → p2 ≤ L → hI h2 113 5 = iv n → (∀ i, i < n → hI h2 114 (300 + i) = iv (A i - 16) ∧ (A i ≤ 17 → hI h2 115 (300 + i) = iv (B i))) → (a ≤ 1 → hI h2 115 (300 + n) = iv (evZ T L p)) → evN T L p = sgnR T L 59 (.inr p2) → Wp (Mo_readsLine_b124 N 92 (iv a) h2) (fun v h2 => FrV1 h h2 ∧ TxM T L h2 ∧ hI h2 92 0 = hI h 92 0 ∧ hI h2 92 1 = hI h 92 1 ∧ GdM T L (evN T L p) v h2 ∧ (v = true → ScM (n + 1) (up1 A n (tWx T L p)) (up1 B n (evZ T L p)) h2)) := by
        intro h2 p2 f2 x2 z0 z1 l2 hp2 c5 cc cz eN
        unfold Mo_readsLine_b124
        refine Wp_ck (by rw [k92 x2.1]) (Wp_bn (p92_32 x2.1) (Wp_ck (by rw [k113 x2.1]) (Wp_ck (by rw [k113 x2.1]; decide) (Wp_bn (p92_33 x2.1) (Wp_ck (by rw [k114 x2.1]) ?_)))))
        rw [show ix 5 = 5 from rfl, c5, show (300 : Int32) = iv 300 from iv_lit _, iv_add, show ((300 : Int) + (n : Int)) = ((300 + n : Nat) : Int) from by omega, ix_nat (by omega)]
        refine Wp_ck (by rw [k114 x2.1]; exact inb_iv (by omega) (by omega) (by omega)) (Wp_lt ?_)
        have f3 : FrV1 h (wI h2 114 (300 + n) (iv a)) := f2.w (by omega)
        have x3 := (FrV1.rf.w (a := 114) (i := 300 + n) (v := iv a) (by omega)).tx x2 (by rw [hI_wI, if_neg (by omega)])
        refine Wp_bn (p92_32 x3.1) (Wp_ck (by rw [k113 x3.1]) (Wp_ck (by rw [k113 x3.1]; decide) (Wp_ck (by rw [k113 x3.1]; decide) (Wp_lt ?_))))
        rw [show hI (wI h2 114 (300 + n) (iv a)) 113 5 = iv n from by rw [hI_wI, if_neg (by omega)]; exact c5, il1, iv_add]
        have f4 : FrV1 h (wI (wI h2 114 (300 + n) (iv a)) 113 5 (iv ((n : Int) + 1))) := f3.w (by omega)
        have x4 := (FrV1.rf.w (a := 113) (i := 5) (v := iv ((n : Int) + 1)) (by omega)).tx x3 (by rw [hI_wI, if_neg (by omega)])
        have l4 : LexM T L p2 (wI (wI h2 114 (300 + n) (iv a)) 113 5 (iv ((n : Int) + 1))) := (l2.w (by omega)).w (by omega)
        have c4 : ScM (n + 1) (up1 A n (tWx T L p)) (up1 B n (evZ T L p)) (wI (wI h2 114 (300 + n) (iv a)) 113 5 (iv ((n : Int) + 1))) := by
          refine ⟨by rw [hI_wI, if_pos ⟨rfl, rfl⟩]; rfl, fun i hi => ?_⟩
          unfold up1
          by_cases e : i = n
          · subst e
            rw [if_pos rfl, if_pos rfl]
            refine ⟨?_, fun z => ?_⟩
            · rw [hI_wI, if_neg (by omega), hI_wI, if_pos ⟨rfl, rfl⟩, ea]
              congr 1
              omega
            · rw [hI_wI, if_neg (by omega), hI_wI, if_neg (by omega)]
              exact cz (by omega)
          · rw [if_neg e, if_neg e]
            refine ⟨?_, fun z => ?_⟩
            · rw [hI_wI, if_neg (by omega), hI_wI, if_neg (by omega)]
              exact (cc i (by omega)).1
            · rw [hI_wI, if_neg (by omega), hI_wI, if_neg (by omega)]
              exact (cc i (by omega)).2 z
        have z04 : hI (wI (wI h2 114 (300 + n) (iv a)) 113 5 (iv ((n : Int) + 1))) 92 0 = hI h 92 0 := by rw [hI_wI, if_neg (by omega), hI_wI, if_neg (by omega), z0]
        have z14 : hI (wI (wI h2 114 (300 + n) (iv a)) 113 5 (iv ((n : Int) + 1))) 92 1 = hI h 92 1 := by rw [hI_wI, if_neg (by omega), hI_wI, if_neg (by omega), z1]
        rw [eN]
        refine Wp_bd2 (closesM hN x4 l4 hp2) ?_
        rintro v h5 ⟨f5, g5⟩
        exact Wp_ret ⟨f4.tr f5.v1, f5.tx x4, (f5.2.2.1 0 (by omega) (by omega) (by omega) (by omega) (by omega) (by omega)).trans z04, (f5.2.2.1 1 (by omega) (by omega) (by omega) (by omega) (by omega) (by omega)).trans z14, g5, fun _ => c4.fr f5⟩
      have q0 : ∀ {h3 : PH}, FrY h h3 → hI h3 92 0 = hI h 92 0 ∧ hI h3 92 1 = hI h 92 1 := fun f => ⟨f.2.2.1 0 (by omega) (by omega) (by omega) (by omega) (by omega) (by omega), f.2.2.1 1 (by omega) (by omega) (by omega) (by omega) (by omega) (by omega)⟩
      refine Wp_if (fun c2 => ?_) (fun c2 => ?_)
      · rw [iv_le (by omega) (by omega) (by omega) (by omega)] at c2
        have c1' := c.fr f1.y
        exact last h1 _ f1.y.v1 x1 (q0 f1.y).1 (q0 f1.y).2 l1 te c1'.1 c1'.2 (fun z => by omega) (by unfold evN; rw [if_neg (by omega)])
      · rw [iv_le (by omega) (by omega) (by omega) (by omega)] at c2
        refine Wp_ck (by rw [k92 x1.1]) ?_
        rw [show (4 : Int32) = iv 4 from iv_lit _]
        refine Wp_bd2 (needsNumM hN x1 l1 te (by omega) (by omega)) ?_
        rintro v h2 ⟨f2, g2, n2⟩
        have x2 := f2.tx x1
        have eN : evN T L p = sgnR T L 59 (numP T L 0 4 (.inr (tE T L p))) := by unfold evN; rw [if_pos (by omega)]
        have eZ : evZ T L p = numZ T L 0 4 (.inr (tE T L p)) := by unfold evZ; rw [if_pos (by omega)]
        generalize eq : numP T L 0 4 (.inr (tE T L p)) = q at g2 eN
        rw [← il0]
        simp only [bI_0]
        cases q with
        | inl f =>
          obtain ⟨v1, g21, g22⟩ := g2
          refine Wp_ifp v1 (Wp_ret ⟨f1.y.v1.tr f2.v1, x2, (q0 (f1.y.tr f2)).1, (q0 (f1.y.tr f2)).2, ?_, fun e => by cases e⟩)
          rw [eN]
          exact ⟨rfl, g21, g22⟩
        | inr p2 =>
          obtain ⟨v1, l2, hp2⟩ := g2
          have n2' := n2 v1
          have c2' := c.fr (f1.y.tr f2)
          refine Wp_ifn (by rw [v1]; decide) (Wp_ck (by rw [k92 x2.1]) (Wp_bn (p92_32 x2.1) (Wp_ck (by rw [k113 x2.1]) (Wp_ck (by rw [k113 x2.1]; decide) (Wp_bn (p92_34 x2.1) (Wp_ck (by rw [k115 x2.1]) ?_))))))
          rw [c2'.1, n2'.1, show (300 : Int32) = iv 300 from iv_lit _, iv_add, show ((300 : Int) + (n : Int)) = ((300 + n : Nat) : Int) from by omega, ix_nat (by omega)]
          refine Wp_ck (by rw [k115 x2.1]; exact inb_iv (by omega) (by omega) (by omega)) (Wp_lt ?_)
          have f3 : FrV1 h (wI h2 115 (300 + n) (iv (numZ T L 0 4 (.inr (tE T L p))))) := (f1.y.tr f2).v1.w (by omega)
          have x3 := (FrV1.rf.w (a := 115) (i := 300 + n) (v := iv (numZ T L 0 4 (.inr (tE T L p)))) (by omega)).tx x2 (by rw [hI_wI, if_neg (by omega)])
          refine last _ p2 f3 x3 ?_ ?_ (l2.w (by omega)) hp2 ?_ (fun i hi => ⟨?_, fun z => ?_⟩) (fun _ => ?_) eN
          · rw [hI_wI, if_neg (by omega)]; exact (q0 (f1.y.tr f2)).1
          · rw [hI_wI, if_neg (by omega)]; exact (q0 (f1.y.tr f2)).2
          · rw [hI_wI, if_neg (by omega)]; exact c2'.1
          · rw [hI_wI, if_neg (by omega)]; exact (c2'.2 i hi).1
          · rw [hI_wI, if_neg (by omega)]; exact (c2'.2 i hi).2 z
          · rw [hI_wI, if_pos ⟨rfl, rfl⟩, eZ]
  unfold Mo_readsLine
  refine Wp_ck (by rw [k92 s0]) (Wp_bde (isWordM (i := 16) x s (by omega) (by rw [kl.2.2.2.2.2.2.2.2.2.2.2.2.2.2.2.2.1]; exact jv_lit _)) ?_)
  simp only [bI_0]
  by_cases w1 : tWx T L p = (16 : Nat)
  · rw [decide_eq_true w1]
    exact Wp_ifn (by decide) (one 0 (by omega) (by omega))
  rw [decide_eq_false w1]
  refine Wp_ifp rfl (Wp_ck (by rw [k92 s0]) (Wp_bde (isWordM (i := 17) x s (by omega) (by rw [kl.2.2.2.2.2.2.2.2.2.2.2.2.2.2.2.2.2.1]; exact jv_lit _)) ?_))
  by_cases w2 : tWx T L p = (17 : Nat)
  · rw [decide_eq_true w2]
    exact Wp_ifn (by decide) (one 1 (by omega) (by omega))
  rw [decide_eq_false w2]
  refine Wp_ifp (by decide) (Wp_ck (by rw [k92 s0]) (Wp_bde (isWordM (i := 18) x s (by omega) (by rw [kl.2.2.2.2.2.2.2.2.2.2.2.2.2.2.2.2.2.2.1]; exact jv_lit _)) ?_))
  by_cases w3 : tWx T L p = (18 : Nat)
  · rw [decide_eq_true w3]
    exact Wp_ifn (by decide) (one 2 (by omega) (by omega))
  rw [decide_eq_false w3]
  refine Wp_ifp (by decide) (Wp_ck (by rw [k92 s0]) (Wp_bde (isWordM (i := 19) x s (by omega) (by rw [kl.2.2.2.2.2.2.2.2.2.2.2.2.2.2.2.2.2.2.2.1]; exact jv_lit _)) ?_))
  by_cases w4 : tWx T L p = (19 : Nat)
  · rw [decide_eq_true w4]
    exact Wp_ifn (by decide) (one 3 (by omega) (by omega))
  rw [decide_eq_false w4]
  exact Wp_ifp (by decide) (other (by omega))
