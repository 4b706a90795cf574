/-! THE PURE PROOFS, 22: READ, the class's tell. -/
theorem FrH.r1 {a : Nat} {h0 h : PH} {i : Nat} {v : Option Nat} (f : FrH (fun b => b = a) h0 h) (np : ∀ q ∈ PL, ¬ (q.1.1 = a ∧ q.1.2 = i)) : FrH (fun b => b = a) h0 (wR h a i v) := f.aR rfl np
theorem RdK.sw {H : Nat → Int} {bf af lb la : Nat} (k : RdK H bf af lb la) : RdK H af bf la lb := by
  obtain ⟨z1, z2, z3, z4, k5, k6, k7, k8, k9, k10, k11, k12, k13⟩ := k
  exact ⟨z2, z1, z4, z3, k6, k5, fun e => k7 e.symm, k11, k12, k13, k8, k9, k10⟩
theorem tell89 {N : Nat} {H C : Nat → Int} {E : Int → Int → Int → Int → Int → Int} {hb : Int} {Qn : Nat} (hN0 : 24000 ≤ N) (ho : HOK H C) (eo : EOK E) (hhb : 0 ≤ hb ∧ hb < H 15) (hQ : (Qn : Int) ≤ H 0) {h0 : PH} {b0 a0 : Nat} (hn : 127 ≤ hN h0) (lb0 : b0 < hN h0) (la0 : a0 < hN h0) : ∀ (m q : Nat) (bf af lb la : Nat) (h : PH), q + m = Qn → ((bf = b0 ∧ af = a0) ∨ (bf = a0 ∧ af = b0)) → RdK H bf af lb la → RdC N H C E bf af lb la h → FrH (S49 b0 a0) h0 h → hN h = hN h0 → hS h = hS h0 → RowD H (wdH H) (Dq H C E hb q) af h → ∀ fuel, m < fuel → Wp (Rd_tell_b89 N fuel 49 (iv hb) (iv Qn) (iv (ndH H)) (iv q) h) (fun _ h2 => ∃ bf2 af2 lb2 la2, ((bf2 = b0 ∧ af2 = a0) ∨ (bf2 = a0 ∧ af2 = b0)) ∧ ((bf2 = bf ∧ lb2 = lb ∧ la2 = la) ∨ (bf2 = af ∧ lb2 = la ∧ la2 = lb)) ∧ RdK H bf2 af2 lb2 la2 ∧ RdC N H C E bf2 af2 lb2 la2 h2 ∧ FrH (S49 b0 a0) h0 h2 ∧ hN h2 = hN h0 ∧ hS h2 = hS h0 ∧ RowD H (wdH H) (Dq H C E hb Qn) af2 h2) := by
  intro m
  have h01 := ho.1
  have nb := nd_b ho
  induction m with
  | zero =>
    intro q bf af lb la h e pp mk x fr n1 m1 row fuel hf
    obtain ⟨fu, rfl⟩ : ∃ fu, fuel = fu + 1 := ⟨fuel - 1, by omega⟩
    have eq : q = Qn := by omega
    subst eq
    rw [Rd_tell_b89]
    exact Wp_ifp (by rw [iv_le (by omega) (by omega) (by omega) (by omega)]; omega) (Wp_ret ⟨bf, af, lb, la, pp, Or.inl ⟨rfl, rfl, rfl⟩, mk, x, fr, n1, m1, row⟩)
  | succ m ih =>
    intro q bf af lb la h e pp mk x fr n1 m1 row fuel hf
    obtain ⟨fu, rfl⟩ : ∃ fu, fuel = fu + 1 := ⟨fuel - 1, by omega⟩
    have mk0 := mk
    have mks := mk.sw
    obtain ⟨z1, z2, z3, z4, k5, k6, k7, k8, k9, k10', k11, k12, k13⟩ := mk
    obtain ⟨s, hs, hl, r3, r4, e3, e4, i2⟩ := x
    have dk := Dq_ok ho eo (hb := hb) q (by omega)
    have f1 : FrH (fun b => b = 49) h (wR (wR h 49 3 (some af)) 49 4 (some bf)) := (FrH.rf.r1 (fun q hq e => np49 q hq ⟨e.1, Or.inl e.2⟩)).r1 (fun q hq e => np49 q hq ⟨e.1, Or.inr e.2⟩)
    have s1 := f1.1 s
    have x1 : RdC N H C E af bf la lb (wR (wR h 49 3 (some af)) 49 4 (some bf)) := by
      refine ⟨s1, hs.frH f1 (by omega) (by omega) (by omega) (by omega) (by omega), hl.frH f1 (by omega) (by omega) (by omega) (by omega), ?_, ?_, e4, e3, i2⟩
      · rw [hR_wR, if_neg (by omega), hR_wR, if_pos ⟨rfl, rfl⟩]
      · rw [hR_wR, if_pos ⟨rfl, rfl⟩]
    have row1 : RowD H (wdH H) (Dq H C E hb q) af (wR (wR h 49 3 (some af)) 49 4 (some bf)) := row
    have n2 : hN (wR (wR h 49 3 (some af)) 49 4 (some bf)) = hN h0 := n1
    have m2 : hS (wR (wR h 49 3 (some af)) 49 4 (some bf)) = hS h0 := m1
    rw [Rd_tell_b89]
    refine Wp_ifn (by rw [iv_le (by omega) (by omega) (by omega) (by omega)]; omega) (Wp_ck (by rw [k49 s]) ?_)
    rw [r4]
    refine Wp_lt (Wp_lt ?_)
    rw [r3]
    generalize wR (wR h 49 3 (some af)) 49 4 (some bf) = h1 at f1 s1 x1 row1 n2 m2 ⊢
    have x1' := x1
    obtain ⟨-, hs1, hl1, r31, r41, e31, e41, i21⟩ := x1
    rw [r41]
    refine Wp_bd2 (clearL (by omega) e41 z1 z3) ?_
    rintro - h2 ⟨f2, c2⟩
    have f2s : FrI (SRd af bf) h1 h2 := f2.up (fun b eb => Or.inr (Or.inr eb))
    have x2 := x1'.fr mks f2s
    refine Wp_ck (by rw [k49 x2.1]) ?_
    refine Wp_bd2 (spreadL (by omega) ho eo hhb mks (q := q) (by omega) dk x2 (fun t2 n2 w2 b0 b1 b2 => (f2.I (by omega) _).trans (row1 t2 n2 w2 b0 b1 b2)) (fun t2 n2 w2 b0 b1 b2 => c2 _ (pR_b b0 b1 b2))) ?_
    rintro - h3 ⟨f3, r3a⟩
    have f3s : FrI (SRd af bf) h2 h3 := f3.up (fun b eb => by unfold S46 at eb; unfold SRd; omega)
    have x3 := x2.fr mks f3s
    rw [il0]
    refine tell133 hN0 ho mks (by omega) dk x3 r3a (fun h4 f4 r4a => ?_)
    have f4s : FrI (SRd af bf) h3 h4 := f4.up (fun b eb => Or.inr (Or.inr eb))
    have fall : FrI (SRd af bf) h1 h4 := f2s.tr (f3s.tr f4s)
    have r := ih (q + 1) af bf la lb h4 (by omega) (by omega) mks (x1'.fr mks fall) (fr.tr ((f1.up (fun b _ eb => by unfold S49; omega)).tr (fall.h.up (fun b _ eb => by unfold SRd at eb; unfold S49; omega)))) (by unfold hN at n2 ⊢; rw [fall.1]; exact n2) (by unfold hS at m2 ⊢; rw [fall.1]; exact m2) r4a fu (by omega)
    rw [show ((q + 1 : Nat) : Int) = (q : Int) + 1 from by omega] at r
    refine Wp_mono r ?_
    rintro - h5 ⟨bf2, af2, lb2, la2, p1, p2, p3⟩
    exact ⟨bf2, af2, lb2, la2, p1, by omega, p3⟩
/-- a Readings between its askings -/
def RdP (bf af lb la : Nat) (h : PH) : Prop := hR h 49 3 = some bf ∧ hR h 49 4 = some af ∧ hK h bf = (20, lb) ∧ hK h af = (20, la) ∧ lb ≤ 75504 ∧ la ≤ 75504 ∧ (bf < 10 ∨ 15 < bf) ∧ (af < 10 ∨ 15 < af) ∧ bf ≠ af ∧ bf ≠ 45 ∧ bf ≠ 46 ∧ bf ≠ 49 ∧ af ≠ 45 ∧ af ≠ 46 ∧ af ≠ 49 ∧ bf < hN h ∧ af < hN h ∧ 127 ≤ hN h
theorem RdP.frH {bf af lb la : Nat} {h h2 : PH} {S : Nat → Prop} (p : RdP bf af lb la h) (f : FrH S h h2) (n0 : ¬ S 49) : RdP bf af lb la h2 := by
  obtain ⟨r3, r4, e3, e4, l1, l2, d1, d2, d3, d4, d5, d6, d7, d8, d9, x1, x2, hn⟩ := p
  refine ⟨?_, ?_, ?_, ?_, l1, l2, d1, d2, d3, d4, d5, d6, d7, d8, d9, Nat.lt_of_lt_of_le x1 f.2.1, Nat.lt_of_lt_of_le x2 f.2.1, Nat.le_trans hn f.2.1⟩
  · rw [f.R (by omega) n0]; exact r3
  · rw [f.R (by omega) n0]; exact r4
  · rw [f.2.2.2.1 bf x1]; exact e3
  · rw [f.2.2.2.1 af x2]; exact e4
def RdStep (bf af lb la : Nat) (h h2 : PH) : Prop := ∃ bf2 af2 lb2 la2, FrH (S49 bf af) h h2 ∧ RdP bf2 af2 lb2 la2 h2 ∧ (bf2 = bf ∨ bf2 = af ∨ hN h ≤ bf2) ∧ (af2 = bf ∨ af2 = af ∨ hN h ≤ af2) ∧ hN h2 ≤ hN h + 2 ∧ hS h2 + phi lb + phi la ≤ hS h + phi lb2 + phi la2
theorem tellL {N : Nat} {H C : Nat → Int} {E : Int → Int → Int → Int → Int → Int} {hb : Int} {Qn : Nat} {bf af lb la : Nat} {h : PH} (hN0 : 24000 ≤ N) (ho : HOK H C) (eo : EOK E) (hhb : 0 ≤ hb ∧ hb < H 15) (hQ : (Qn : Int) ≤ H 0) (s : Shp h) (hs : HsL 10 H C h) (hl : HabL N H E h) (p : RdP bf af lb la h) : Wp (Rd_tell N 49 (iv hb) (iv Qn) h) (fun _ h2 => ∃ bf2 af2 lb2 la2, RdC N H C E bf2 af2 lb2 la2 h2 ∧ RdK H bf2 af2 lb2 la2 ∧ RowD H (wdH H) (Dq H C E hb Qn) af2 h2 ∧ RdStep bf af lb la h h2) := by
  obtain ⟨r3, r4, e3, e4, l1, l2, d1, d2, d3, d4, d5, d6, d7, d8, d9, x1, x2, hn⟩ := p
  have h01 := ho.1
  have h11 := ho.2.1
  have nb := nd_b ho
  have g1 : FrI (fun b => b = 49) h (wI h 49 2 (iv (wdH H : Nat))) := FrI.rf.w1
  have ew : H 0 * 4 + 1 = ((wdH H : Nat) : Int) := by unfold wdH; omega
  have s1 := g1.shp s
  have hs1 : HsL 10 H C (wI h 49 2 (iv (wdH H : Nat))) := hs.fr g1.s (by omega) (by omega) (by omega) (by omega)
  have f1 : FrH (S49 bf af) h (wI h 49 2 (iv (wdH H : Nat))) := g1.h.up (fun b _ e => Or.inr (Or.inl e))
  unfold Rd_tell
  refine Wp_ck (by rw [k49 s]) (Wp_bn (p49_0 s) (Wp_ck (by rw [k10 s]) ?_))
  rw [hs.1]
  simp only [il4, il1, il2, il0, iv_mul, iv_add]
  rw [ew]
  refine Wp_lt ?_
  have en : (H 1 + 1) * ((wdH H : Nat) : Int) * 2 = ((ndH H : Nat) : Int) := by
    unfold ndH
    simp only [Int.natCast_mul, Int.natCast_add]
    rw [show (((H 1).toNat : Nat) : Int) = H 1 from by omega]
    rfl
  have i2 : hI (wI h 49 2 (iv (wdH H : Nat))) 49 2 = iv (wdH H : Nat) := by simp [hI_wI]
  have r31 : hR (wI h 49 2 (iv (wdH H : Nat))) 49 3 = some bf := r3
  have r41 : hR (wI h 49 2 (iv (wdH H : Nat))) 49 4 = some af := r4
  have e31 : hK (wI h 49 2 (iv (wdH H : Nat))) bf = (20, lb) := e3
  have e41 : hK (wI h 49 2 (iv (wdH H : Nat))) af = (20, la) := e4
  have n1 : hN (wI h 49 2 (iv (wdH H : Nat))) = hN h := rfl
  have m1 : hS (wI h 49 2 (iv (wdH H : Nat))) = hS h := rfl
  generalize wI h 49 2 (iv (wdH H : Nat)) = h1 at g1 s1 hs1 f1 i2 r31 r41 e31 e41 n1 m1 ⊢
  refine Wp_bn (p49_0 s1) (Wp_ck (by rw [k10 s1]) ?_)
  rw [hs1.2.1, i2, r31]
  simp only [iv_mul, iv_add]
  rw [en]
  refine Wp_bd2 (roomW e31 l1 (by omega) (by omega) (by omega)) ?_
  rintro - h2 ⟨b2, lb2, rfl, e32, z1, z2, f2, n2, y2, t2, c2⟩
  have hN2 := f2.2.1
  refine Wp_ck (by rw [f2.2.2.2.1 49 (by omega), k49 s1]) (Wp_lt ?_)
  have f3 : FrH (S49 bf af) h (wR h2 49 3 (some b2)) := f1.tr ((f2.up (fun b _ e => e.elim)).aR (Or.inr (Or.inl rfl)) (fun q hq e => np49 q hq ⟨e.1, Or.inl e.2⟩))
  have s3 := f3.1 s
  have r43 : hR (wR h2 49 3 (some b2)) 49 4 = some af := by rw [hR_wR, if_neg (by omega), f2.R (by omega) (fun e => e)]; exact r41
  have r33 : hR (wR h2 49 3 (some b2)) 49 3 = some b2 := by rw [hR_wR, if_pos ⟨rfl, rfl⟩]
  have e33 : hK (wR h2 49 3 (some b2)) b2 = (20, lb2) := e32
  have e43 : hK (wR h2 49 3 (some b2)) af = (20, la) := by rw [hK_wR, f2.2.2.2.1 af (by omega)]; exact e41
  have i3 : hI (wR h2 49 3 (some b2)) 49 2 = iv (wdH H : Nat) := by rw [hI_wR, f2.I (by omega) (fun e => e)]; exact i2
  have n3 : hN (wR h2 49 3 (some b2)) = hN h2 := rfl
  have m3 : hS (wR h2 49 3 (some b2)) = hS h2 := rfl
  generalize wR h2 49 3 (some b2) = h3 at f3 s3 r43 r33 e33 e43 i3 n3 m3 ⊢
  rw [r43]
  refine Wp_bd2 (roomW e43 l2 (by omega) (by omega) (by omega)) ?_
  rintro - h4 ⟨a2, la2, rfl, e44, z3, z4, f4, n4, y4, t4, c4⟩
  have hN4 := f4.2.1
  refine Wp_ck (by rw [f4.2.2.2.1 49 (by omega), k49 s3]) (Wp_lt ?_)
  have f5 : FrH (S49 bf af) h (wR h4 49 4 (some a2)) := f3.tr ((f4.up (fun b _ e => e.elim)).aR (Or.inr (Or.inl rfl)) (fun q hq e => np49 q hq ⟨e.1, Or.inr e.2⟩))
  have s5 := f5.1 s
  have r45 : hR (wR h4 49 4 (some a2)) 49 4 = some a2 := by rw [hR_wR, if_pos ⟨rfl, rfl⟩]
  have r35 : hR (wR h4 49 4 (some a2)) 49 3 = some b2 := by rw [hR_wR, if_neg (by omega), f4.R (by omega) (fun e => e)]; exact r33
  have e35 : hK (wR h4 49 4 (some a2)) b2 = (20, lb2) := by rw [hK_wR, f4.2.2.2.1 b2 (by omega)]; exact e33
  have e45 : hK (wR h4 49 4 (some a2)) a2 = (20, la2) := e44
  have i5 : hI (wR h4 49 4 (some a2)) 49 2 = iv (wdH H : Nat) := by rw [hI_wR, f4.I (by omega) (fun e => e)]; exact i3
  have n5 : hN (wR h4 49 4 (some a2)) = hN h4 := rfl
  have m5 : hS (wR h4 49 4 (some a2)) = hS h4 := rfl
  generalize wR h4 49 4 (some a2) = h5 at f5 s5 r45 r35 e35 e45 i5 n5 m5 ⊢
  have hs5 : HsL 10 H C h5 := hs.frH f5 (by omega) (by unfold S49; omega) (by unfold S49; omega) (by unfold S49; omega) (by unfold S49; omega)
  have hl5 : HabL N H E h5 := hl.frH f5 (by omega) (by unfold S49; omega) (by unfold S49; omega) (by unfold S49; omega)
  have pb2 : b2 = bf ∨ hN h ≤ b2 := by omega
  have pa2 : a2 = af ∨ hN h ≤ a2 := by omega
  have dba : b2 ≠ a2 := by omega
  have mk : RdK H b2 a2 lb2 la2 := ⟨by omega, by omega, z2, z4, by omega, by omega, dba, by omega, by omega, by omega, by omega, by omega, by omega⟩
  have x5 : RdC N H C E b2 a2 lb2 la2 h5 := ⟨s5, hs5, hl5, r35, r45, e35, e45, i5⟩
  rw [r45]
  refine Wp_bd2 (clearL (by omega) e45 (by omega) z4) ?_
  rintro - h6 ⟨f6, c6⟩
  have f6s : FrI (SRd b2 a2) h5 h6 := f6.up (fun b eb => Or.inr (Or.inr eb))
  have x6 := x5.fr mk f6s
  refine Wp_ck (by rw [k49 x6.1]) (Wp_bn (p49_0 x6.1) (Wp_ck (by rw [k10 x6.1]) ?_))
  rw [x6.2.1.2.1]
  have pl0 := rplace x6 (H 1).toNat 0 0
  rw [show (((H 1).toNat : Nat) : Int) = H 1 from by omega] at pl0
  refine Wp_bde pl0 ?_
  have pb := pR_b (wd := wdH H) (t := (H 1).toNat) (n := 0) (w := 0) (Nat.le_refl _) (by omega) (by omega)
  rw [x6.2.2.2.2.1]
  refine Wp_bde (put_in x6.2.2.2.2.2.2.1 (by omega) (by omega) (by unfold ndH at z3; omega)) ?_
  rw [Int.toNat_natCast, il1000000]
  have f7 : FrI (fun b => b = a2) h6 (wI h6 a2 (pR (wdH H) (H 1).toNat 0 0) (iv 1000000)) := FrI.rf.w1
  have f7s : FrI (SRd b2 a2) h6 (wI h6 a2 (pR (wdH H) (H 1).toNat 0 0) (iv 1000000)) := f7.up (fun b eb => Or.inr (Or.inr eb))
  have row7 : RowD H (wdH H) (Dq H C E hb 0) a2 (wI h6 a2 (pR (wdH H) (H 1).toNat 0 0) (iv 1000000)) := by
    intro t2 n2 w2 b0 b1 b2'
    rw [hI_wI]
    show _ = iv (D0 H t2 n2 w2)
    unfold D0
    by_cases c : t2 = (H 1).toNat ∧ n2 = 0 ∧ w2 = 0
    · rw [if_pos c, c.1, c.2.1, c.2.2, if_pos ⟨rfl, rfl⟩]
    · rw [if_neg c, if_neg ?_]
      · exact c6 _ (pR_b b0 b1 b2')
      · intro e
        exact c (pR_inj b1 b2' (by omega) (by omega) e.2)
  have f67 := f6s.tr f7s
  have n67 : hN (wI h6 a2 (pR (wdH H) (H 1).toNat 0 0) (iv 1000000)) = hN h5 := by unfold hN; rw [f67.1]
  have m67 : hS (wI h6 a2 (pR (wdH H) (H 1).toNat 0 0) (iv 1000000)) = hS h5 := by unfold hS; rw [f67.1]
  have r := tell89 hN0 ho eo hhb hQ (h0 := wI h6 a2 (pR (wdH H) (H 1).toNat 0 0) (iv 1000000)) (b0 := b2) (a0 := a2) (by omega) (by omega) (by omega) Qn 0 b2 a2 lb2 la2 _ (by omega) (Or.inl ⟨rfl, rfl⟩) mk (x6.fr mk f7s) FrH.rf rfl rfl row7 N (by omega)
  refine Wp_mono r ?_
  rintro - h8 ⟨bf3, af3, lb3, la3, p1, p2, mk3, x8, f8, n8, m8, row8⟩
  refine ⟨bf3, af3, lb3, la3, x8, mk3, row8, bf3, af3, lb3, la3, ?_, ?_, by omega, by omega, by omega, ?_⟩
  · refine ⟨fun s => f8.1 (f67.h.1 (f5.1 s)), ?_, ?_, fun b hb' => ?_, fun b hb' hS => ?_⟩
    · have := f5.2.1; have := f67.h.2.1; have := f8.2.1; omega
    · exact f8.2.2.1.trans (f67.h.2.2.1.trans f5.2.2.1)
    · have a := f5.2.2.2.1 b hb'
      have b' := f67.h.2.2.2.1 b (by have := f5.2.1; omega)
      have c := f8.2.2.2.1 b (by have := f5.2.1; have := f67.h.2.1; omega)
      exact c.trans (b'.trans a)
    · have a := f5.2.2.2.2 b hb' hS
      have b' := f67.h.2.2.2.2 b (by have := f5.2.1; omega) (by unfold S49 at hS; unfold SRd; omega)
      have c := f8.2.2.2.2 b (by have := f5.2.1; have := f67.h.2.1; omega) (by unfold S49 at hS ⊢; omega)
      exact ⟨c.1.trans (b'.1.trans a.1), c.2.1.trans (b'.2.1.trans a.2.1), c.2.2.1.trans (b'.2.2.1.trans a.2.2.1), c.2.2.2.trans (b'.2.2.2.trans a.2.2.2)⟩
  · obtain ⟨w1, w2, w3, w4, w5, w6, w7, w8, w9, w10, w11, w12, w13⟩ := mk3
    obtain ⟨v1, v2, v3, v4, v5, v6, v7, v8⟩ := x8
    exact ⟨v4, v5, v6, v7, w3, w4, w5, w6, w7, w8, w9, w10, w11, w12, w13, by omega, by omega, by omega⟩
  · rcases p2 with ⟨-, rfl, rfl⟩ | ⟨-, rfl, rfl⟩ <;> omega
theorem partL {N : Nat} {H C : Nat → Int} {E : Int → Int → Int → Int → Int → Int} {q : Nat} {bf af lb la : Nat} {D : Nat → Nat → Nat → Int} {t n : Nat} {h : PH} (ho : HOK H C) (mk : RdK H bf af lb la) (dk : DOK H q D) (ht : t ≤ 120) (hn : n < wdH H) (x : RdC N H C E bf af lb la h) (row : RowD H (wdH H) D af h) : Rd_partOf N 49 (iv t) (iv n) h = some (iv (D t n 0 + D t n 1), h) := by
  have h11 := ho.2.1
  have nb := nd_b ho
  obtain ⟨z1, z2, z3, z4, -⟩ := mk
  obtain ⟨s, hs, hl, r3, r4, e3, e4, i2⟩ := x
  unfold Rd_partOf
  rw [ck_p (by rw [k49 s]), p49_0 s, bn_s, ck_p (by rw [k10 s]), hs.2.1, il0, il1]
  simp only [show (iv (t : Int) ≤ iv (H 1)) ↔ (t : Int) ≤ H 1 from iv_le (by omega) (by omega) (by omega) (by omega)]
  by_cases c : (t : Int) ≤ H 1
  · have pb0 := pR_b (wd := wdH H) (t := t) (n := n) (w := 0) (T := (H 1).toNat) (by omega) hn (by omega)
    have pb1 := pR_b (wd := wdH H) (t := t) (n := n) (w := 1) (T := (H 1).toNat) (by omega) hn (by omega)
    have p0 := rplace (N := N) (H := H) (C := C) (E := E) (h := h) ⟨s, hs, hl, r3, r4, e3, e4, i2⟩ t n 0
    have p1 := rplace (N := N) (H := H) (C := C) (E := E) (h := h) ⟨s, hs, hl, r3, r4, e3, e4, i2⟩ t n 1
    have p0' : Rd_placeOf N 49 (iv t) (iv n) (iv 0) h = some (iv (pR (wdH H) t n 0 : Nat), h) := p0
    have p1' : Rd_placeOf N 49 (iv t) (iv n) (iv 1) h = some (iv (pR (wdH H) t n 1 : Nat), h) := p1
    rw [if_pos c, p0', bd_s, r4, at_in e4 (by omega) (by omega) (by unfold ndH at z2; omega), bd_s, ck_p (by rw [k49 s]), p1', bd_s, r4, at_in e4 (by omega) (by omega) (by unfold ndH at z2; omega), bd_s, Int.toNat_natCast, Int.toNat_natCast, row t n 0 (by omega) hn (by omega), row t n 1 (by omega) hn (by omega), iv_add]
  · rw [if_neg c, dk.2.1 t n 0 (by omega), dk.2.1 t n 1 (by omega)]
    rfl
theorem rdS_all {H : Nat → Int} {q : Nat} {D : Nat → Nat → Nat → Int} {t : Nat} (dk : DOK H q D) (m : Nat) (h1 : 4 * q < m) (h2 : m ≤ 97) : rdS D t 97 = rdS D t m := by
  unfold rdS
  refine SS_cut 97 h2 (fun n hn _ => ?_)
  rw [dk.2.1 t n 0 (by omega), dk.2.1 t n 1 (by omega)]
  rfl
theorem rdB_nn {D : Nat → Nat → Nat → Int} {t : Nat} (d : ∀ t n w, 0 ≤ D t n w) : ∀ m, 0 ≤ (rdB D t m).2
  | 0 => Int.le_refl _
  | m + 1 => by
    have := rdB_nn d m (t := t)
    rw [rdB]
    split
    · have a := d t m 0
      have b := d t m 1
      show 0 ≤ D t m 0 + D t m 1
      omega
    · exact this
theorem rdB_all {H : Nat → Int} {q : Nat} {D : Nat → Nat → Nat → Int} {t : Nat} (dk : DOK H q D) (m : Nat) (h1 : 4 * q < m) : ∀ k, rdB D t (m + k) = rdB D t m
  | 0 => rfl
  | k + 1 => by
    have e : D t (m + k) 0 + D t (m + k) 1 = 0 := by
      rw [dk.2.1 t (m + k) 0 (by omega), dk.2.1 t (m + k) 1 (by omega)]
      rfl
    have nn := rdB_nn dk.1 (t := t) (m + k)
    show rdB D t ((m + k) + 1) = _
    rw [rdB, if_neg (by omega)]
    exact rdB_all dk m h1 k
theorem two_b {H : Nat → Int} {q : Nat} {D : Nat → Nat → Nat → Int} {t n : Nat} (dk : DOK H q D) (ht : t ≤ 120) (hn : n < 97) : 0 ≤ D t n 0 + D t n 1 ∧ D t n 0 + D t n 1 ≤ 2000000 := by
  have a := place_le_mass dk.1 (t := t) (n := n) (w := 0) (by omega) hn (by omega)
  have b := place_le_mass dk.1 (t := t) (n := n) (w := 1) (by omega) hn (by omega)
  have c := dk.1 t n 0
  have d := dk.1 t n 1
  have := dk.2.2
  omega
theorem chanceL {N : Nat} {H C : Nat → Int} {E : Int → Int → Int → Int → Int → Int} {q : Nat} {bf af lb la : Nat} {D : Nat → Nat → Nat → Int} {t : Nat} {h : PH} (hN : 200 ≤ N) (ho : HOK H C) (mk : RdK H bf af lb la) (dk : DOK H q D) (hq : (q : Int) ≤ H 0) (ht : t ≤ 120) (x : RdC N H C E bf af lb la h) (row : RowD H (wdH H) D af h) : Rd_chanceOf N 49 (iv t) h = some (iv (rdS D t 97), h) := by
  have h01 := ho.1
  have nb := nd_b ho
  have key : ∀ (m n : Nat), n + m = wdH H → ∀ fuel, m < fuel → Rd_chanceOf_b4 N fuel 49 (iv t) (iv (rdS D t n)) (iv n) h = some (iv (rdS D t (wdH H)), h) := by
    intro m
    induction m with
    | zero =>
      intro n e fuel hf
      obtain ⟨fu, rfl⟩ : ∃ fu, fuel = fu + 1 := ⟨fuel - 1, by omega⟩
      rw [Rd_chanceOf_b4]
      dsimp only
      rw [ck_p (by rw [k49 x.1]), x.2.2.2.2.2.2.2, if_pos (by rw [iv_le (by omega) (by omega) (by omega) (by omega)]; omega), show wdH H = n from by omega]
    | succ m ih =>
      intro n e fuel hf
      obtain ⟨fu, rfl⟩ : ∃ fu, fuel = fu + 1 := ⟨fuel - 1, by omega⟩
      rw [Rd_chanceOf_b4]
      dsimp only
      rw [ck_p (by rw [k49 x.1]), x.2.2.2.2.2.2.2, if_neg (by rw [iv_le (by omega) (by omega) (by omega) (by omega)]; omega), partL ho mk dk ht (by omega) x row, bd_s, iv_add, il1, iv_add]
      have r := ih (n + 1) (by omega) fu (by omega)
      rw [show ((n + 1 : Nat) : Int) = (n : Int) + 1 from by omega] at r
      exact r
  unfold Rd_chanceOf
  rw [il0, rdS_all dk (wdH H) (by unfold wdH; omega) nb.1]
  exact key (wdH H) 0 (by omega) N (by omega)
theorem likeliestL {N : Nat} {H C : Nat → Int} {E : Int → Int → Int → Int → Int → Int} {q : Nat} {bf af lb la : Nat} {D : Nat → Nat → Nat → Int} {t : Nat} {h : PH} (hN : 200 ≤ N) (ho : HOK H C) (mk : RdK H bf af lb la) (dk : DOK H q D) (hq : (q : Int) ≤ H 0) (ht : t ≤ 120) (x : RdC N H C E bf af lb la h) (row : RowD H (wdH H) D af h) : Rd_likeliest N 49 (iv t) h = some (iv (rdB D t 97).1, h) := by
  have h01 := ho.1
  have nb := nd_b ho
  have bb : ∀ n, n ≤ 97 → 0 ≤ (rdB D t n).2 ∧ (rdB D t n).2 ≤ 2000000 := by
    intro n
    induction n with
    | zero => intro _; exact ⟨Int.le_refl _, by show (0 : Int) ≤ _; omega⟩
    | succ n ih =>
      intro hn
      have i := ih (by omega)
      have tb := two_b dk ht (n := n) (by omega)
      rw [rdB]
      split
      · exact tb
      · exact i
  have key : ∀ (m n : Nat), n + m = wdH H → ∀ fuel, m < fuel → Rd_likeliest_b7 N fuel 49 (iv t) (iv (rdB D t n).1) (iv (rdB D t n).2) (iv n) h = some (iv (rdB D t (wdH H)).1, h) := by
    intro m
    induction m with
    | zero =>
      intro n e fuel hf
      obtain ⟨fu, rfl⟩ : ∃ fu, fuel = fu + 1 := ⟨fuel - 1, by omega⟩
      rw [Rd_likeliest_b7]
      dsimp only
      rw [ck_p (by rw [k49 x.1]), x.2.2.2.2.2.2.2, if_pos (by rw [iv_le (by omega) (by omega) (by omega) (by omega)]; omega), show wdH H = n from by omega]
    | succ m ih =>
      intro n e fuel hf
      obtain ⟨fu, rfl⟩ : ∃ fu, fuel = fu + 1 := ⟨fuel - 1, by omega⟩
      have tb := two_b dk ht (n := n) (by omega)
      have b1 := bb n (by omega)
      have r := ih (n + 1) (by omega) fu (by omega)
      rw [show ((n + 1 : Nat) : Int) = (n : Int) + 1 from by omega, rdB] at r
      rw [Rd_likeliest_b7]
      unfold Rd_likeliest_b37
      dsimp only
      rw [ck_p (by rw [k49 x.1]), x.2.2.2.2.2.2.2, if_neg (by rw [iv_le (by omega) (by omega) (by omega) (by omega)]; omega), partL ho mk dk ht (by omega) x row, bd_s, il1, iv_add]
      simp only [show (iv (D t n 0 + D t n 1) ≤ iv (rdB D t n).2) ↔ D t n 0 + D t n 1 ≤ (rdB D t n).2 from iv_le (by omega) (by omega) (by omega) (by omega)]
      by_cases c : D t n 0 + D t n 1 ≤ (rdB D t n).2
      · rw [if_pos c]
        rw [if_neg (by omega)] at r
        exact r
      · rw [if_neg c]
        rw [if_pos (by omega)] at r
        exact r
  have e97 : rdB D t 97 = rdB D t (wdH H) := by
    have := rdB_all dk (wdH H) (t := t) (by unfold wdH; omega) (97 - wdH H)
    rwa [show wdH H + (97 - wdH H) = 97 from by omega] at this
  unfold Rd_likeliest
  rw [il0, il1, iv_neg, e97]
  exact key (wdH H) 0 (by omega) N (by omega)
