/-! THE PURE PROOFS, 86: the reference: marks; an evening; a house. -/
section
variable {N : Nat} {g : Gs} {h : PH}
theorem moMarkM {z w : Int} (hN : 100 ≤ N) (x : RestM g h) (k : GOK g) (hz : -2147483648 ≤ z ∧ z < 2147483648) (hw : w = 0 ∨ w = 1) : Wp (Mo_mark N 92 (iv z) (iv w) h) (fun v h2 => v = decide (cMark g z w) ∧ RestM (gMark g z w) h2 ∧ MFr h h2) := by
  unfold Mo_mark
  rw [il0, il3]
  refine Wp_ck (by rw [k92 x.s]) (Wp_lt ?_)
  have x1 := x.t0 (v := iv 0)
  have f1 : MFr h (wI h 92 0 (iv 0)) := t0F
  generalize wI h 92 0 (iv 0) = h1 at x1 f1 ⊢
  have s1 := x1.s
  have no : ¬ cMark g z w → Wp (some (false, h1)) (fun v h2 => v = decide (cMark g z w) ∧ RestM (gMark g z w) h2 ∧ MFr h h2) := by
    intro e
    refine Wp_ret ⟨by rw [decide_eq_false e], ?_, f1⟩
    unfold gMark
    rw [if_neg e]
    exact x1
  refine Wp_bde (within_eq (by omega) (by omega) (by omega)) ?_
  by_cases o : 0 ≤ z ∧ z ≤ 3
  · rw [decide_eq_true o]
    refine Wp_ifn (by decide) ?_
    obtain ⟨i, rfl⟩ : ∃ i : Nat, z = (i : Int) := ⟨z.toNat, by omega⟩
    have hi : i < 4 := by omega
    have zt : ((i : Int)).toNat = i := by omega
    have mk := x1.2.2.2.2.2
    have ev := x1.2.2.2.1
    have v60 : (gsV g).1 ≤ 60 := k.2.2.2.1.1
    have go : cMark g i w → Wp (Mo_mark_b29 N 92 (iv i) (iv w) h1) (fun v h2 => v = decide (cMark g i w) ∧ RestM (gMark g i w) h2 ∧ MFr h h2) := by
      intro c
      unfold Mo_mark_b29
      rw [il0, il1]
      refine Wp_ck (by rw [k92 s1]) (Wp_bn (p92_39 s1) (Wp_ck (by rw [k120 s1]) (Wp_ck (by rw [k120 s1]; exact inb_iv (by omega) (by omega) (by omega)) (Wp_lt ?_))))
      rw [ix_nat (by omega), show tb (iv 1) = true from by decide]
      have f2 : FrS (fun b => b = 92 ∨ b = 113 ∨ b = 114 ∨ b = 115 ∨ b = 116 ∨ b = 118 ∨ b = 120) h1 (wZ h1 120 i true) := FrS.rf.aZ (by omega)
      have z2 : ∀ j, hZ (wZ h1 120 i true) 120 j = if j = i then true else hZ h1 120 j := fun j => by
        rw [hZ_wZ]
        by_cases d : j = i
        · rw [if_pos ⟨rfl, d⟩, if_pos d]
        · rw [if_neg (fun y => d y.2), if_neg d]
      have i2 : hI (wZ h1 120 i true) = hI h1 := rfl
      generalize wZ h1 120 i true = h2 at f2 z2 i2 ⊢
      have s2 := f2.shp s1
      rw [show (14 : Int32) = iv 14 from iv_lit _, iv_mul, iv_add, show (14 : Int) * (i : Int) = ((14 * i : Nat) : Int) from by omega, show (1 : Int) + (i : Int) = ((1 + i : Nat) : Int) from by omega, p92_35 s2, p92_37 s2]
      refine Wp_if (fun e => ?_) (fun e => ?_)
      · have e0 : w = 0 := by rw [iv_eq (by omega) (by omega) (by omega) (by omega)] at e; exact e
        refine Wp_bd2 (copiesM (x := 0) (y := 14 * i) (a := 116) (b := 118) (la := 14) (lb := 56) hN (by omega) (k116 s2) (k118 s2) (by omega) (by omega) (by omega) (by omega)) ?_
        rintro - h3 ⟨f3, e3⟩
        have s3 := f3.shp s2
        refine Wp_ck (by rw [k92 s3]) (Wp_bd2 (laysLinesM (x := 0) (y := 1 + i) hN s3 (by omega) (by omega) (by omega)) ?_)
        rintro - h4 ⟨f4, z4, -, a4, b4, c4⟩
        have f14 := f2.tr ((f3.s.up (T := fun b => b = 92 ∨ b = 113 ∨ b = 114 ∨ b = 115 ∨ b = 116 ∨ b = 118 ∨ b = 120) (fun b z => by omega)).tr (f4.up (fun b z => by omega)))
        have i3 : ∀ b, b ≠ 118 → hI h3 b = hI h1 b := fun b hb => (f3.2.2.2.2.2 b hb).trans (by rw [i2])
        have i4 : ∀ b, b ≠ 118 → b ≠ 113 → b ≠ 114 → b ≠ 115 → hI h4 b = hI h1 b := fun b b1 b2 b3 b4 => (f4.2.2.2 b (by omega)).1.trans (i3 b b1)
        refine Wp_ret ⟨(decide_eq_true c).symm, ?_, f1.tr (f14.up (fun b z => by show 92 ≤ b ∧ b ≤ 125; omega))⟩
        unfold gMark
        rw [if_pos c, if_neg (by omega)]
        refine x1.chg f14 (fun b z => by omega) (by rw [i4 92 (by omega) (by omega) (by omega) (by omega)]) rfl rfl rfl rfl rfl (fun j hj => ?_) ⟨?_, fun j hj => ⟨?_, fun q => ?_⟩⟩ (x1.2.2.2.2.1.cg (by rw [i4 92 (by omega) (by omega) (by omega) (by omega)]) (i4 119 (by omega) (by omega) (by omega) (by omega))) (fun m hm => ⟨?_, fun q => ⟨fun j hj => ?_, ?_, fun j hj => ⟨?_, fun q2 => ?_⟩⟩⟩)
        · rw [i4 116 (by omega) (by omega) (by omega) (by omega)]; exact x1.nt j hj
        · rw [a4, if_neg (by omega), i3 113 (by omega)]; exact ev.1
        · have hj2 : j < (gsV g).1 := hj
          rw [b4, if_neg (by omega), i3 114 (by omega)]; exact (ev.2 j hj).1
        · have hj2 : j < (gsV g).1 := hj
          rw [c4, if_neg (by omega), i3 115 (by omega)]; exact (ev.2 j hj).2 q
        · rw [z4, f3.2.2.2.1, z2]
          show _ = if m = ((i : Int)).toNat then true else (gsM g).1 m
          rw [zt, (mk m hm).1]
        · show _ = iv (upN (gsM g).2.1 ((i : Int)).toNat (gsN g) m j)
          rw [f4.I (by omega), e3, zt]
          unfold upN
          by_cases d : m = i
          · rw [if_pos (by omega), if_pos d, i2, show 0 + (14 * m + j - 14 * i) = j from by omega]
            exact x1.nt j hj
          · have q' : (if m = ((i : Int)).toNat then true else (gsM g).1 m) = true := q
            rw [zt, if_neg d] at q'
            rw [if_neg (by omega), if_neg d, i2]
            exact ((mk m hm).2 q').1 j hj
        · show _ = iv ((upN (gsM g).2.2 ((i : Int)).toNat (gsV g) m).1 : Nat)
          rw [a4, zt]
          unfold upN
          by_cases d : m = i
          · rw [if_pos (by omega), if_pos d, i3 113 (by omega)]
            exact ev.1
          · have q' : (if m = ((i : Int)).toNat then true else (gsM g).1 m) = true := q
            rw [zt, if_neg d] at q'
            rw [if_neg (by omega), if_neg d, i3 113 (by omega)]
            exact ((mk m hm).2 q').2.1
        · have hj' : j < (upN (gsM g).2.2 ((i : Int)).toNat (gsV g) m).1 := hj
          show _ = iv ((upN (gsM g).2.2 ((i : Int)).toNat (gsV g) m).2.1 j - 16)
          rw [zt] at hj' ⊢
          unfold upN at hj' ⊢
          by_cases d : m = i
          · rw [if_pos d] at hj' ⊢
            rw [b4, if_pos (by omega), i3 114 (by omega), show 60 * 0 + (60 * (1 + m) + j - 60 * (1 + i)) = 60 * 0 + j from by omega]
            exact (ev.2 j hj').1
          · have q' : (if m = ((i : Int)).toNat then true else (gsM g).1 m) = true := q
            rw [zt, if_neg d] at q'
            rw [if_neg d] at hj' ⊢
            have l60 := (k.2.2.2.2.2 m hm q').2.1
            rw [b4, if_neg (by omega), i3 114 (by omega)]
            exact (((mk m hm).2 q').2.2 j hj').1
        · have hj' : j < (upN (gsM g).2.2 ((i : Int)).toNat (gsV g) m).1 := hj
          have q2' : (upN (gsM g).2.2 ((i : Int)).toNat (gsV g) m).2.1 j ≤ 17 := q2
          show _ = iv ((upN (gsM g).2.2 ((i : Int)).toNat (gsV g) m).2.2 j)
          rw [zt] at hj' q2' ⊢
          unfold upN at hj' q2' ⊢
          by_cases d : m = i
          · rw [if_pos d] at hj' q2' ⊢
            rw [c4, if_pos (by omega), i3 115 (by omega), show 60 * 0 + (60 * (1 + m) + j - 60 * (1 + i)) = 60 * 0 + j from by omega]
            exact (ev.2 j hj').2 q2'
          · have q' : (if m = ((i : Int)).toNat then true else (gsM g).1 m) = true := q
            rw [zt, if_neg d] at q'
            rw [if_neg d] at hj' q2' ⊢
            have l60 := (k.2.2.2.2.2 m hm q').2.1
            rw [c4, if_neg (by omega), i3 115 (by omega)]
            exact (((mk m hm).2 q').2.2 j hj').2 q2'
      · have e1 : w = 1 := by rw [iv_eq (by omega) (by omega) (by omega) (by omega)] at e; omega
        have mi : (gsM g).1 i = true := by have := c.2 e1; rwa [zt] at this
        have m60 := (k.2.2.2.2.2 i hi mi).2.1
        have mki := (mk i hi).2 mi
        refine Wp_bd2 (copiesM (x := 14 * i) (y := 0) (a := 118) (b := 116) (la := 56) (lb := 14) hN (by omega) (k118 s2) (k116 s2) (by omega) (by omega) (by omega) (by omega)) ?_
        rintro - h3 ⟨f3, e3⟩
        have s3 := f3.shp s2
        refine Wp_ck (by rw [k92 s3]) (Wp_bd2 (laysLinesM (x := 1 + i) (y := 0) hN s3 (by omega) (by omega) (by omega)) ?_)
        rintro - h4 ⟨f4, z4, -, a4, b4, c4⟩
        have s4 := f4.shp s3
        refine Wp_ck (by rw [k92 s4]) (Wp_lt ?_)
        have f14 := (f2.tr ((f3.s.up (T := fun b => b = 92 ∨ b = 113 ∨ b = 114 ∨ b = 115 ∨ b = 116 ∨ b = 118 ∨ b = 120) (fun b z => by omega)).tr (f4.up (fun b z => by omega)))).aI (a := 92) (i := 40) (v := iv ((0 : Nat) : Int)) (Or.inl rfl)
        have i3 : ∀ b, b ≠ 116 → hI h3 b = hI h1 b := fun b hb => (f3.2.2.2.2.2 b hb).trans (by rw [i2])
        have i4 : ∀ b, b ≠ 116 → b ≠ 113 → b ≠ 114 → b ≠ 115 → hI h4 b = hI h1 b := fun b b1 b2 b3 b4 => (f4.2.2.2 b (by omega)).1.trans (i3 b b1)
        refine Wp_ret ⟨(decide_eq_true c).symm, ?_, f1.tr (f14.up (fun b z => by show 92 ≤ b ∧ b ≤ 125; omega))⟩
        unfold gMark
        rw [if_pos c, if_pos e1, zt]
        refine x1.chg f14 (fun b z => by omega) (by rw [hI_wI, if_neg (by omega), i4 92 (by omega) (by omega) (by omega) (by omega)]) rfl rfl rfl rfl rfl (fun j hj => ?_) ⟨?_, fun j hj => ⟨?_, fun q => ?_⟩⟩ ⟨by rw [hI_wI, if_pos ⟨rfl, rfl⟩]; rfl, fun j hj => absurd hj (Nat.not_lt_zero j)⟩ (fun m hm => ⟨?_, fun q => ⟨fun j hj => ?_, ?_, fun j hj => ⟨?_, fun q2 => ?_⟩⟩⟩)
        · show _ = iv ((gsM g).2.1 i j)
          rw [hI_wI, if_neg (by omega), f4.I (by omega), e3, if_pos (by omega), i2, show 14 * i + (j - 0) = 14 * i + j from by omega]
          exact mki.1 j hj
        · show _ = iv (((gsM g).2.2 i).1 : Nat)
          rw [hI_wI, if_neg (by omega), a4, if_pos rfl, i3 113 (by omega)]
          exact mki.2.1
        · have hj' : j < ((gsM g).2.2 i).1 := hj
          show _ = iv (((gsM g).2.2 i).2.1 j - 16)
          rw [hI_wI, if_neg (by omega), b4, if_pos (by omega), i3 114 (by omega), show 60 * (1 + i) + (60 * 0 + j - 60 * 0) = 60 * (1 + i) + j from by omega]
          exact (mki.2.2 j hj').1
        · have hj' : j < ((gsM g).2.2 i).1 := hj
          show _ = iv (((gsM g).2.2 i).2.2 j)
          rw [hI_wI, if_neg (by omega), c4, if_pos (by omega), i3 115 (by omega), show 60 * (1 + i) + (60 * 0 + j - 60 * 0) = 60 * (1 + i) + j from by omega]
          exact (mki.2.2 j hj').2 q
        · show _ = (gsM g).1 m
          rw [hZ_wI, z4, f3.2.2.2.1, z2, (mk m hm).1]
          by_cases d : m = i
          · rw [if_pos d, d, mi]
          · rw [if_neg d]
        · rw [hI_wI, if_neg (by omega), i4 118 (by omega) (by omega) (by omega) (by omega)]
          exact ((mk m hm).2 q).1 j hj
        · rw [hI_wI, if_neg (by omega), a4, if_neg (by omega), i3 113 (by omega)]
          exact ((mk m hm).2 q).2.1
        · rw [hI_wI, if_neg (by omega), b4, if_neg (by omega), i3 114 (by omega)]
          exact (((mk m hm).2 q).2.2 j hj).1
        · rw [hI_wI, if_neg (by omega), c4, if_neg (by omega), i3 115 (by omega)]
          exact (((mk m hm).2 q).2.2 j hj).2 q2
    refine Wp_if (fun e => ?_) (fun e => ?_)
    · rw [iv_eq (by omega) (by omega) (by omega) (by omega)] at e
      exact go ⟨o, fun e1 => by omega⟩
    · rw [iv_eq (by omega) (by omega) (by omega) (by omega)] at e
      refine Wp_ck (by rw [k92 s1]) (Wp_bn (p92_39 s1) (Wp_ck (by rw [k120 s1]) (Wp_ck (by rw [k120 s1]; exact inb_iv (by omega) (by omega) (by omega)) ?_)))
      rw [ix_nat (by omega), (mk i hi).1]
      by_cases c : (gsM g).1 i = true
      · rw [c]
        exact Wp_ifn (by decide) (go ⟨o, fun _ => by rw [zt]; exact c⟩)
      · rw [show (gsM g).1 i = false from by cases e : (gsM g).1 i <;> simp_all]
        exact Wp_ifp (by decide) (no (fun y => c (by have := y.2 (by omega); rwa [zt] at this)))
  · rw [decide_eq_false o]
    exact Wp_ifp (by decide) (no (fun y => o y.1))
theorem Tx0.zero {T : Nat → Int} {L : Nat} {S : Nat → Prop} {h h2 : PH} (x : Tx0 T L h) (f : FrS S h h2) (e : hI h2 92 1 = iv 0) : Tx0 T 0 h2 := ⟨f.shp x.1, Nat.zero_le _, fun k hk => absurd hk (Nat.not_lt_zero k), e, fun k hk => absurd hk (Nat.not_lt_zero k)⟩
theorem moEvenM (hN : 1100 ≤ N) (x : RestM g h) (k : GOK g) : Wp (Mo_evening N 92 h) (fun v h2 => v = iv (fEve g) ∧ RestM (gEve g) h2 ∧ MFr h h2) := by
  refine Wp_mono (evenM hN x.1) ?_
  rintro v h2 ⟨f, e0, e1, r⟩
  obtain ⟨tx, ho, nt, ev, un, mk⟩ := x
  have v60 : (gsV g).1 ≤ 60 := k.2.2.2.1.1
  have l : ∀ b, ¬ (b = 92 ∨ b = 113 ∨ b = 114 ∨ b = 115) → hI h2 b = hI h b := fun b hb => (f.1.2.2.2 b hb).1
  have mf : MFr h h2 := f.1.up (fun b z => by show 92 ≤ b ∧ b ≤ 125; omega)
  have rest : ∀ v2 : Ev, EvMt 0 v2 h2 → RestM (mkG (gsT g) 0 (gsH g) (gsC g) (gsE g) (gsN g) v2 (gsU g) (gsM g)) h2 := by
    intro v2 e2
    refine ⟨tx.zero f.1 e1, ⟨⟨fun j hj => by rw [l 94 (by omega)]; exact ho.1.1 j hj, fun j hj => by rw [l 95 (by omega)]; exact ho.1.2 j hj⟩, fun j hj => by rw [l 100 (by omega)]; exact ho.2.1 j hj, fun j hj => by rw [l 98 (by omega), l 99 (by omega)]; exact ho.2.2 j hj⟩, fun j hj => by rw [l 116 (by omega)]; exact nt j hj, e2, un.cg (f.2.2.1 40 (by unfold Q0; omega)) (l 119 (by omega)), fun m hm => ⟨by rw [f.2.1]; exact (mk m hm).1, fun q => ⟨fun j hj => by rw [l 118 (by omega)]; exact ((mk m hm).2 q).1 j hj, ?_⟩⟩⟩
    have l60 : ((gsM g).2.2 m).1 ≤ 60 := (k.2.2.2.2.2 m hm q).2.1
    have o := ((mk m hm).2 q).2
    refine ⟨by rw [f.2.2.2.2.1 (1 + m) (by omega) (by omega)]; exact o.1, fun j hj => ?_⟩
    have hj' : j < ((gsM g).2.2 m).1 := hj
    have e := f.2.2.2.2.2 (60 * (1 + m) + j) (by omega) (by omega)
    rw [e.1, e.2]
    exact o.2 j hj
  unfold fEve gEve
  cases e : evR (gsT g) (gsL g) 61 0 (fun _ => 0) (fun _ => 0) 0 with
  | inl f0 =>
    rw [e] at r
    obtain ⟨rfl, -, -, r3⟩ := r
    refine ⟨rfl, rest _ ⟨by rw [r3 113 0 (Or.inl ⟨rfl, rfl⟩)]; exact ev.1, fun i hi => ?_⟩, mf⟩
    rw [r3 114 (60 * 0 + i) (Or.inr ⟨Or.inl rfl, by omega⟩), r3 115 (60 * 0 + i) (Or.inr ⟨Or.inr rfl, by omega⟩)]
    exact ev.2 i hi
  | inr t =>
    obtain ⟨n, A, B⟩ := t
    rw [e] at r
    obtain ⟨rfl, r2, -⟩ := r
    refine ⟨rfl, rest (n, A, B) ⟨r2.1, fun i hi => ?_⟩, mf⟩
    rw [show 60 * 0 + i = i from by omega]
    exact r2.2 i hi
theorem moHouseM (hN : 1100 ≤ N) (x : RestM g h) (k : GOK g) : Wp (Mo_house N 92 h) (fun v h2 => v = iv (fHou g) ∧ RestM (gHou g) h2 ∧ MFr h h2) := by
  refine Wp_mono (moHouM hN x.1) ?_
  rintro v h2 ⟨f, e1, e0, r⟩
  obtain ⟨tx, ho, nt, ev, un, mk⟩ := x
  have h15 : 0 ≤ gsH g 15 ∧ gsH g 15 ≤ 4 := k.1.2.2.2.2.2.2.2.2.2.2.2.2.2.2.2.1
  have g4 : gsm g ≤ 4 := by unfold gsm; omega
  have l : ∀ b, ¬ (b = 92 ∨ (94 ≤ b ∧ b ≤ 102) ∨ (113 ≤ b ∧ b ≤ 116) ∨ b = 120) → hI h2 b = hI h b := fun b hb => (f.2.2.2 b hb).1
  have mf : MFr h h2 := f.up (fun b z => by show 92 ≤ b ∧ b ≤ 125; omega)
  unfold fHou gHou
  cases e : hoR (gsT g) (gsL g) with
  | inl f0 =>
    rw [e] at r
    obtain ⟨rfl, -, -, r1, r2, r3, r4, r5, r6, r7⟩ := r
    refine ⟨rfl, ⟨tx.zero f e1, ⟨⟨fun j hj => by rw [r4 j hj]; exact ho.1.1 j hj, fun j hj => by rw [r5 j hj]; exact ho.1.2 j hj⟩, fun j hj => ?_, fun j hj => ?_⟩, fun j hj => by rw [r1 116 (by omega) (by omega)]; exact nt j hj, ev.cg (r1 113 (by omega) (by omega)) (r1 114 (by omega) (by omega)) (r1 115 (by omega) (by omega)), un.cg r3 (l 119 (by omega)), mk.cg r2 (l 118 (by omega)) (r1 113 (by omega) (by omega)) (r1 114 (by omega) (by omega)) (r1 115 (by omega) (by omega))⟩, mf⟩
    · have ln := k.2.1.2.1
      have hj' : j < (catI (gsE g) (gsm g)).length := hj
      rw [r7 j (by omega)]
      exact ho.2.1 j hj
    · have hj' : j < gsm g := hj
      rw [(r6 j (by omega)).1, (r6 j (by omega)).2]
      exact ho.2.2 j hj
  | inr S =>
    rw [e] at r
    obtain ⟨rfl, -, -, m1, m2, m3, m4, m5, m6, m7⟩ := r
    exact ⟨rfl, ⟨tx.zero f e1, ⟨m1, m2, m3⟩, m4, ⟨m5, fun i hi => absurd hi (Nat.not_lt_zero i)⟩, ⟨m6, fun i hi => absurd hi (Nat.not_lt_zero i)⟩, fun i hi => ⟨m7 i hi, fun z => Bool.noConfusion z⟩⟩, mf⟩
end
