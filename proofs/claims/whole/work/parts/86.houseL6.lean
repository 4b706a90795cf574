/-! THE PURE PROOFS, 64: the class reads a house: a line, all lines. -/
theorem StaL.d {T : Nat → Int} {L : Nat} {S : Sta} {h : PH} {w : Nat} (x : StaL T L S h) : StaL T L (mkS (sH S) (sC S) (sK S) (up (sD S) w 1) (sPl S) (sE S)) (wZ h 30 w true) := by
  obtain ⟨⟨a, b, c, d, z, g, i, j⟩, k⟩ := x
  refine ⟨⟨a, b, c, fun k hk => ?_, fun k hk => ?_, g, i, j⟩, k⟩
  · rw [hZ_wZ, if_neg (by omega)]; exact d k hk
  · rw [hZ_wZ]
    show _ = decide (up (sD S) w 1 k = 1)
    by_cases e : k = w
    · rw [if_pos ⟨rfl, e⟩, e, up_s, decide_eq_true rfl]
    · rw [if_neg (fun z => e z.2), up_n _ _ _ _ e]; exact z k hk
theorem hlR_ge {T : Nat → Int} {L p p2 : Nat} {S : Sta} (hp : p ≤ L) (hk : tKd T L p ≠ 3) (w : tWx T L p ≠ 12) (h : hlR T L S p = .inr p2) : p + 1 ≤ p2 ∧ p2 ≤ L := by
  have tg := tE_gt (T := T) (L := L) (p := p) hk hp
  have g : gE L (tE T L p) (.inr (tE T L p)) := ⟨Nat.le_refl _, tE_le hp⟩
  have k : gE L (tE T L p) (hlR T L S p) := by
    unfold hlR
    split
    · split
      · exact True.intro
      · unfold ccR ccr caQ caP
        exact ((((((((g.num 0 (sH S 0 - 1)).key 15).cax _ _ _).num _ _).num 0 10).num 0 10).num 0 10).num _ _).sgn 59
    · split
      · exact True.intro
      · split
        · exact True.intro
        · unfold plR
          split
          · exact (((g.num 0 12).key 13).num 0 99).sgn 59
          · split
            · exact (((g.num 0 99).num _ _).num _ _).sgn 59
            · split
              · exact (((g.num 0 99).key 14).num _ _).sgn 59
              · exact (g.num _ _).sgn 59
  rw [h] at k
  have k1 : tE T L p ≤ p2 ∧ p2 ≤ L := k
  omega
theorem houseLineL {N : Nat} {T : Nat → Int} {L p : Nat} {S : Sta} {h : PH} (hN : 1100 ≤ N) (x : TxL T L h) (l : LexL T L p h) (hp : p ≤ L) (st : StaL T L S h) (ok : SOK T L S) (hs : (catP (sE S) (sH S 15).toNat).length ≤ p) (hk3 : tKd T L p ≠ 3) : Wp (Re_houseLine N 28 h) (fun _ h2 => FrHl h h2 ∧ match hlR T L S p with
    | .inl f => RdS T L (.inl f) h2
    | .inr p2 => RdS T L (.inr p2) h2 ∧ p + 1 ≤ p2 ∧ StaL T L (hlS T L S p) h2 ∧ (catP (sE (hlS T L S p)) (sH (hlS T L S p) 15).toNat).length ≤ p2) := by
  have sr : RdS T L (.inr p) h := ⟨l, hp⟩
  have wb := tWx_b (T := T) (L := L) (p := p)
  have kd := kd_b (p := p) x.2.2.2.1
  obtain ⟨ho, h17, hP, hE⟩ := ok
  have h15 : 0 ≤ sH S 15 ∧ sH S 15 ≤ 4 := ho.2.2.2.2.2.2.2.2.2.2.2.2.2.2.2.1
  have go : ∀ a : Int, a = tWx T L p → Wp (Re_houseLine_b22 N (iv a) 28 h) (fun _ h2 => FrHl h h2 ∧ match hlR T L S p with
    | .inl f => RdS T L (.inl f) h2
    | .inr p2 => RdS T L (.inr p2) h2 ∧ p + 1 ≤ p2 ∧ StaL T L (hlS T L S p) h2 ∧ (catP (sE (hlS T L S p)) (sH (hlS T L S p) 15).toNat).length ≤ p2) := by
    rintro a rfl
    unfold Re_houseLine_b22
    rw [show (11 : Int32) = iv 11 from iv_lit _, show (12 : Int32) = iv 12 from iv_lit _, il1, il3]
    refine Wp_if (fun c => ?_) (fun c => ?_)
    · rw [iv_eq (by omega) (by omega) (by omega) (by omega)] at c
      refine Wp_ck (by rw [k28 x.1]) (Wp_bd2 (callsL hN x l hp st ho.1 h17) ?_)
      rintro - h2 ⟨f2, s2, t2⟩
      refine Wp_ret ⟨f2, ?_⟩
      have eR : hlR T L S p = if sH S 17 = 8 then .inl (5 + 16 * (tB T L p : Nat)) else ccR T L (caQ T L (sK S) (sH S 0) (.inr (tE T L p))) := by
        unfold hlR
        rw [if_pos c]
      rw [← eR] at s2
      have ge := fun p2 => hlR_ge (p2 := p2) (S := S) hp hk3 (by omega)
      cases e : hlR T L S p with
      | inl f => rw [e] at s2; exact s2
      | inr p2 =>
        rw [e] at s2
        have n8 : sH S 17 ≠ 8 := by
          intro z
          rw [eR, if_pos z] at e
          cases e
        have g := ge p2 e
        refine ⟨s2, g.1, ?_, ?_⟩
        · unfold hlS
          rw [if_pos c]
          exact t2 n8
        · unfold hlS
          rw [if_pos c]
          show (catP (sE S) (up (sH S) 17 (sH S 17 + 1) 15).toNat).length ≤ p2
          rw [up_n _ _ _ _ (by omega)]
          omega
    · rw [iv_eq (by omega) (by omega) (by omega) (by omega)] at c
      refine Wp_if (fun d => ?_) (fun d => ?_)
      · rw [iv_eq (by omega) (by omega) (by omega) (by omega)] at d
        refine Wp_ck (by rw [k28 x.1]) (Wp_bd2 (habitL hN x l hp st h15 hP hs hk3) ?_)
        rintro - h2 ⟨f2, s2⟩
        refine Wp_ret ⟨f2, ?_⟩
        have eR : hlR T L S p = lnF (haR T L (sH S) (sPl S) p) := by
          unfold hlR
          rw [if_neg c, if_pos d]
        have eS : hlS T L S p = mkS (up (sH S) 15 (sH S 15 + 1)) (sC S) (sK S) (sD S) (upN (sPl S) (sH S 15).toNat (tE T L p)) (upN (sE S) (sH S 15).toNat (lnE (haR T L (sH S) (sPl S) p))) := by
          unfold hlS
          rw [if_neg c, if_pos d]
        rw [eR, eS]
        cases e : haR T L (sH S) (sPl S) p with
        | inl f => rw [e] at s2; exact s2
        | inr t =>
          obtain ⟨p2, ex⟩ := t
          rw [e] at s2
          obtain ⟨s3, g3, t3, l3⟩ := s2
          refine ⟨s3, g3, t3, ?_⟩
          show (catP (upN (sE S) (sH S 15).toNat ex) (up (sH S) 15 (sH S 15 + 1) 15).toNat).length ≤ p2
          rw [up_s, show (sH S 15 + 1).toNat = (sH S 15).toNat + 1 from by omega, catP, catP_up _ (Nat.le_refl _)]
          unfold upN
          rw [if_pos rfl]
          exact l3
      · rw [iv_eq (by omega) (by omega) (by omega) (by omega)] at d
        have eR : hlR T L S p = if tWx T L p < 1 ∨ 10 < tWx T L p then .inl (1 + 16 * (tB T L p : Nat)) else if sD S (tWx T L p).toNat = 1 then .inl (3 + 16 * (tB T L p : Nat)) else plR T L (sH S) (tWx T L p) (.inr (tE T L p)) := by
          unfold hlR
          rw [if_neg c, if_neg d]
        have b63 : (tWx T L p < 1 ∨ 10 < tWx T L p) → Wp (Re_houseLine_b63 N 28 h) (fun _ h2 => FrHl h h2 ∧ match hlR T L S p with
          | .inl f => RdS T L (.inl f) h2
          | .inr p2 => RdS T L (.inr p2) h2 ∧ p + 1 ≤ p2 ∧ StaL T L (hlS T L S p) h2 ∧ (catP (sE (hlS T L S p)) (sH (hlS T L S p) 15).toNat).length ≤ p2) := by
          intro b
          unfold Re_houseLine_b63
          rw [il1]
          refine Wp_ck (by rw [k28 x.1]) (Wp_bn (p28_0 x.1) (Wp_ck (by rw [k7 x.1]) (Wp_bd2 (blameR x sr (by omega)) ?_)))
          rintro - h2 ⟨f2, s2⟩
          refine Wp_ret ⟨f2.hl, ?_⟩
          rw [eR, if_pos b]
          exact s2
        refine Wp_if (fun c1 => ?_) (fun c1 => ?_)
        · rw [iv_lt (by omega) (by omega) (by omega) (by omega)] at c1
          exact b63 (Or.inl c1)
        rw [iv_lt (by omega) (by omega) (by omega) (by omega)] at c1
        refine Wp_ck (by rw [k28 x.1]) (Wp_bn (p28_4 x.1) (Wp_ck (by rw [k30 x.1]) ?_))
        rw [k30 x.1, ofN]
        refine Wp_if (fun c2 => ?_) (fun c2 => ?_)
        · rw [iv_lt (by omega) (by omega) (by omega) (by omega)] at c2
          rw [if_neg (show ¬ (tWx T L p < 1 ∨ 10 < tWx T L p) by omega)] at eR
          refine Wp_ck (inb_iv (by omega) (by omega) (by omega)) ?_
          rw [ix_iv (by omega) (by omega), st.1.2.2.2.2.1 _ (by omega)]
          refine Wp_if (fun c3 => ?_) (fun c3 => ?_)
          · simp only [bI_0] at c3
            rw [decide_eq_false_iff_not] at c3
            rw [if_neg c3] at eR
            refine Wp_ck (inb_iv (by omega) (by omega) (by omega)) (Wp_lt ?_)
            rw [show tb (iv 1) = true from by decide]
            have t1 : StaL T L (mkS (sH S) (sC S) (sK S) (up (sD S) (tWx T L p).toNat 1) (sPl S) (sE S)) (wZ h 30 (tWx T L p).toNat true) := st.d
            have f1 : FrHl h (wZ h 30 (tWx T L p).toNat true) := FrHl.rf.z (Or.inl rfl)
            have s1 : RdS T L (.inr p) (wZ h 30 (tWx T L p).toNat true) := sr.cg rfl rfl
            have x1 := f1.tx x
            generalize (wZ h 30 (tWx T L p).toNat true) = h1 at t1 f1 s1 x1 ⊢
            refine Wp_bn (p28_0 x1.1) (Wp_ck (by rw [k7 x1.1]) (Wp_bd2 (stepR hN x1 s1) ?_))
            rintro - h2 ⟨f2, s2⟩
            have s2' : RdS T L (.inr (tE T L p)) h2 := s2
            have x2 := f2.tx x1
            have t2 := t1.f7 f2
            have eS : hlS T L S p = mkS (plH T L (sH S) (tWx T L p) (.inr (tE T L p))) (sC S) (sK S) (up (sD S) (tWx T L p).toNat 1) (sPl S) (sE S) := by
              unfold hlS
              rw [if_neg c, if_neg d]
            have ge := fun p2 => hlR_ge (p2 := p2) (S := S) hp hk3 d
            have e15 : plH T L (sH S) (tWx T L p) (.inr (tE T L p)) 15 = sH S 15 := by
              unfold plH
              split
              · rfl
              · split
                · rfl
                · split
                  · rfl
                  · refine up_n _ _ _ _ ?_
                    unfold oK
                    repeat' split
                    all_goals omega
            have fin : ∀ h3, FrHl h2 h3 → (∃ r2, RdS T L r2 h3 ∧ sgnR T L 59 r2 = plR T L (sH S) (tWx T L p) (.inr (tE T L p)) ∧ StaL T L (mkS (plH T L (sH S) (tWx T L p) (.inr (tE T L p))) (sC S) (sK S) (up (sD S) (tWx T L p).toNat 1) (sPl S) (sE S)) h3) → Wp (Re_houseLine_b125 N 28 h3) (fun _ h2 => FrHl h h2 ∧ match hlR T L S p with
                | .inl f => RdS T L (.inl f) h2
                | .inr p2 => RdS T L (.inr p2) h2 ∧ p + 1 ≤ p2 ∧ StaL T L (hlS T L S p) h2 ∧ (catP (sE (hlS T L S p)) (sH (hlS T L S p) 15).toNat).length ≤ p2) := by
              rintro h3 f3 ⟨r2, s3, er, t3⟩
              have x3 := f3.tx x2
              unfold Re_houseLine_b125
              rw [show (59 : Int32) = iv 59 from iv_lit _]
              refine Wp_ck (by rw [k28 x3.1]) (Wp_bd2 (signR hN x3 s3 (by omega)) ?_)
              rintro - h4 ⟨f4, s4⟩
              refine Wp_ret ⟨((f1.tr f2.hl).tr f3).tr f4.hl, ?_⟩
              rw [er, ← eR] at s4
              cases e : hlR T L S p with
              | inl f => rw [e] at s4; exact s4
              | inr p2 =>
                rw [e] at s4
                have g := ge p2 e
                refine ⟨s4, g.1, ?_, ?_⟩
                · rw [eS]
                  exact t3.f7 f4
                · rw [eS]
                  show (catP (sE S) (plH T L (sH S) (tWx T L p) (.inr (tE T L p)) 15).toNat).length ≤ p2
                  rw [e15]
                  omega
            refine Wp_if (fun c4 => ?_) (fun c4 => ?_)
            · rw [iv_eq (by omega) (by omega) (by omega) (by omega)] at c4
              refine Wp_ck (by rw [k28 x2.1]) (Wp_bd2 (worthsL hN x2 s2' t2) ?_)
              rintro - h3 ⟨f3, r2, s3, er, t3⟩
              refine fin h3 f3 ⟨r2, s3, ?_, ?_⟩
              · rw [er]
                unfold plR
                rw [if_neg (by omega), if_pos c4]
              · unfold plH
                rw [if_neg (by omega), if_pos c4]
                exact t3
            · rw [iv_eq (by omega) (by omega) (by omega) (by omega)] at c4
              refine Wp_ck (by rw [k28 x2.1]) (Wp_bd2 (plainL (w := tWx T L p) hN x2 s2' t2 ho.1 (by omega)) ?_)
              rintro - h3 ⟨f3, r2, s3, er, t3⟩
              exact fin h3 f3 ⟨r2, s3, er, t3⟩
          · simp only [bI_0] at c3
            have c4 : sD S (tWx T L p).toNat = 1 := by
              by_cases z : sD S (tWx T L p).toNat = 1
              · exact z
              · exact absurd (decide_eq_false z) c3
            rw [if_pos c4] at eR
            refine Wp_bn (p28_0 x.1) (Wp_ck (by rw [k7 x.1]) (Wp_bd2 (blameR x sr (by omega)) ?_))
            rintro - h2 ⟨f2, s2⟩
            refine Wp_ret ⟨f2.hl, ?_⟩
            rw [eR]
            exact s2
        · rw [iv_lt (by omega) (by omega) (by omega) (by omega)] at c2
          exact b63 (Or.inr (by omega))
  unfold Re_houseLine
  refine Wp_ck (by rw [k28 x.1]) (Wp_bn (p28_0 x.1) (Wp_ck (by rw [k7 x.1]) ?_))
  rw [l.2.2.1, l.2.2.2.2.1, il2, il1, iv_neg]
  refine Wp_if (fun c1 => go _ rfl) (fun c1 => ?_)
  rw [iv_eq (by omega) (by omega) (by omega) (by omega)] at c1
  exact go (-1) (by unfold tWx; rw [if_neg c1])
/-- the wet chances stand -/
def WeL (b : Nat) (C : Nat → Int) (h : PH) : Prop := ∀ q k : Nat, q < 24 → k < 4 → hI h (b + 3) (4 * q + k) = iv (cw C 1 q k)
theorem StaL.i19 {T : Nat → Int} {L : Nat} {S : Sta} {h h2 : PH} (x : StaL T L S h) (f : FrI (fun c => c = 19) h h2) : StaL T L S h2 := by
  obtain ⟨⟨a, b, c, d, z, g, i, j⟩, k⟩ := x
  exact ⟨⟨fun k hk => (f.I (by omega) k).trans (a k hk), fun k hk => (f.I (by omega) k).trans (b k hk), (f.I (by omega) 6).trans c, fun k hk => (f.s.Z (by omega) k).trans (d k hk), fun k hk => (f.s.Z (by omega) k).trans (z k hk), fun k hk => (f.s.J (by omega) k).trans (g k hk), ⟨(f.I (by omega) _).trans i.1, fun k hk => (f.I (by omega) k).trans (i.2 k hk)⟩, fun k hk => (f.I (by omega) k).trans (j k hk)⟩, fun n hn => (f.I (by omega) n).trans (k n hn)⟩
theorem FrI.hl19 {h h2 : PH} (f : FrI (fun c => c = 19) h h2) : FrHl h h2 := ⟨f.s.up (fun b e => by omega), f.I (by omega) 1, f.I (by omega) 0⟩
theorem readEndL {N : Nat} {h : PH} {C : Nat → Int} (hN : 1100 ≤ N) (s : Shp h) (e : ∀ k, k < 96 → hI h 18 k = iv (C k)) : Wp (Re_readHouse_b118 N 28 h) (fun v h2 => v = hI h 7 8 ∧ FrI (fun c => c = 19) h h2 ∧ WeL 16 C h2) := by
  unfold Re_readHouse_b118
  refine Wp_ck (by rw [k28 s]) (Wp_bn (p28_1 s) (Wp_ck (by rw [k16 s]) (Wp_bd2 (settleL (b := 16) (C := C) (by omega) (k16 s) (k18 s) (k19 s) (p16_15 s) (p16_16 s) e) ?_)))
  rintro - h2 ⟨f2, w2⟩
  have s2 := f2.shp s
  refine Wp_ck (by rw [k28 s2]) (Wp_bn (p28_0 s2) (Wp_ck (by rw [k7 s2]) (Wp_ret ⟨f2.I (by omega) 8, f2, w2⟩)))
theorem readFaultL {N fuel k : Nat} {T : Nat → Int} {L : Nat} {f : Int} {h0 h : PH} (hN : 1100 ≤ N) (x : TxL T L h) (s : RdS T L (.inl f) h) (f0 : FrHl h0 h) (hk : k ≤ 1000) (hf : 0 < fuel) : Wp (Re_readHouse_b94 N fuel 28 (iv k) h) (fun v h2 => FrHl h0 h2 ∧ v = iv f ∧ 0 < f ∧ f < 1048576) := by
  obtain ⟨fu, rfl⟩ : ∃ g, fuel = g + 1 := ⟨fuel - 1, by omega⟩
  rw [Re_readHouse_b94, show (1000 : Int32) = iv 1000 from iv_lit _]
  refine Wp_ifn (by rw [iv_lt (by omega) (by omega) (by omega) (by omega)]; omega) (Wp_ck (by rw [k28 x.1]) (Wp_bde (hasMoreF x.1 s.1 s.2) (Wp_ifp rfl (Wp_mono (readEndL (C := fun k => (hI h 18 k).toInt) hN x.1 (fun k _ => (iv_of _).symm)) ?_))))
  rintro v h2 ⟨rfl, f2, -⟩
  exact ⟨f0.tr f2.hl19, s.2, s.1⟩
theorem readLoopL {N : Nat} {T : Nat → Int} {L : Nat} {h0 : PH} (hN : 1100 ≤ N) : ∀ (m k p : Nat) (S : Sta) (h : PH), k + m = 1001 → k ≤ p → FrHl h0 h → TxL T L h → LexL T L p h → p ≤ L → StaL T L S h → SOK T L S → (catP (sE S) (sH S 15).toNat).length ≤ p → ∀ fuel, m < fuel → Wp (Re_readHouse_b94 N fuel 28 (iv k) h) (fun v h2 => FrHl h0 h2 ∧ match hoL T L m S p with
    | .inl f => v = iv f ∧ 0 < f ∧ f < 1048576
    | .inr S => v = iv 0 ∧ StaL T L S h2 ∧ SOK T L S ∧ WeL 16 (sC S) h2 ∧ (catP (sE S) (sH S 15).toNat).length ≤ 1000)
  | 0, k, p, S, h, hk, kp, f0, x, l, hp, st, ok, hs, fuel, hf => by
    have := x.2.2.1
    omega
  | m + 1, k, p, S, h, hk, kp, f0, x, l, hp, st, ok, hs, fuel, hf => by
    obtain ⟨fu, rfl⟩ : ∃ g, fuel = g + 1 := ⟨fuel - 1, by omega⟩
    have hL := x.2.2.1
    rw [Re_readHouse_b94, show (1000 : Int32) = iv 1000 from iv_lit _]
    refine Wp_ifn (by rw [iv_lt (by omega) (by omega) (by omega) (by omega)]; omega) (Wp_ck (by rw [k28 x.1]) (Wp_bde (hasMoreL x l) ?_))
    simp only [bI_0]
    by_cases k3 : tKd T L p = 3
    · rw [decide_eq_false (by omega)]
      refine Wp_ifp rfl (Wp_mono (readEndL (C := sC S) hN x.1 st.1.2.1) ?_)
      rintro v h2 ⟨rfl, f2, w2⟩
      refine ⟨f0.tr f2.hl19, ?_⟩
      rw [hoL, if_pos k3]
      exact ⟨l.2.2.2.2.2.2, st.i19 f2, ok, w2, by omega⟩
    · have tg := tE_gt (T := T) (L := L) (p := p) k3 hp
      have te := tE_le (T := T) (L := L) (p := p) hp
      rw [decide_eq_true k3]
      refine Wp_ifn (by decide) (Wp_ck (by rw [k28 x.1]) (Wp_bd2 (houseLineL hN x l hp st ok hs k3) ?_))
      rintro - h2 ⟨f2, s2⟩
      have x2 := f2.tx x
      rw [hoL, if_neg k3, il1, iv_add, show (k : Int) + 1 = ((k + 1 : Nat) : Int) from by omega]
      cases e : hlR T L S p with
      | inl f =>
        rw [e] at s2
        exact readFaultL (k := k + 1) hN x2 s2 (f0.tr f2) (by omega) (by omega)
      | inr p2 =>
        rw [e] at s2
        obtain ⟨s3, g3, t3, l3⟩ := s2
        exact readLoopL hN m (k + 1) p2 (hlS T L S p) h2 (by omega) (by omega) (f0.tr f2) x2 s3.1 s3.2 t3 (hlS_ok ok e) l3 fu (by omega)
