/-! THE PURE PROOFS, 36: sums, tests, and what joins them, the class's way (printed by gen58.py). -/
theorem exSumL {N : Nat} {T : Nat → Int} {L w : Nat} {rec : Nat → Nat → Int ⊕ (Nat × Ex)} {F : Nat → Int32 → PH → Option (Unit × PH)} (hN : 1100 ≤ N) (ok0 : OKP T L rec F w) (px : ∀ f, 0 < f ∧ f < 1048576 → PX T L f F (iv w)) : OKP T L (smR T L rec) (Re_sum N F) w := by
  have ok := productL hN ok0 px
  intro h p s c x l hp st hs
  have key : ∀ (m k : Nat) (p : Nat) (e : Ex) (h1 : PH), k + m = 1000 → FrQ h h1 → PoS T L s c (.inr (p, e)) h1 → ∀ fuel, m < fuel → Wp (Re_sum_b7 N F fuel 28 (iv w) (iv k) h1) (fun _ h2 => FrQ h h2 ∧ PoS T L s c (smL T L rec w m p e) h2) := by
    intro m
    induction m with
    | zero =>
      intro k p e h1 ek f1 q1 fuel hf
      obtain ⟨fu, rfl⟩ : ∃ g, fuel = g + 1 := ⟨fuel - 1, by omega⟩
      obtain rfl : k = 1000 := by omega
      rw [Re_sum_b7, smL]
      exact Wp_ifp (by decide) (Wp_ret ⟨f1, q1⟩)
    | succ m ih =>
      intro k p e h1 ek f1 q1 fuel hf
      obtain ⟨fu, rfl⟩ : ∃ g, fuel = g + 1 := ⟨fuel - 1, by omega⟩
      obtain ⟨l1, hp1, st1, hs1⟩ := q1
      have x1 := f1.tx x
      have kb := kd_b (p := p) x.2.2.2.1
      have wb := tWx_b (T := T) (L := L) (p := p)
      have hL := x.2.2.1
      have go : ∀ cd : Int, tKd T L p = 43 ∨ tKd T L p = 45 → ¬ tKd T L p = 3 → cd = (if tKd T L p = 43 then -11 else -12) → Wp (Re_sum_b64 N F (Re_sum_b7 N F fu) (iv cd) 28 (iv w) (iv k) h1) (fun _ h2 => FrQ h h2 ∧ PoS T L s c (smL T L rec w (m + 1) p e) h2) := by
        intro cd k42 k3 ecd
        unfold Re_sum_b64
        rw [smL, if_pos k42, ← ecd]
        refine Wp_ck (by rw [k28 x1.1]) (Wp_bn (p28_0 x1.1) (Wp_ck (by rw [k7 x1.1]) (Wp_bd2 (stepR hN x1 (r := .inr p) ⟨l1, hp1⟩) ?_)))
        rintro - h2 ⟨f2, l2, hp2⟩
        have x2 := f2.tx x1
        have te := tE_gt k3 hp1
        refine Wp_ck (by rw [k28 x2.1]) (Wp_bd2 (ok h2 _ (s ++ post e) (c + 1) x2 l2 hp2 (st1.fr f2) (by omega)) ?_)
        rintro - h3 ⟨f3, q3⟩
        have x3 := f3.tx x2
        have f13 := (f1.tr f2.q).tr f3
        generalize eq : pdR T L rec w (tE T L p) = r at q3
        refine Wp_ck (by rw [k28 x3.1]) (Wp_bn (p28_1 x3.1) (Wp_ck (by rw [k16 x3.1]) ?_))
        rw [il1, iv_add]
        cases r with
        | inl f =>
          refine Wp_bd2 (writeX x3.1) ?_
          rintro - h4 ⟨f4, e4⟩
          have x4 := f4.tx x3
          have e5 : hI h4 7 8 = iv f := by rw [e4]; exact q3.2
          obtain ⟨fu, rfl⟩ : ∃ g, fu = g + 1 := ⟨fu - 1, by omega⟩
          rw [Re_sum_b7]
          refine Wp_if (fun _ => Wp_ret ⟨f13.tr f4, q3.1, e5⟩) (fun _ => ?_)
          exact Wp_ck (by rw [k28 x4.1]) (Wp_bde (hasMoreF x4.1 q3.1 e5) (Wp_ifp rfl (Wp_ret ⟨f13.tr f4, q3.1, e5⟩)))
        | inr t =>
          obtain ⟨p2, e2⟩ := t
          obtain ⟨l3, hp3, st3, hs3⟩ := q3
          refine Wp_bd2 (writeL (v := cd) x3.1 st3 (by omega)) ?_
          rintro - h4 ⟨f4, i4, j4, st4⟩
          have ea : s ++ post (xop cd e e2) = s ++ post e ++ post e2 ++ [cd] := by
            show s ++ (post e ++ post e2 ++ [cd]) = _
            simp only [List.append_assoc]
          have r := ih (k + 1) p2 (xop cd e e2) h4 (by omega) (f13.tr f4) ⟨l3.cg i4 j4, hp3, by rw [ea]; exact st4, by rw [ea, List.length_append, List.length_singleton]; omega⟩ fu (by omega)
          rw [show ((k + 1 : Nat) : Int) = (k : Int) + 1 from by omega] at r
          exact r
      rw [Re_sum_b7, show (1000 : Int32) = iv 1000 from iv_lit _]
      refine Wp_ifn (by rw [iv_le (by omega) (by omega) (by omega) (by omega)]; omega) (Wp_ck (by rw [k28 x1.1]) (Wp_bde (hasMoreL x1 l1) ?_))
      by_cases k3 : tKd T L p = 3
      · rw [decide_eq_false (by omega), smL, if_neg (show ¬ (tKd T L p = 43 ∨ tKd T L p = 45) by omega)]
        exact Wp_ifp rfl (Wp_ret ⟨f1, l1, hp1, st1, hs1⟩)
      rw [decide_eq_true k3]
      refine Wp_ifn (by decide) (Wp_ck (by rw [k28 x1.1]) (Wp_bn (p28_0 x1.1) (Wp_ck (by rw [k7 x1.1]) ?_)))
      rw [l1.2.2.1, show (43 : Int32) = iv 43 from iv_lit _, show (45 : Int32) = iv 45 from iv_lit _]
      have b45 : (tKd T L p = 43 ∨ tKd T L p = 45) → Wp (Re_sum_b45 N F (Re_sum_b7 N F fu) 28 (iv w) (iv k) h1) (fun _ h2 => FrQ h h2 ∧ PoS T L s c (smL T L rec w (m + 1) p e) h2) := by
        intro z
        unfold Re_sum_b45
        refine Wp_ck (by rw [k28 x1.1]) (Wp_bn (p28_0 x1.1) (Wp_ck (by rw [k7 x1.1]) ?_))
        rw [l1.2.2.1, show (43 : Int32) = iv 43 from iv_lit _, show (-11 : Int32) = iv (-11) from by decide, show (-12 : Int32) = iv (-12) from by decide]
        refine Wp_if (fun d => ?_) (fun d => ?_)
        · rw [iv_eq (by omega) (by omega) (by omega) (by omega)] at d
          exact go (-11) z k3 (by rw [if_pos d])
        · rw [iv_eq (by omega) (by omega) (by omega) (by omega)] at d
          exact go (-12) z k3 (by rw [if_neg d])
      refine Wp_if (fun d => ?_) (fun d => ?_)
      · rw [iv_eq (by omega) (by omega) (by omega) (by omega)] at d
        exact b45 (Or.inl d)
      · rw [iv_eq (by omega) (by omega) (by omega) (by omega)] at d
        refine Wp_if (fun d2 => ?_) (fun d2 => ?_)
        · rw [iv_eq (by omega) (by omega) (by omega) (by omega)] at d2
          exact b45 (Or.inr d2)
        · rw [iv_eq (by omega) (by omega) (by omega) (by omega)] at d2
          rw [smL, if_neg (by omega)]
          exact Wp_ret ⟨f1, l1, hp1, st1, hs1⟩
  unfold Re_sum smR
  refine Wp_ck (by rw [k28 x.1]) (Wp_bd2 (ok h p s c x l hp st hs) ?_)
  rintro - h1 ⟨f1, q1⟩
  have x1 := f1.tx x
  generalize pdR T L rec w p = r at q1
  cases r with
  | inl f =>
    refine Wp_mono (loopX (N := N) (by omega) q1.1 f1 x1 q1.2).2.1 ?_
    rintro - h2 ⟨f2, e2⟩
    exact ⟨f2, q1.1, e2⟩
  | inr t =>
    obtain ⟨p2, e2⟩ := t
    exact key 1000 0 p2 e2 h1 (by omega) f1 q1 N (by omega)
theorem exTestL {N : Nat} {T : Nat → Int} {L w : Nat} {rec : Nat → Nat → Int ⊕ (Nat × Ex)} {F : Nat → Int32 → PH → Option (Unit × PH)} (hN : 1100 ≤ N) (ok0 : OKP T L rec F w) (px : ∀ f, 0 < f ∧ f < 1048576 → PX T L f F (iv w)) : OKP T L (tsR T L rec) (Re_test N F) w := by
  have ok := exSumL hN ok0 px
  intro h p s c x l hp st hs
  unfold Re_test tsR
  refine Wp_ck (by rw [k28 x.1]) (Wp_bd2 (ok h p s c x l hp st hs) ?_)
  rintro - h1 ⟨f1, q1⟩
  have x1 := f1.tx x
  generalize smR T L rec w p = r at q1
  refine Wp_ck (by rw [k28 x1.1]) ?_
  cases r with
  | inl f => exact Wp_bde (hasMoreF x1.1 q1.1 q1.2) (Wp_ifp rfl (Wp_ret ⟨f1, q1⟩))
  | inr t =>
    obtain ⟨p1, e⟩ := t
    obtain ⟨l1, hp1, st1, hs1⟩ := q1
    have kb := kd_b (p := p1) x.2.2.2.1
    have hL := x.2.2.1
    refine Wp_bde (hasMoreL x1 l1) ?_
    show Wp _ (fun _ h2 => FrQ h h2 ∧ PoS T L s c (if tKd T L p1 = 60 ∨ tKd T L p1 = 61 then _ else _) h2)
    by_cases k3 : tKd T L p1 = 3
    · rw [decide_eq_false (by omega), if_neg (show ¬ (tKd T L p1 = 60 ∨ tKd T L p1 = 61) by omega)]
      exact Wp_ifp rfl (Wp_ret ⟨f1, l1, hp1, st1, hs1⟩)
    rw [decide_eq_true k3]
    refine Wp_ifn (by decide) (Wp_ck (by rw [k28 x1.1]) (Wp_bn (p28_0 x1.1) (Wp_ck (by rw [k7 x1.1]) ?_)))
    rw [l1.2.2.1, show (60 : Int32) = iv 60 from iv_lit _, show (61 : Int32) = iv 61 from iv_lit _]
    have go : ∀ cd : Int, cd = (if tKd T L p1 = 60 then -9 else -10) → Wp (Re_test_b55 N F (iv cd) 28 (iv w) h1) (fun _ h2 => FrQ h h2 ∧ PoS T L s c (pbd (smR T L rec w (tE T L p1)) fun p2 e2 => .inr (p2, xop (if tKd T L p1 = 60 then -9 else -10) e e2)) h2) := by
      intro cd ecd
      rw [← ecd]
      unfold Re_test_b55
      refine Wp_ck (by rw [k28 x1.1]) (Wp_bn (p28_0 x1.1) (Wp_ck (by rw [k7 x1.1]) (Wp_bd2 (stepR hN x1 (r := .inr p1) ⟨l1, hp1⟩) ?_)))
      rintro - h2 ⟨f2, l2, hp2⟩
      have x2 := f2.tx x1
      have te := tE_gt k3 hp1
      refine Wp_ck (by rw [k28 x2.1]) (Wp_bd2 (ok h2 _ (s ++ post e) (c + 1) x2 l2 hp2 (st1.fr f2) (by omega)) ?_)
      rintro - h3 ⟨f3, q3⟩
      have x3 := f3.tx x2
      have f13 := (f1.tr f2.q).tr f3
      generalize eq : smR T L rec w (tE T L p1) = r at q3
      refine Wp_ck (by rw [k28 x3.1]) (Wp_bn (p28_1 x3.1) (Wp_ck (by rw [k16 x3.1]) ?_))
      cases r with
      | inl f =>
        refine Wp_bd2 (writeX x3.1) ?_
        rintro - h4 ⟨f4, e4⟩
        exact Wp_ret ⟨f13.tr f4, q3.1, by rw [e4]; exact q3.2⟩
      | inr t =>
        obtain ⟨p2, e2⟩ := t
        obtain ⟨l3, hp3, st3, hs3⟩ := q3
        refine Wp_bd2 (writeL (v := cd) x3.1 st3 (by omega)) ?_
        rintro - h4 ⟨f4, i4, j4, st4⟩
        have ea : s ++ post (xop cd e e2) = s ++ post e ++ post e2 ++ [cd] := by
          show s ++ (post e ++ post e2 ++ [cd]) = _
          simp only [List.append_assoc]
        exact Wp_ret ⟨f13.tr f4, l3.cg i4 j4, hp3, by rw [ea]; exact st4, by rw [ea, List.length_append, List.length_singleton]; omega⟩
    have b36 : (tKd T L p1 = 60 ∨ tKd T L p1 = 61) → Wp (Re_test_b36 N F 28 (iv w) h1) (fun _ h2 => FrQ h h2 ∧ PoS T L s c (pbd (smR T L rec w (tE T L p1)) fun p2 e2 => .inr (p2, xop (if tKd T L p1 = 60 then -9 else -10) e e2)) h2) := by
      intro z
      unfold Re_test_b36
      refine Wp_ck (by rw [k28 x1.1]) (Wp_bn (p28_0 x1.1) (Wp_ck (by rw [k7 x1.1]) ?_))
      rw [l1.2.2.1, show (60 : Int32) = iv 60 from iv_lit _, show (-9 : Int32) = iv (-9) from by decide, show (-10 : Int32) = iv (-10) from by decide]
      refine Wp_if (fun d => ?_) (fun d => ?_)
      · rw [iv_eq (by omega) (by omega) (by omega) (by omega)] at d
        exact go (-9) (by rw [if_pos d])
      · rw [iv_eq (by omega) (by omega) (by omega) (by omega)] at d
        exact go (-10) (by rw [if_neg d])
    refine Wp_if (fun d => ?_) (fun d => ?_)
    · rw [iv_eq (by omega) (by omega) (by omega) (by omega)] at d
      rw [if_pos (Or.inl d)]
      exact b36 (Or.inl d)
    · rw [iv_eq (by omega) (by omega) (by omega) (by omega)] at d
      refine Wp_if (fun d2 => ?_) (fun d2 => ?_)
      · rw [iv_eq (by omega) (by omega) (by omega) (by omega)] at d2
        rw [if_pos (Or.inr d2)]
        exact b36 (Or.inr d2)
      · rw [iv_eq (by omega) (by omega) (by omega) (by omega)] at d2
        rw [if_neg (by omega)]
        exact Wp_ret ⟨f1, l1, hp1, st1, hs1⟩
theorem exEitherL {N : Nat} {T : Nat → Int} {L w : Nat} {rec : Nat → Nat → Int ⊕ (Nat × Ex)} {F : Nat → Int32 → PH → Option (Unit × PH)} (hN : 1100 ≤ N) (ok0 : OKP T L rec F w) (px : ∀ f, 0 < f ∧ f < 1048576 → PX T L f F (iv w)) : OKP T L (orR T L rec) (Re_either N F) w := by
  have ok := exTestL hN ok0 px
  intro h p s c x l hp st hs
  have key : ∀ (m k : Nat) (p : Nat) (e : Ex) (h1 : PH), k + m = 1000 → FrQ h h1 → PoS T L s c (.inr (p, e)) h1 → ∀ fuel, m < fuel → Wp (Re_either_b7 N F fuel 28 (iv w) (iv k) h1) (fun _ h2 => FrQ h h2 ∧ PoS T L s c (orL T L rec w m p e) h2) := by
    intro m
    induction m with
    | zero =>
      intro k p e h1 ek f1 q1 fuel hf
      obtain ⟨fu, rfl⟩ : ∃ g, fuel = g + 1 := ⟨fuel - 1, by omega⟩
      obtain rfl : k = 1000 := by omega
      rw [Re_either_b7, orL]
      exact Wp_ifp (by decide) (Wp_ret ⟨f1, q1⟩)
    | succ m ih =>
      intro k p e h1 ek f1 q1 fuel hf
      obtain ⟨fu, rfl⟩ : ∃ g, fuel = g + 1 := ⟨fuel - 1, by omega⟩
      obtain ⟨l1, hp1, st1, hs1⟩ := q1
      have x1 := f1.tx x
      have kb := kd_b (p := p) x.2.2.2.1
      have wb := tWx_b (T := T) (L := L) (p := p)
      have hL := x.2.2.1
      have go : ∀ cd : Int, tWx T L p = 21 ∨ tWx T L p = 22 → ¬ tKd T L p = 3 → cd = (if tWx T L p = 21 then -7 else -8) → Wp (Re_either_b64 N F (Re_either_b7 N F fu) (iv cd) 28 (iv w) (iv k) h1) (fun _ h2 => FrQ h h2 ∧ PoS T L s c (orL T L rec w (m + 1) p e) h2) := by
        intro cd k42 k3 ecd
        unfold Re_either_b64
        rw [orL, if_pos k42, ← ecd]
        refine Wp_ck (by rw [k28 x1.1]) (Wp_bn (p28_0 x1.1) (Wp_ck (by rw [k7 x1.1]) (Wp_bd2 (stepR hN x1 (r := .inr p) ⟨l1, hp1⟩) ?_)))
        rintro - h2 ⟨f2, l2, hp2⟩
        have x2 := f2.tx x1
        have te := tE_gt k3 hp1
        refine Wp_ck (by rw [k28 x2.1]) (Wp_bd2 (ok h2 _ (s ++ post e) (c + 1) x2 l2 hp2 (st1.fr f2) (by omega)) ?_)
        rintro - h3 ⟨f3, q3⟩
        have x3 := f3.tx x2
        have f13 := (f1.tr f2.q).tr f3
        generalize eq : tsR T L rec w (tE T L p) = r at q3
        refine Wp_ck (by rw [k28 x3.1]) (Wp_bn (p28_1 x3.1) (Wp_ck (by rw [k16 x3.1]) ?_))
        rw [il1, iv_add]
        cases r with
        | inl f =>
          refine Wp_bd2 (writeX x3.1) ?_
          rintro - h4 ⟨f4, e4⟩
          have x4 := f4.tx x3
          have e5 : hI h4 7 8 = iv f := by rw [e4]; exact q3.2
          obtain ⟨fu, rfl⟩ : ∃ g, fu = g + 1 := ⟨fu - 1, by omega⟩
          rw [Re_either_b7]
          refine Wp_if (fun _ => Wp_ret ⟨f13.tr f4, q3.1, e5⟩) (fun _ => ?_)
          exact Wp_ck (by rw [k28 x4.1]) (Wp_bde (hasMoreF x4.1 q3.1 e5) (Wp_ifp rfl (Wp_ret ⟨f13.tr f4, q3.1, e5⟩)))
        | inr t =>
          obtain ⟨p2, e2⟩ := t
          obtain ⟨l3, hp3, st3, hs3⟩ := q3
          refine Wp_bd2 (writeL (v := cd) x3.1 st3 (by omega)) ?_
          rintro - h4 ⟨f4, i4, j4, st4⟩
          have ea : s ++ post (xop cd e e2) = s ++ post e ++ post e2 ++ [cd] := by
            show s ++ (post e ++ post e2 ++ [cd]) = _
            simp only [List.append_assoc]
          have r := ih (k + 1) p2 (xop cd e e2) h4 (by omega) (f13.tr f4) ⟨l3.cg i4 j4, hp3, by rw [ea]; exact st4, by rw [ea, List.length_append, List.length_singleton]; omega⟩ fu (by omega)
          rw [show ((k + 1 : Nat) : Int) = (k : Int) + 1 from by omega] at r
          exact r
      rw [Re_either_b7, show (1000 : Int32) = iv 1000 from iv_lit _]
      refine Wp_ifn (by rw [iv_le (by omega) (by omega) (by omega) (by omega)]; omega) (Wp_ck (by rw [k28 x1.1]) (Wp_bde (hasMoreL x1 l1) ?_))
      by_cases k3 : tKd T L p = 3
      · rw [decide_eq_false (by omega), orL, if_neg (show ¬ (tWx T L p = 21 ∨ tWx T L p = 22) by unfold tWx; rw [if_neg (by omega)]; omega)]
        exact Wp_ifp rfl (Wp_ret ⟨f1, l1, hp1, st1, hs1⟩)
      rw [decide_eq_true k3]
      refine Wp_ifn (by decide) (Wp_ck (by rw [k28 x1.1]) (Wp_bn (p28_0 x1.1) (Wp_ck (by rw [k7 x1.1]) ?_)))
      rw [show (21 : Int32) = iv 21 from iv_lit _, show (22 : Int32) = iv 22 from iv_lit _]
      have b45 : (tWx T L p = 21 ∨ tWx T L p = 22) → Wp (Re_either_b45 N F (Re_either_b7 N F fu) 28 (iv w) (iv k) h1) (fun _ h2 => FrQ h h2 ∧ PoS T L s c (orL T L rec w (m + 1) p e) h2) := by
        intro z
        unfold Re_either_b45
        refine Wp_ck (by rw [k28 x1.1]) (Wp_bn (p28_0 x1.1) (Wp_ck (by rw [k7 x1.1]) ?_))
        rw [show (21 : Int32) = iv 21 from iv_lit _, show (-7 : Int32) = iv (-7) from by decide, show (-8 : Int32) = iv (-8) from by decide]
        refine Wp_bde (isWordL x1 l1 (by omega)) ?_
        by_cases d : tWx T L p = 21
        · rw [decide_eq_true d]
          exact Wp_ifn (by decide) (go (-7) z k3 (by rw [if_pos d]))
        · rw [decide_eq_false d]
          exact Wp_ifp rfl (go (-8) z k3 (by rw [if_neg d]))
      refine Wp_bde (isWordL x1 l1 (by omega)) ?_
      by_cases d : tWx T L p = 21
      · rw [decide_eq_true d]
        exact Wp_ifn (by decide) (b45 (Or.inl d))
      · rw [decide_eq_false d]
        refine Wp_ifp rfl (Wp_ck (by rw [k28 x1.1]) (Wp_bn (p28_0 x1.1) (Wp_ck (by rw [k7 x1.1]) (Wp_bde (isWordL x1 l1 (by omega)) ?_))))
        by_cases d2 : tWx T L p = 22
        · rw [decide_eq_true d2]
          exact Wp_ifn (by decide) (b45 (Or.inr d2))
        · rw [decide_eq_false d2, orL, if_neg (show ¬ (tWx T L p = 21 ∨ tWx T L p = 22) by omega)]
          exact Wp_ifp rfl (Wp_ret ⟨f1, l1, hp1, st1, hs1⟩)
  unfold Re_either orR
  refine Wp_ck (by rw [k28 x.1]) (Wp_bd2 (ok h p s c x l hp st hs) ?_)
  rintro - h1 ⟨f1, q1⟩
  have x1 := f1.tx x
  generalize tsR T L rec w p = r at q1
  cases r with
  | inl f =>
    refine Wp_mono (loopX (N := N) (by omega) q1.1 f1 x1 q1.2).2.2 ?_
    rintro - h2 ⟨f2, e2⟩
    exact ⟨f2, q1.1, e2⟩
  | inr t =>
    obtain ⟨p2, e2⟩ := t
    exact key 1000 0 p2 e2 h1 (by omega) f1 q1 N (by omega)
