/-! THE PURE PROOFS, 37: the parts of how much a guest gets, the class's way. -/
theorem tWx_kd {T : Nat → Int} {L p : Nat} (h : 0 ≤ tWx T L p) : tKd T L p = 2 := by
  by_cases c : tKd T L p = 2
  · exact c
  · unfold tWx at h
    rw [if_neg c] at h
    omega
theorem exPartL {N : Nat} {T : Nat → Int} {L : Nat} (hN : 1100 ≤ N) : ∀ n w : Nat, 6 ≤ n + w → 1 ≤ n → w ≤ 5 → OKP T L (ptR T L n) (Re_part N n) w := by
  intro n
  induction n with
  | zero => intro w _ h1; omega
  | succ n ih =>
    intro w hw _ w5 h p st c x l hp sl hs
    have s := x.1
    have hL := x.2.2.1
    have kb := kd_b (p := p) x.2.2.2.1
    have wb := tWx_b (T := T) (L := L) (p := p)
    have rs : RdS T L (.inr p) h := ⟨l, hp⟩
    have bad : ∀ (k : Int), 1 ≤ k ∧ k ≤ 5 → ptR T L (n + 1) w p = .inl (k + 16 * (tB T L p : Nat)) → Wp (bd (Ta_blame N 7 (iv k) h) fun _ h54 => some ((), h54)) (fun _ h2 => FrQ h h2 ∧ PoS T L st c (ptR T L (n + 1) w p) h2) := by
      intro k hk e
      rw [e]
      refine Wp_bd2 (blameR x rs hk) ?_
      rintro - h2 ⟨f2, s2⟩
      exact Wp_ret ⟨f2.q, s2⟩
    -- five deep
    have deep : ∀ x2 x3 x4 : Int32, 5 ≤ w → (tKd T L p = 1 ∨ 23 ≤ tWx T L p ∨ tWx T L p = 20 ∨ tKd T L p = 40) → Wp (Re_part_b93 N (Re_part N n) 28 (iv w) x2 x3 x4 h) (fun _ h2 => FrQ h h2 ∧ PoS T L st c (ptR T L (n + 1) w p) h2) := by
      intro x2 x3 x4 h5 ht
      unfold Re_part_b93
      rw [show (5 : Int32) = iv 5 from iv_lit _]
      refine Wp_ifn (by rw [iv_lt (by omega) (by omega) (by omega) (by omega)]; omega) (Wp_ck (by rw [k28 s]) (Wp_bn (p28_0 s) (Wp_ck (by rw [k7 s]) ?_)))
      exact bad 5 (by omega) (by rw [ptR, if_neg (fun z => z ht), if_pos h5])
    -- a number or a fact
    have plain : ∀ (x2 x4 : Int32) (v : Int) (e : Ex), w < 5 → tKd T L p ≠ 3 → post e = [v] → ptR T L (n + 1) w p = .inr (tE T L p, e) → (if x2 = 0 then hI h 7 5 else 22 - hI h 7 6) = iv v → Wp (Re_part_b93 N (Re_part N n) 28 (iv w) x2 1 x4 h) (fun _ h2 => FrQ h h2 ∧ PoS T L st c (ptR T L (n + 1) w p) h2) := by
      intro x2 x4 v e h5 k3 pe er ev
      have te := tE_gt k3 hp
      have te2 := tE_le (T := T) hp
      have wr : Wp (Re_part_b141 N (Re_part N n) (some 16) (iv v) 28 h) (fun _ h2 => FrQ h h2 ∧ PoS T L st c (ptR T L (n + 1) w p) h2) := by
        unfold Re_part_b141
        refine Wp_bn rfl (Wp_ck (by rw [k16 s]) (Wp_bd2 (writeL s sl (by omega)) ?_))
        rintro - h1 ⟨f1, i1, j1, sl1⟩
        have x1 := f1.tx x
        refine Wp_ck (by rw [k28 x1.1]) (Wp_bn (p28_0 x1.1) (Wp_ck (by rw [k7 x1.1]) (Wp_bd2 (stepR hN x1 (r := .inr p) ⟨l.cg i1 j1, hp⟩) ?_)))
        rintro - h2 ⟨f2, s2⟩
        rw [er]
        refine Wp_ret ⟨f1.tr f2.q, s2.1, s2.2, ?_, ?_⟩
        · rw [pe]; exact sl1.fr f2
        · rw [pe, List.length_append, List.length_singleton]; omega
      unfold Re_part_b93
      rw [show (5 : Int32) = iv 5 from iv_lit _]
      refine Wp_ifp (by rw [iv_lt (by omega) (by omega) (by omega) (by omega)]; omega) (Wp_ifn (by decide) (Wp_ck (by rw [k28 s]) ?_))
      refine Wp_if (fun c2 => ?_) (fun c2 => ?_)
      · rw [if_pos c2] at ev
        refine Wp_bn (p28_0 s) (Wp_ck (by rw [k7 s]) ?_)
        rw [p28_1 s, ev]
        exact wr
      · rw [if_neg c2] at ev
        refine Wp_bn (p28_0 s) (Wp_ck (by rw [k7 s]) ?_)
        rw [p28_1 s, ev]
        exact wr
    have rc : w < 5 → OKP T L (ptR T L n) (Re_part N n) (w + 1) := fun h5 => ih (w + 1) (by omega) (by omega) (by omega)
    have px : w < 5 → ∀ f, 0 < f ∧ f < 1048576 → PX T L f (Re_part N n) (iv ((w + 1 : Nat) : Int)) := fun h5 f hf => partX (by omega) hf n (w + 1) (by omega) (by omega) (by omega)
    -- not
    have nope : w < 5 → tWx T L p = 20 → Wp (Re_part_b93 N (Re_part N n) 28 (iv w) 0 0 1 h) (fun _ h2 => FrQ h h2 ∧ PoS T L st c (ptR T L (n + 1) w p) h2) := by
      intro h5 w20
      have k2 := tWx_kd (T := T) (L := L) (p := p) (by omega)
      have te := tE_gt (T := T) (L := L) (p := p) (by omega) hp
      have er : ptR T L (n + 1) w p = pbd (ptR T L n (w + 1) (tE T L p)) fun p2 e => .inr (p2, xno e) := by
        rw [ptR, if_neg (by omega), if_neg (by omega), if_neg (by omega), if_neg (by omega), if_pos w20]
      unfold Re_part_b93
      rw [show (5 : Int32) = iv 5 from iv_lit _]
      refine Wp_ifp (by rw [iv_lt (by omega) (by omega) (by omega) (by omega)]; omega) (Wp_ifp rfl (Wp_ifn (by decide) (Wp_ck (by rw [k28 s]) (Wp_bn (p28_0 s) (Wp_ck (by rw [k7 s]) (Wp_bd2 (stepR hN x rs) ?_))))))
      rintro - h1 ⟨f1, s1⟩
      have x1 := f1.tx x
      refine Wp_ck (by rw [k28 x1.1]) ?_
      have r := rc h5 h1 _ st (c + 1) x1 s1.1 s1.2 (sl.fr f1) (by omega)
      rw [show ((w + 1 : Nat) : Int) = (w : Int) + 1 from by omega] at r
      rw [il1, iv_add]
      refine Wp_bd2 r ?_
      rintro - h2 ⟨f2, q2⟩
      have x2 := f2.tx x1
      rw [er]
      generalize ptR T L n (w + 1) (tE T L p) = q at q2
      refine Wp_ck (by rw [k28 x2.1]) (Wp_bn (p28_1 x2.1) (Wp_ck (by rw [k16 x2.1]) ?_))
      cases q with
      | inl f =>
        refine Wp_bd2 (writeX x2.1) ?_
        rintro - h3 ⟨f3, e3⟩
        exact Wp_ret ⟨(f1.q.tr f2).tr f3, q2.1, by rw [e3]; exact q2.2⟩
      | inr t =>
        obtain ⟨p2, e⟩ := t
        obtain ⟨l2, hp2, sl2, hs2⟩ := q2
        rw [show (-6 : Int32) = iv (-6) from by decide]
        refine Wp_bd2 (writeL x2.1 sl2 (by omega)) ?_
        rintro - h3 ⟨f3, i3, j3, sl3⟩
        have ea : st ++ post (xno e) = st ++ post e ++ [-6] := by
          show st ++ (post e ++ [-6]) = _
          simp only [List.append_assoc]
        exact Wp_ret ⟨(f1.q.tr f2).tr f3, l2.cg i3 j3, hp2, by rw [ea]; exact sl3, by rw [ea, List.length_append, List.length_singleton]; omega⟩
    -- in brackets
    have brk : w < 5 → tKd T L p = 40 → Wp (Re_part_b93 N (Re_part N n) 28 (iv w) 0 0 0 h) (fun _ h2 => FrQ h h2 ∧ PoS T L st c (ptR T L (n + 1) w p) h2) := by
      intro h5 k40
      have wn : tWx T L p = -1 := by unfold tWx; rw [if_neg (by omega)]
      have te := tE_gt (T := T) (L := L) (p := p) (by omega) hp
      have er : ptR T L (n + 1) w p = pbd (orR T L (ptR T L n) (w + 1) (tE T L p)) fun p2 e => if tKd T L p2 = 41 then .inr (tE T L p2, xpar e) else .inl (1 + 16 * (tB T L p2 : Nat)) := by
        rw [ptR, if_neg (by omega), if_neg (by omega), if_neg (by omega), if_neg (by omega), if_neg (by omega)]
      unfold Re_part_b93
      rw [show (5 : Int32) = iv 5 from iv_lit _]
      refine Wp_ifp (by rw [iv_lt (by omega) (by omega) (by omega) (by omega)]; omega) (Wp_ifp rfl (Wp_ifp rfl (Wp_ck (by rw [k28 s]) (Wp_bn (p28_0 s) (Wp_ck (by rw [k7 s]) (Wp_bd2 (stepR hN x rs) ?_))))))
      rintro - h1 ⟨f1, s1⟩
      have x1 := f1.tx x
      refine Wp_ck (by rw [k28 x1.1]) ?_
      have r := exEitherL hN (rc h5) (px h5) h1 _ st (c + 1) x1 s1.1 s1.2 (sl.fr f1) (by omega)
      rw [show ((w + 1 : Nat) : Int) = (w : Int) + 1 from by omega] at r
      rw [il1, iv_add]
      refine Wp_bd2 r ?_
      rintro - h2 ⟨f2, q2⟩
      have x2 := f2.tx x1
      rw [er]
      generalize orR T L (ptR T L n) (w + 1) (tE T L p) = q at q2
      have fin : ∀ (r2 : Int ⊕ Nat) (h3 : PH), Fr7 h2 h3 → RdS T L r2 h3 → Wp (Re_part_b219 N (Re_part N n) 28 h3) (fun _ h4 => Fr7 h2 h4 ∧ RdS T L (stpR T L r2) h4) := by
        intro r2 h3 f3 s3
        have x3 := f3.tx x2
        unfold Re_part_b219
        refine Wp_ck (by rw [k28 x3.1]) (Wp_bn (p28_0 x3.1) (Wp_ck (by rw [k7 x3.1]) (Wp_bd2 (stepR hN x3 s3) ?_)))
        rintro - h4 ⟨f4, s4⟩
        exact Wp_ret ⟨f3.tr f4, s4⟩
      refine Wp_ck (by rw [k28 x2.1]) (Wp_bn (p28_0 x2.1) (Wp_ck (by rw [k7 x2.1]) ?_))
      cases q with
      | inl f =>
        have x41 : Wp (Re_part_b219 N (Re_part N n) 28 h2) (fun _ h4 => FrQ h h4 ∧ PoS T L st c (.inl f) h4) := by
          refine Wp_mono (fin (.inl f) h2 Fr7.rf q2) ?_
          rintro - h3 ⟨f3, s3⟩
          exact ⟨(f1.q.tr f2).tr f3.q, s3⟩
        refine Wp_if (fun _ => x41) (fun _ => ?_)
        exact Wp_bde (blameX x2.1 q2.1 q2.2) x41
      | inr t =>
        obtain ⟨p2, e⟩ := t
        obtain ⟨l2, hp2, sl2, hs2⟩ := q2
        have kb2 := kd_b (p := p2) x.2.2.2.1
        rw [l2.2.2.1, show (41 : Int32) = iv 41 from iv_lit _]
        show Wp _ (fun _ h2 => FrQ h h2 ∧ PoS T L st c (if tKd T L p2 = 41 then _ else _) h2)
        refine Wp_if (fun d => ?_) (fun d => ?_)
        · rw [iv_eq (by omega) (by omega) (by omega) (by omega)] at d
          rw [if_pos d]
          have te3 := tE_gt (T := T) (L := L) (p := p2) (by omega) hp2
          refine Wp_mono (fin (.inr p2) h2 Fr7.rf ⟨l2, hp2⟩) ?_
          rintro - h3 ⟨f3, s3⟩
          exact ⟨(f1.q.tr f2).tr f3.q, s3.1, s3.2, sl2.fr f3, by
            show (st ++ post e).length + c ≤ _
            omega⟩
        · rw [iv_eq (by omega) (by omega) (by omega) (by omega)] at d
          rw [if_neg d]
          refine Wp_bd2 (blameR x2 (r := .inr p2) ⟨l2, hp2⟩ (by omega)) ?_
          rintro - h3 ⟨f3, s3⟩
          refine Wp_mono (fin _ h3 f3 s3) ?_
          rintro - h4 ⟨f4, s4⟩
          exact ⟨(f1.q.tr f2).tr f4.q, s4⟩
    have any : ∀ x2 x3 x4 : Int32, (w < 5 → Wp (Re_part_b93 N (Re_part N n) 28 (iv w) x2 x3 x4 h) (fun _ h2 => FrQ h h2 ∧ PoS T L st c (ptR T L (n + 1) w p) h2)) → (tKd T L p = 1 ∨ 23 ≤ tWx T L p ∨ tWx T L p = 20 ∨ tKd T L p = 40) → Wp (Re_part_b93 N (Re_part N n) 28 (iv w) x2 x3 x4 h) (fun _ h2 => FrQ h h2 ∧ PoS T L st c (ptR T L (n + 1) w p) h2) := by
      intro x2 x3 x4 g ht
      by_cases h5 : w < 5
      · exact g h5
      · exact deep x2 x3 x4 (by omega) ht
    have p49 : ∀ (x2 : Int32) (q : Unit → PH → Prop), (∀ x4, Wp (Re_part_b93 N (Re_part N n) 28 (iv w) x2 1 x4 h) q) → Wp (Re_part_b49 N (Re_part N n) 1 28 (iv w) x2 h) q := by
      intro x2 q g
      unfold Re_part_b49
      rw [show (20 : Int32) = iv 20 from iv_lit _]
      exact Wp_ck (by rw [k28 s]) (Wp_bn (p28_0 s) (Wp_ck (by rw [k7 s]) (Wp_bde (isWordL x l (by omega)) (Wp_ifn (by decide) (g _)))))
    have e23 : ∀ q : Unit → PH → Prop, (¬ 23 ≤ tWx T L p → Wp (Re_part_b28 N (Re_part N n) 0 28 (iv w) h) q) → (23 ≤ tWx T L p → Wp (Re_part_b28 N (Re_part N n) 1 28 (iv w) h) q) → Wp (Re_part N (n + 1) 28 (iv w) h) q := by
      intro q g0 g1
      rw [Re_part]
      unfold Re_part_b27
      refine Wp_ck (by rw [k28 s]) (Wp_bn (p28_0 s) (Wp_ck (by rw [k7 s]) ?_))
      rw [l.2.2.1, l.2.2.2.2.1, show (2 : Int32) = iv 2 from iv_lit _, show (23 : Int32) = iv 23 from iv_lit _]
      refine Wp_if (fun d => ?_) (fun d => ?_)
      · refine Wp_if (fun d2 => ?_) (fun d2 => ?_)
        · rw [iv_lt (by omega) (by omega) (by omega) (by omega)] at d2
          exact g0 (by omega)
        · rw [iv_lt (by omega) (by omega) (by omega) (by omega)] at d2
          exact g1 (by omega)
      · rw [iv_eq (by omega) (by omega) (by omega) (by omega)] at d
        refine g0 (fun z => d (tWx_kd (by omega)))
    have b28 : ∀ x3 : Int32, Re_part_b28 N (Re_part N n) x3 28 (iv w) h = if tKd T L p = 1 then Re_part_b49 N (Re_part N n) 1 28 (iv w) x3 h else if x3 = 0 then Re_part_b49 N (Re_part N n) 0 28 (iv w) x3 h else Re_part_b49 N (Re_part N n) 1 28 (iv w) x3 h := by
      intro x3
      unfold Re_part_b28 Re_part_b44
      rw [ck_p (by rw [k28 s]), p28_0 s, bn_s, ck_p (by rw [k7 s]), l.2.2.1, show (1 : Int32) = iv 1 from iv_lit _]
      simp only [show (iv (tKd T L p) = iv 1) ↔ tKd T L p = 1 from iv_eq (by omega) (by omega) (by omega) (by omega)]
    refine e23 _ (fun nf => ?_) (fun yf => ?_)
    · rw [b28]
      by_cases k1 : tKd T L p = 1
      · have nb := tNm_b k1
        rw [if_pos k1]
        refine p49 0 _ (fun x4 => any 0 1 x4 (fun h5 => plain 0 x4 (tNm T L p) (xnum (tNm T L p)) h5 (by omega) rfl ?_ ?_) (Or.inl k1))
        · rw [ptR, if_neg (by omega), if_neg (by omega), if_pos k1]
        · rw [if_pos rfl, l.2.2.2.1 k1]
      rw [if_neg k1, if_pos rfl]
      unfold Re_part_b49
      rw [show (20 : Int32) = iv 20 from iv_lit _]
      refine Wp_ck (by rw [k28 s]) (Wp_bn (p28_0 s) (Wp_ck (by rw [k7 s]) (Wp_bde (isWordL x l (by omega)) (Wp_ifp rfl ?_))))
      by_cases w20 : tWx T L p = 20
      · rw [decide_eq_true w20]
        exact Wp_ifn (by decide) (any 0 0 1 (fun h5 => nope h5 w20) (Or.inr (Or.inr (Or.inl w20))))
      · rw [decide_eq_false w20]
        refine Wp_ifp rfl (Wp_ck (by rw [k28 s]) (Wp_bn (p28_0 s) (Wp_ck (by rw [k7 s]) ?_)))
        rw [l.2.2.1, show (40 : Int32) = iv 40 from iv_lit _]
        refine Wp_if (fun d => ?_) (fun d => ?_)
        · rw [iv_eq (by omega) (by omega) (by omega) (by omega)] at d
          exact any 0 0 0 (fun h5 => brk h5 d) (Or.inr (Or.inr (Or.inr d)))
        · rw [iv_eq (by omega) (by omega) (by omega) (by omega)] at d
          rw [show (1 : Int32) = iv 1 from iv_lit _]
          exact bad 1 (by omega) (by rw [ptR, if_pos (by omega)])
    · have k2 := tWx_kd (T := T) (L := L) (p := p) (by omega)
      rw [b28, if_neg (by omega), if_neg (by decide)]
      refine p49 1 _ (fun x4 => any 1 1 x4 (fun h5 => plain 1 x4 (-(tWx T L p - 22)) (xfct (tWx T L p - 22)) h5 (by omega) rfl ?_ ?_) (Or.inr (Or.inl yf)))
      · rw [ptR, if_neg (by omega), if_neg (by omega), if_neg (by omega), if_pos yf]
      · rw [if_neg (by decide), l.2.2.2.2.1, show (22 : Int32) = iv 22 from iv_lit _, iv_sub]
        congr 1
        omega
