/-! THE PURE PROOFS, 29: an evening is read. -/
def up1 (f : Nat → Int) (i : Nat) (v : Int) : Nat → Int := fun j => if j = i then v else f j
def evZ (T : Nat → Int) (L p : Nat) : Int := if tWx T L p ≤ 17 then numZ T L 0 4 (.inr (tE T L p)) else 0
def evN (T : Nat → Int) (L p : Nat) : Int ⊕ Nat := sgnR T L 59 (if tWx T L p ≤ 17 then numP T L 0 4 (.inr (tE T L p)) else .inr (tE T L p))
def evL (T : Nat → Int) (L n p : Nat) : Int ⊕ Nat := if tWx T L p < 16 ∨ 19 < tWx T L p then .inl (1 + 16 * (tB T L p : Nat)) else if 60 ≤ n then .inl (5 + 16 * (tB T L p : Nat)) else evN T L p
def evR (T : Nat → Int) (L : Nat) : Nat → Nat → (Nat → Int) → (Nat → Int) → Nat → Int ⊕ (Nat × (Nat → Int) × (Nat → Int))
  | 0, _, _, _, _ => .inl 1
  | m + 1, n, A, B, p => if tKd T L p = 3 then .inr (n, A, B) else match evL T L n p with
    | .inl f => .inl f
    | .inr p2 => evR T L m (n + 1) (up1 A n (tWx T L p)) (up1 B n (evZ T L p)) p2
def ScL (n : Nat) (A B : Nat → Int) (h : PH) : Prop := hI h 25 2 = iv n ∧ ∀ i, i < n → hI h 26 i = iv (A i) ∧ hI h 27 i = iv (B i)
def FrE (h h2 : PH) : Prop := FrS (fun b => b = 7 ∨ b = 25 ∨ b = 26 ∨ b = 27) h h2 ∧ hI h2 7 1 = hI h 7 1
theorem FrE.rf {h : PH} : FrE h h := ⟨FrS.rf, rfl⟩
theorem FrE.tr {h h1 h2 : PH} (a : FrE h h1) (b : FrE h1 h2) : FrE h h2 := ⟨a.1.tr b.1, b.2.trans a.2⟩
theorem Fr7.e {h h2 : PH} (f : Fr7 h h2) : FrE h h2 := ⟨f.1.up (fun b e => Or.inl e), f.2⟩
theorem FrE.w {h0 h : PH} {a i : Nat} {v : Int32} (f : FrE h0 h) (ha : a = 25 ∨ a = 26 ∨ a = 27) : FrE h0 (wI h a i v) := f.tr ⟨FrS.rf.aI (by omega), by rw [hI_wI, if_neg (by omega)]⟩
theorem FrE.tx {T : Nat → Int} {L : Nat} {h h2 : PH} (f : FrE h h2) (x : TxL T L h) : TxL T L h2 := x.fr f.1 (by omega) (by omega) (by omega) (by omega) f.2
theorem ScL.fr {n : Nat} {A B : Nat → Int} {h h2 : PH} (x : ScL n A B h) (f : Fr7 h h2) : ScL n A B h2 := ⟨(f.1.I (by omega) 2).trans x.1, fun i hi => ⟨(f.1.I (by omega) i).trans (x.2 i hi).1, (f.1.I (by omega) i).trans (x.2 i hi).2⟩⟩
theorem RdS.w {T : Nat → Int} {L : Nat} {r : Int ⊕ Nat} {h : PH} (s : RdS T L r h) {a i : Nat} {v : Int32} (ha : a ≠ 7) : RdS T L r (wI h a i v) := by
  cases r with
  | inl f => exact ⟨s.1, by rw [hI_wI, if_neg (by omega)]; exact s.2⟩
  | inr p =>
    obtain ⟨⟨a1, a2, a3, a4, a5, a6, a7⟩, hp⟩ := s
    refine ⟨⟨?_, ?_, ?_, fun c => ?_, ?_, fun c => ?_, ?_⟩, hp⟩
    all_goals first | rw [hI_wI, if_neg (by omega)] | rw [hJ_wI]
    · exact a1
    · exact a2
    · exact a3
    · exact a4 c
    · exact a5
    · exact a6 c
    · exact a7
theorem addL {N : Nat} {T : Nat → Int} {L n : Nat} {A B : Nat → Int} {r : Int ⊕ Nat} {h : PH} {a b : Int} (x : TxL T L h) (s : RdS T L r h) (c : ScL n A B h) (hn : n < 60) : Wp (Sc_add N 25 (iv a) (iv b) h) (fun _ h2 => FrE h h2 ∧ RdS T L r h2 ∧ ScL (n + 1) (up1 A n a) (up1 B n b) h2) := by
  have put : ∀ (h1 : PH) (c d : Nat) (v : Int32), hK h1 c = (20, 60) → Le_put N (some c) (iv n) v h1 = lt0 (wI h1 c n v) fun h7 => some ((), h7) := by
    intro h1 c d v k
    unfold Le_put
    rw [if_neg (by rw [il0, iv_lt (by omega) (by omega) (by omega) (by omega)]; omega), bn_s, ck_p (by rw [k]), k, if_neg (by rw [iv_nat, iv_le (by omega) (by omega) (by omega) (by omega)]; omega), ck_p (inb_iv (by omega) (by omega) (by omega)), ix_nat (by omega)]
  unfold Sc_add
  refine Wp_ck (by rw [k25 x.1]) ?_
  rw [p25_0 x.1, c.1, put h 26 0 _ (k26 x.1)]
  refine Wp_bd2 (Wp_ltr (Q := fun _ h1 => h1 = wI h 26 n (iv a)) rfl) ?_
  rintro - h1 rfl
  have f1 : FrE h (wI h 26 n (iv a)) := FrE.rf.w (by omega)
  have s1 : RdS T L r (wI h 26 n (iv a)) := s.w (by omega)
  have x1 := f1.tx x
  refine Wp_ck (by rw [k25 x1.1]) ?_
  rw [p25_1 x1.1, show hI (wI h 26 n (iv a)) 25 2 = iv n from by rw [hI_wI, if_neg (by omega)]; exact c.1, put _ 27 0 _ (k27 x1.1)]
  refine Wp_bd2 (Wp_ltr (Q := fun _ h1 => h1 = wI (wI h 26 n (iv a)) 27 n (iv b)) rfl) ?_
  rintro - h2 rfl
  have f2 := f1.w (a := 27) (i := n) (v := iv b) (by omega)
  have s2 : RdS T L r (wI (wI h 26 n (iv a)) 27 n (iv b)) := s1.w (by omega)
  have x2 := f2.tx x
  refine Wp_ck (by rw [k25 x2.1]) (Wp_ltr ⟨f2.w (by omega), s2.w (by omega), ?_, fun i hi => ?_⟩)
  · rw [hI_wI, if_pos ⟨rfl, rfl⟩, hI_wI, if_neg (by omega), hI_wI, if_neg (by omega), c.1, il1, iv_add]
    rfl
  · unfold up1
    by_cases e : i = n
    · subst e
      rw [if_pos rfl, if_pos rfl]
      exact ⟨by rw [hI_wI, if_neg (by omega), hI_wI, if_neg (by omega), hI_wI, if_pos ⟨rfl, rfl⟩], by rw [hI_wI, if_neg (by omega), hI_wI, if_pos ⟨rfl, rfl⟩]⟩
    · rw [if_neg e, if_neg e]
      exact ⟨by rw [hI_wI, if_neg (by omega), hI_wI, if_neg (by omega), hI_wI, if_neg (by omega)]; exact (c.2 i (by omega)).1, by rw [hI_wI, if_neg (by omega), hI_wI, if_neg (by omega), hI_wI, if_neg (by omega)]; exact (c.2 i (by omega)).2⟩
theorem evlineL {N : Nat} {T : Nat → Int} {L n p : Nat} {A B : Nat → Int} {h : PH} (hN : 1100 ≤ N) (x : TxL T L h) (s : LexL T L p h) (hp : p ≤ L) (c : ScL n A B h) (hn : n ≤ 60) : Wp (Re_eveningLine N 28 h) (fun _ h2 => FrE h h2 ∧ RdS T L (evL T L n p) h2 ∧ ((∃ p2, evL T L n p = .inr p2) → ScL (n + 1) (up1 A n (tWx T L p)) (up1 B n (evZ T L p)) h2)) := by
  have hL := x.2.2.1
  have kb := kd_b (p := p) x.2.2.2.1
  have wb := tWx_b (T := T) (L := L) (p := p)
  have st : RdS T L (.inr p) h := ⟨s, hp⟩
  have bad : (tWx T L p < 16 ∨ 19 < tWx T L p) → Wp (Re_eveningLine_b35 N 28 h) (fun _ h2 => FrE h h2 ∧ RdS T L (evL T L n p) h2 ∧ ((∃ p2, evL T L n p = .inr p2) → ScL (n + 1) (up1 A n (tWx T L p)) (up1 B n (evZ T L p)) h2)) := by
    intro b
    have e : evL T L n p = .inl (1 + 16 * (tB T L p : Nat)) := by unfold evL; rw [if_pos b]
    unfold Re_eveningLine_b35
    refine Wp_ck (by rw [k28 x.1]) (Wp_bn (p28_0 x.1) (Wp_ck (by rw [k7 x.1]) ?_))
    rw [il1]
    refine Wp_bd2 (blameR x st (by omega)) ?_
    rintro - h2 ⟨f2, s2⟩
    refine Wp_ret ⟨f2.e, ?_, fun ⟨p2, e2⟩ => ?_⟩
    · rw [e]; exact s2
    · rw [e] at e2; cases e2
  have go : ∀ a : Int, a = tWx T L p → Wp (Re_eveningLine_b22 N (iv a) 28 h) (fun _ h2 => FrE h h2 ∧ RdS T L (evL T L n p) h2 ∧ ((∃ p2, evL T L n p = .inr p2) → ScL (n + 1) (up1 A n (tWx T L p)) (up1 B n (evZ T L p)) h2)) := by
    rintro a rfl
    unfold Re_eveningLine_b22
    rw [show (16 : Int32) = iv 16 from iv_lit _, show (17 : Int32) = iv 17 from iv_lit _, show (19 : Int32) = iv 19 from iv_lit _, show (60 : Int32) = iv 60 from iv_lit _]
    refine Wp_if (fun c1 => ?_) (fun c1 => ?_)
    · rw [iv_lt (by omega) (by omega) (by omega) (by omega)] at c1
      exact bad (Or.inl c1)
    · rw [iv_lt (by omega) (by omega) (by omega) (by omega)] at c1
      refine Wp_if (fun c2 => ?_) (fun c2 => ?_)
      · rw [iv_le (by omega) (by omega) (by omega) (by omega)] at c2
        refine Wp_ck (by rw [k28 x.1]) (Wp_bn (p28_2 x.1) (Wp_ck (by rw [k25 x.1]) ?_))
        rw [c.1]
        refine Wp_if (fun c3 => ?_) (fun c3 => ?_)
        · rw [iv_lt (by omega) (by omega) (by omega) (by omega)] at c3
          have e : evL T L n p = evN T L p := by unfold evL; rw [if_neg (by omega), if_neg (by omega)]
          rw [e]
          refine Wp_bn (p28_0 x.1) (Wp_ck (by rw [k7 x.1]) (Wp_bd2 (stepR hN x st) ?_))
          rintro - h1 ⟨f1, s1⟩
          have x1 := f1.tx x
          have last : ∀ (z : Int) (r2 : Int ⊕ Nat) (h2 : PH), Fr7 h h2 → RdS T L r2 h2 → z = evZ T L p → sgnR T L 59 r2 = evN T L p → Wp (Re_eveningLine_b98 N (iv z) 28 (iv (tWx T L p)) h2) (fun _ h2 => FrE h h2 ∧ RdS T L (evN T L p) h2 ∧ ((∃ p2, evN T L p = .inr p2) → ScL (n + 1) (up1 A n (tWx T L p)) (up1 B n (evZ T L p)) h2)) := by
            rintro z r2 h2 f2 s2 rfl e2
            have x2 := f2.tx x
            unfold Re_eveningLine_b98
            refine Wp_ck (by rw [k28 x2.1]) ?_
            rw [show (59 : Int32) = iv 59 from iv_lit _]
            refine Wp_bd2 (signR hN x2 s2 (by omega)) ?_
            rintro - h3 ⟨f3, s3⟩
            have x3 := f3.tx x2
            rw [e2] at s3
            refine Wp_ck (by rw [k28 x3.1]) (Wp_bn (p28_2 x3.1) (Wp_ck (by rw [k25 x3.1]) (Wp_bd2 (addL x3 s3 ((c.fr f2).fr f3) (by omega)) ?_)))
            rintro - h4 ⟨f4, s4, c4⟩
            exact Wp_ret ⟨(f2.e.tr f3.e).tr f4, s4, fun _ => c4⟩
          have num : tWx T L p ≤ 17 → Wp (Re_eveningLine_b88 N 28 (iv (tWx T L p)) h1) (fun _ h2 => FrE h h2 ∧ RdS T L (evN T L p) h2 ∧ ((∃ p2, evN T L p = .inr p2) → ScL (n + 1) (up1 A n (tWx T L p)) (up1 B n (evZ T L p)) h2)) := by
            intro c5
            unfold Re_eveningLine_b88
            refine Wp_ck (by rw [k28 x1.1]) ?_
            rw [il0, il4]
            refine Wp_bd2 (numberR hN x1 s1 (by omega) (by omega)) ?_
            rintro v h2 ⟨rfl, f2, s2⟩
            exact last _ _ h2 (f1.tr f2) s2 (by unfold evZ; rw [if_pos c5]; rfl) (by unfold evN; rw [if_pos c5]; rfl)
          refine Wp_if (fun c5 => ?_) (fun c5 => ?_)
          · rw [iv_eq (by omega) (by omega) (by omega) (by omega)] at c5
            exact num (by omega)
          · rw [iv_eq (by omega) (by omega) (by omega) (by omega)] at c5
            refine Wp_if (fun c6 => ?_) (fun c6 => ?_)
            · rw [iv_eq (by omega) (by omega) (by omega) (by omega)] at c6
              exact num (by omega)
            · rw [iv_eq (by omega) (by omega) (by omega) (by omega)] at c6
              rw [il0]
              exact last 0 _ h1 f1 s1 (by unfold evZ; rw [if_neg (by omega)]) (by unfold evN; rw [if_neg (by omega)]; rfl)
        · rw [iv_lt (by omega) (by omega) (by omega) (by omega)] at c3
          have e : evL T L n p = .inl (5 + 16 * (tB T L p : Nat)) := by unfold evL; rw [if_neg (by omega), if_pos (by omega)]
          refine Wp_bn (p28_0 x.1) (Wp_ck (by rw [k7 x.1]) ?_)
          rw [show (5 : Int32) = iv 5 from iv_lit _]
          refine Wp_bd2 (blameR x st (by omega)) ?_
          rintro - h2 ⟨f2, s2⟩
          refine Wp_ret ⟨f2.e, ?_, fun ⟨p2, e2⟩ => ?_⟩
          · rw [e]; exact s2
          · rw [e] at e2; cases e2
      · rw [iv_le (by omega) (by omega) (by omega) (by omega)] at c2
        exact bad (Or.inr (by omega))
  unfold Re_eveningLine
  refine Wp_ck (by rw [k28 x.1]) (Wp_bn (p28_0 x.1) (Wp_ck (by rw [k7 x.1]) ?_))
  rw [s.2.2.1, s.2.2.2.2.1, il1, il2, iv_neg]
  refine Wp_if (fun c1 => go _ rfl) (fun c1 => ?_)
  rw [iv_eq (by omega) (by omega) (by omega) (by omega)] at c1
  exact go (-1) (by unfold tWx; rw [if_neg c1])
theorem evenL {N : Nat} {T : Nat → Int} {L : Nat} {h : PH} (hN : 1100 ≤ N) (x : TxL T L h) : Wp (Re_readEvening N 28 h) (fun v h2 => FrE h h2 ∧ match evR T L 61 0 (fun _ => 0) (fun _ => 0) 0 with
    | .inl f => v = iv f ∧ 0 < f ∧ f < 1048576
    | .inr (n, A, B) => v = iv 0 ∧ ScL n A B h2 ∧ n ≤ 60) := by
  have key : ∀ (m n : Nat) (A B : Nat → Int) (p : Nat) (h1 : PH), n + m = 61 → FrE h h1 → LexL T L p h1 → p ≤ L → ScL n A B h1 → n ≤ 60 → ∀ fuel, m < fuel → Wp (Re_readEvening_b17 N fuel 28 (iv n) h1) (fun v h2 => FrE h h2 ∧ match evR T L m n A B p with
    | .inl f => v = iv f ∧ 0 < f ∧ f < 1048576
    | .inr (n, A, B) => v = iv 0 ∧ ScL n A B h2 ∧ n ≤ 60) := by
    intro m
    induction m with
    | zero => intro n A B p h1 e _ _ _ _ hn; omega
    | succ m ih =>
      intro n A B p h1 e f1 s1 hp c1 hn fuel hf
      obtain ⟨fu, rfl⟩ : ∃ fu, fuel = fu + 1 := ⟨fuel - 1, by omega⟩
      obtain ⟨fu, rfl⟩ : ∃ g, fu = g + 1 := ⟨fu - 1, by omega⟩
      have x1 := f1.tx x
      have stop : ∀ h2 : PH, Shp h2 → Re_readEvening_b41 N 28 h2 = some (hI h2 7 8, h2) := by
        intro h2 s2
        unfold Re_readEvening_b41
        rw [ck_p (by rw [k28 s2]), p28_0 s2, bn_s, ck_p (by rw [k7 s2])]
      rw [Re_readEvening_b17, show (1000 : Int32) = iv 1000 from iv_lit _]
      refine Wp_ifn (by rw [iv_lt (by omega) (by omega) (by omega) (by omega)]; omega) (Wp_ck (by rw [k28 x1.1]) (Wp_bde (hasMoreL x1 s1) ?_))
      simp only [bI_0]
      by_cases k3 : tKd T L p = 3
      · rw [decide_eq_false (by omega)]
        refine Wp_ifp rfl ?_
        rw [stop h1 x1.1, s1.2.2.2.2.2.2]
        refine Wp_ret ⟨f1, ?_⟩
        rw [evR, if_pos k3]
        exact ⟨rfl, c1, hn⟩
      · rw [decide_eq_true k3]
        refine Wp_ifn (by decide) (Wp_ck (by rw [k28 x1.1]) (Wp_bd2 (evlineL hN x1 s1 hp c1 hn) ?_))
        rintro - h2 ⟨f2, s2, c2⟩
        have f12 := f1.tr f2
        have x2 := f12.tx x
        rw [evR, if_neg k3]
        generalize eq : evL T L n p = q at s2 c2
        cases q with
        | inl f =>
          rw [Re_readEvening_b17, show (1000 : Int32) = iv 1000 from iv_lit _, il1, iv_add]
          refine Wp_ifn (by rw [iv_lt (by omega) (by omega) (by omega) (by omega)]; omega) (Wp_ck (by rw [k28 x2.1]) (Wp_bde (hasMoreF x2.1 s2.1 s2.2) ?_))
          refine Wp_ifp rfl ?_
          rw [stop h2 x2.1, s2.2]
          exact Wp_ret ⟨f12, rfl, s2.1⟩
        | inr p2 =>
          have hn2 : n + 1 ≤ 60 := by
            by_cases z : 60 ≤ n
            · exfalso
              unfold evL at eq
              rw [if_pos z] at eq
              split at eq <;> cases eq
            · omega
          have r := ih (n + 1) _ _ p2 h2 (by omega) f12 s2.1 s2.2 (c2 ⟨p2, rfl⟩) hn2 (fu + 1) (by omega)
          rw [show ((n + 1 : Nat) : Int) = (n : Int) + 1 from by omega] at r
          rw [il1, iv_add]
          exact r
  unfold Re_readEvening
  refine Wp_ck (by rw [k28 x.1]) (Wp_bn (p28_2 x.1) (Wp_ck (by rw [k25 x.1]) (Wp_lt ?_)))
  rw [il0]
  have f0 : FrE h (wI h 25 2 (iv 0)) := FrE.rf.w (by omega)
  have x0 := f0.tx x
  refine Wp_bn (p28_0 x0.1) (Wp_ck (by rw [k7 x0.1]) ?_)
  unfold Ta_rewind
  refine Wp_bd2 (P := fun _ h2 => FrE h h2 ∧ LexL T L 0 h2 ∧ hI h2 25 2 = iv 0) (Wp_ck (by rw [k7 x0.1]) (Wp_lt (Wp_lt (Wp_lt ?_)))) ?_
  · rw [il0]
    have f2 : Fr7 (wI h 25 2 (iv 0)) (wI (wI (wI (wI h 25 2 (iv 0)) 7 8 (iv 0)) 7 3 (iv 0)) 7 4 (iv 0)) := ((Fr7.rf.w (by omega)).w (by omega)).w (by omega)
    refine Wp_bd2 (stepL (p := 0) hN (f2.tx x0) (by omega) ?_ ?_) ?_
    · rw [hI_wI, if_neg (by omega), hI_wI, if_pos ⟨rfl, rfl⟩, hI_wI, if_pos ⟨rfl, rfl⟩]
      rfl
    · rw [hI_wI, if_neg (by omega), hI_wI, if_neg (by omega), hI_wI, if_pos ⟨rfl, rfl⟩]
    · rintro - h3 ⟨f3, l3⟩
      refine Wp_ret ⟨f0.tr (f2.tr f3).e, l3, ?_⟩
      rw [(f2.tr f3).1.I (by omega) 2, hI_wI, if_pos ⟨rfl, rfl⟩]
  · rintro - h3 ⟨f3, l3, c3⟩
    exact key 61 0 _ _ 0 h3 rfl f3 l3 (by omega) ⟨c3, fun i hi => by omega⟩ (by omega) N (by omega)
