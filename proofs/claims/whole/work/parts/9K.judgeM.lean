/-! THE PURE PROOFS, 88: an evening judged: the reference. -/
def SJ (b : Nat) : Prop := b = 92 ∨ (103 ≤ b ∧ b ≤ 112) ∨ b = 116 ∨ b = 117 ∨ (121 ≤ b ∧ b ≤ 123)
def JM (g : Gs) (h7 : PH) (n : Nat → Int) (oth : Int) (h1 : PH) : Prop := FrS SJ h7 h1 ∧ hI h1 121 = hI h7 121 ∧ hZ h1 92 = hZ h7 92 ∧ (∀ j, j ≠ 41 → j ≠ 42 → j ≠ 43 → j ≠ 47 → j ≠ 50 → hI h1 92 j = hI h7 92 j) ∧ NtM n h1 ∧ hI h1 92 50 = iv oth ∧ ∀ k, k < 14 → hI h1 117 k = iv (gsN g k)
section
variable {N : Nat} {g : Gs} {h h7 h1 h2 : PH} {n n2 : Nat → Int} {oth : Int}
theorem JM.of116 (x : JM g h7 n oth h1) (f : FrS (fun b => b = 116) h1 h2) (nt : NtM n2 h2) : JM g h7 n2 oth h2 := by
  obtain ⟨a, b, c, d, -, e, i⟩ := x
  have l : ∀ b, b ≠ 116 → hI h2 b = hI h1 b ∧ hZ h2 b = hZ h1 b := fun b hb => ⟨(f.2.2.2 b hb).1, (f.2.2.2 b hb).2.2⟩
  exact ⟨a.tr (f.up (fun b z => by unfold SJ; omega)), by rw [(l 121 (by omega)).1, b], by rw [(l 92 (by omega)).2, c], fun j j1 j2 j3 j4 j5 => by rw [(l 92 (by omega)).1]; exact d j j1 j2 j3 j4 j5, nt, by rw [(l 92 (by omega)).1]; exact e, fun k hk => by rw [(l 117 (by omega)).1]; exact i k hk⟩
theorem JM.ho (x : JM g h7 n oth h1) (f : HoF h1 h2) (nt : NtM n2 h2) : JM g h7 n2 oth h2 := by
  obtain ⟨a, b, c, d, -, e, i⟩ := x
  have l : ∀ b, b ≠ 116 → b ≠ 92 → hI h2 b = hI h1 b := fun b hb hc => (f.1.2.2.2 b (by unfold S2; omega)).1
  exact ⟨a.tr (f.1.up (fun b z => by unfold S2 at z; unfold SJ; omega)), by rw [l 121 (by omega) (by omega), b], by rw [f.2.2.1, c], fun j j1 j2 j3 j4 j5 => by rw [f.2.2.2 j j1 j2 j3]; exact d j j1 j2 j3 j4 j5, nt, by rw [f.2.2.2 50 (by omega) (by omega) (by omega)]; exact e, fun k hk => by rw [l 117 (by omega) (by omega)]; exact i k hk⟩
theorem JM.v (x : JM g h7 n oth h1) (f : FrV h1 h2) (e1 : ∀ i, hI h2 121 i = hI h1 121 i) : JM g h7 n oth h2 := by
  obtain ⟨a, b, c, d, m, e, i⟩ := x
  exact ⟨a.tr (f.1.s.up (fun b z => by unfold SV at z; unfold SJ; omega)), by rw [← b]; funext j; exact e1 j, by rw [f.1.2.2.2.1, c], fun j j1 j2 j3 j4 j5 => by rw [f.2 j j1 j2 j3 j4]; exact d j j1 j2 j3 j4 j5, f.nt m, by rw [f.2 50 (by omega) (by omega) (by omega) (by omega)]; exact e, fun k hk => by rw [f.1.2.2.2.2.2 117 (by unfold SV; omega)]; exact i k hk⟩
theorem JM.w50 {o2 : Int} (x : JM g h7 n oth h1) : JM g h7 n o2 (wI h1 92 50 (iv o2)) := by
  obtain ⟨a, b, c, d, m, e, i⟩ := x
  exact ⟨a.aI (Or.inl rfl), by rw [← b]; funext j; rw [hI_wI, if_neg (by omega)], c, fun j j1 j2 j3 j4 j5 => by rw [hI_wI, if_neg (by omega)]; exact d j j1 j2 j3 j4 j5, fun k hk => by rw [hI_wI, if_neg (by omega)]; exact m k hk, by rw [hI_wI, if_pos ⟨rfl, rfl⟩], fun k hk => by rw [hI_wI, if_neg (by omega)]; exact i k hk⟩
/-- all as it was, the night put back -/
theorem JM.rest (x : JM g h7 n oth h1) (y : RestM g h7) (f : FrI (fun b => b = 116) h1 h2) (nt : NtM (gsN g) h2) : RestM g h2 ∧ FrS SJ h7 h2 ∧ hI h2 92 0 = hI h7 92 0 := by
  obtain ⟨a, b, c, d, -, e, i⟩ := x
  have f2 : FrS SJ h7 h2 := a.tr (f.s.up (fun b z => by unfold SJ; omega))
  have l := fun b (hb : ¬ SJ b) => f2.2.2.2 b hb
  have d2 : ∀ j, j ≠ 41 → j ≠ 42 → j ≠ 43 → j ≠ 47 → j ≠ 50 → hI h2 92 j = hI h7 92 j := fun j j1 j2 j3 j4 j5 => by rw [f.I (by omega)]; exact d j j1 j2 j3 j4 j5
  refine ⟨y.chg f2 (fun b z => by unfold SJ at z; omega) (d2 1 (by omega) (by omega) (by omega) (by omega) (by omega)) rfl rfl rfl rfl rfl nt (y.2.2.2.1.cg ?_ ?_ ?_) (y.2.2.2.2.1.cg (d2 40 (by omega) (by omega) (by omega) (by omega) (by omega)) ?_) (y.2.2.2.2.2.cg (l _ (by unfold SJ; omega)).2.2 ?_ ?_ ?_ ?_), f2, d2 0 (by omega) (by omega) (by omega) (by omega) (by omega)⟩
  all_goals exact (l _ (by unfold SJ; omega)).1
theorem canClG {H C : Nat → Int} (s : Shp h) (ho : HOK H C) (hs : HsM H C h) (nt : NtM n h) (nk : NOK H n) : Mo_canClose N 92 h = some (decide (n 0 ≠ H 0 ∧ n 6 = 0), h) := by
  have n6 := nk.2.2.2.2.2.2.1
  unfold Mo_canClose
  rw [ck_p (by rw [k92 s]), overM s ho hs nt nk, bd_s]
  by_cases o : n 0 = H 0
  · rw [decide_eq_true o, if_neg (by decide), decide_eq_false (fun y => y.1 o)]
  · rw [decide_eq_false o, if_pos (by decide), ck_p (by rw [k92 s]), p92_35 s, bn_s, ck_p (by rw [k116 s]), ck_p (by rw [k116 s]; decide), ix_l 6 (by omega), nt 6 (by omega), il0]
    simp only [show (iv (n 6) = iv 0) ↔ n 6 = 0 from iv_eq (by omega) (by omega) (by omega) (by omega)]
    by_cases d : n 6 = 0
    · rw [if_pos d, decide_eq_true ⟨o, d⟩]
    · rw [if_neg d, decide_eq_false (fun y => d y.2)]
theorem judgeLM {i : Nat} (hN : 3000 ≤ N) (y : RestM g h7) (k : GOK g) (fl : FlM 0 0 h7) (ab : AboveF (gsH g) (Vq (gsH g) (gsC g) 0 0) (-1) h7) (x : JM g h7 n oth h1) (nk : NOK (gsH g) n) (hi : i < (gsV g).1) (ho : -1 ≤ oth ∧ oth ≤ 60) : Wp (Mo_judgesLine N 92 (iv i) h1) (fun v h2 => v = decide (actP (gsH g) n ((gsV g).2.1 i) ((gsV g).2.2 i)) ∧ JM g h7 (actN (gsH g) (gsC g) n ((gsV g).2.1 i) ((gsV g).2.2 i)) (jB (gsH g) (gsC g) n ((gsV g).2.1 i) ((gsV g).2.2 i) oth i) h2) := by
  have s1 := x.1.shp y.s
  have l : ∀ b, ¬ SJ b → hI h1 b = hI h7 b := fun b hb => (x.1.2.2.2 b hb).1
  have hs : HsM (gsH g) (gsC g) h1 := y.hs.fr x.1 (by unfold SJ; omega) (by unfold SJ; omega)
  have nt := x.2.2.2.2.1
  have v60 := k.2.2.2.1.1
  have vi := k.2.2.2.1.2 i hi
  have ei := y.2.2.2.1.2 i hi
  have eA : hI h1 114 i = iv ((gsV g).2.1 i - 16) := by rw [l 114 (by unfold SJ; omega)]; have := ei.1; rwa [show 60 * 0 + i = i from by omega] at this
  have eB : (gsV g).2.1 i ≤ 17 → hI h1 115 i = iv ((gsV g).2.2 i) := fun q => by rw [l 115 (by unfold SJ; omega)]; have := ei.2 q; rwa [show 60 * 0 + i = i from by omega] at this
  generalize (gsV g).2.1 i = A at vi eA eB ⊢
  generalize (gsV g).2.2 i = B at vi eA eB ⊢
  have n0 := nk.1
  have n12 := nk.2.2.2.2.2.2.2.2.2.2.2.1
  have n6 := nk.2.2.2.2.2.2.1
  have jb : A ≠ 17 ∨ ¬ (0 < n 3 ∧ n 4 = 0) → jB (gsH g) (gsC g) n A B oth i = oth := fun z => by
    unfold jB
    rw [if_neg (fun y => by omega)]
  have no : ∀ {h2 : PH}, ¬ actP (gsH g) n A B → JM g h7 n (jB (gsH g) (gsC g) n A B oth i) h2 → Wp (some (false, h2)) (fun v h2 => v = decide (actP (gsH g) n A B) ∧ JM g h7 (actN (gsH g) (gsC g) n A B) (jB (gsH g) (gsC g) n A B oth i) h2) := by
    intro h2 e j
    unfold actN
    rw [decide_eq_false e, if_neg e]
    exact Wp_ret ⟨rfl, j⟩
  have ye : ∀ {h2 : PH} {n2 : Nat → Int}, actP (gsH g) n A B → JM g h7 n2 (jB (gsH g) (gsC g) n A B oth i) h2 → (if A = 16 then comeM (gsC g) n B else if A = 17 then handM (gsH g) n B else if A = 18 then passM (gsH g) n else shutM n) = n2 → Wp (some (true, h2)) (fun v h2 => v = decide (actP (gsH g) n A B) ∧ JM g h7 (actN (gsH g) (gsC g) n A B) (jB (gsH g) (gsC g) n A B oth i) h2) := by
    intro h2 n2 e f en
    unfold actN
    rw [decide_eq_true e, if_pos e, en]
    exact Wp_ret ⟨rfl, f⟩
  unfold Mo_judgesLine
  refine Wp_ck (by rw [k92 s1]) (Wp_bn (p92_33 s1) (Wp_ck (by rw [k114 s1]) (Wp_ck (by rw [k114 s1]; exact inb_iv (by omega) (by omega) (by omega)) (Wp_bn (p92_34 s1) (Wp_ck (by rw [k115 s1]) (Wp_ck (by rw [k115 s1]; exact inb_iv (by omega) (by omega) (by omega)) ?_))))))
  rw [ix_nat (by omega), eA, il0, il1, show (2 : Int32) = iv 2 from iv_lit _]
  refine Wp_if (fun c => ?_) (fun c => ?_)
  · rw [iv_eq (by omega) (by omega) (by omega) (by omega)] at c
    have j16 := jb (Or.inl (by omega))
    rw [eB (by omega)]
    refine Wp_bde (canCM s1 k.1 hs nt nk (by omega)) ?_
    by_cases e : n 0 ≠ gsH g 0 ∧ n 6 = 0 ∧ n 5 = 0 ∧ n 7 ≤ B ∧ B ≤ 3 + n 7
    · rw [decide_eq_true e]
      refine Wp_ifn (by decide) (Wp_ck (by rw [k92 s1]) (Wp_bd2 (comesM s1 k.1 hs nt nk (by omega) (by omega)) ?_))
      rintro - h3 ⟨f3, m3⟩
      exact ye (Or.inl ⟨by omega, e⟩) (by rw [j16]; exact x.of116 f3 m3) (if_pos (by omega))
    · rw [decide_eq_false e]
      exact Wp_ifp (by decide) (no (by omega) (by rw [j16]; exact x))
  rw [iv_eq (by omega) (by omega) (by omega) (by omega)] at c
  refine Wp_if (fun d => ?_) (fun d => ?_)
  · rw [iv_eq (by omega) (by omega) (by omega) (by omega)] at d
    refine Wp_bde (canGM s1 nt nk) ?_
    by_cases q : 0 < n 3 ∧ n 4 = 0
    · rw [decide_eq_true q]
      refine Wp_ifn (by decide) (Wp_ck (by rw [k92 s1]) (Wp_bn (p92_35 s1) (Wp_ck (by rw [k116 s1]) (Wp_ck (by rw [k116 s1]; decide) (Wp_ck (by rw [k116 s1]; decide) (Wp_ck (by rw [k116 s1]; decide) (Wp_ck (by rw [k116 s1]; decide) ?_)))))))
      rw [ixA0, ixA1, show ix (iv 2) = 2 from by decide, ix_l 3 (by omega), nt 0 (by omega), nt 1 (by omega), nt 2 (by omega), nt 3 (by omega), eB (by omega)]
      have ra : RowM (gsH g) (Vq (gsH g) (gsC g) 0 0 (n 0 + 1)) (n 0 + 1) h1 := fun t a w t0 t1 a0 a1 hw => by
        rw [x.2.1]
        exact ab (n 0 + 1) (by omega) (by omega) t a w t0 t1 a0 a1 hw
      have fl1 : FlM 0 0 h1 := by unfold FlM at fl ⊢; rw [x.2.2.1]; exact fl
      refine Wp_bd2 (greatM (by omega) k.1 s1 hs fl1 (Or.inl rfl) ra (Vq_bd k.1 0 0 (by omega)) (show 0 ≤ n 0 ∧ n 0 < gsH g 0 by omega) nk.2.1 nk.2.2.1 nk.2.2.2.1) ?_
      rintro - h3 ⟨-, f3, e3, e47⟩
      have x3 := x.v f3 e3
      have e47' := e47 q.1
      have gb := bgv_b (gsH g) 0 (Vq (gsH g) (gsC g) 0 0 (n 0 + 1)) (n 0) (n 3) (n 1) (n 2)
      have s3 := x3.1.shp y.s
      have fin : ∀ {h4 : PH}, JM g h7 n (jB (gsH g) (gsC g) n A B oth i) h4 → Wp (Mo_judgesLine_b99 N 92 (iv B) h4) (fun v h2 => v = decide (actP (gsH g) n A B) ∧ JM g h7 (actN (gsH g) (gsC g) n A B) (jB (gsH g) (gsC g) n A B oth i) h2) := by
        intro h4 x4
        have s4 := x4.1.shp y.s
        have hs4 : HsM (gsH g) (gsC g) h4 := y.hs.fr x4.1 (by unfold SJ; omega) (by unfold SJ; omega)
        unfold Mo_judgesLine_b99
        refine Wp_ck (by rw [k92 s4]) (Wp_bd2 (handsM (by omega) s4 k.1 hs4 x4.2.2.2.2.1 nk (show n 0 < gsH g 0 by omega) vi.2) ?_)
        rintro - h5 ⟨-, f5, m5⟩
        exact ye (Or.inr (Or.inl ⟨by omega, q⟩)) (x4.ho f5 m5) (by rw [if_neg (by omega), if_pos (by omega)])
      refine Wp_ck (by rw [k92 s3]) ?_
      rw [e47', x3.2.2.2.2.2.1]
      refine Wp_if (fun a => ?_) (fun a => ?_)
      · rw [iv_eq (by omega) (by omega) (by omega) (by omega)] at a
        exact fin (by unfold jB; rw [if_neg (fun z => z.2.2.2 a)]; exact x3)
      rw [iv_eq (by omega) (by omega) (by omega) (by omega)] at a
      refine Wp_if (fun b => ?_) (fun b => ?_)
      · rw [iv_le (by omega) (by omega) (by omega) (by omega)] at b
        exact fin (by unfold jB; rw [if_neg (fun z => by omega)]; exact x3)
      · rw [iv_le (by omega) (by omega) (by omega) (by omega)] at b
        exact Wp_lt (fin (by unfold jB; rw [if_pos ⟨by omega, q, by omega, a⟩]; exact x3.w50))
    · rw [decide_eq_false q]
      exact Wp_ifp (by decide) (no (by omega) (by rw [jb (Or.inr q)]; exact x))
  rw [iv_eq (by omega) (by omega) (by omega) (by omega)] at d
  have j18 := jb (Or.inl (by omega))
  refine Wp_if (fun e => ?_) (fun e => ?_)
  · rw [iv_eq (by omega) (by omega) (by omega) (by omega)] at e
    refine Wp_bde (overM s1 k.1 hs nt nk) ?_
    by_cases o : n 0 = gsH g 0
    · rw [decide_eq_true o]
      exact Wp_ifn (by decide) (no (by omega) (by rw [j18]; exact x))
    · rw [decide_eq_false o]
      refine Wp_ifp (by decide) (Wp_ck (by rw [k92 s1]) (Wp_bd2 (passesM (by omega) s1 k.1 hs nt nk (by omega)) ?_))
      rintro - h3 ⟨f3, m3⟩
      exact ye (by omega) (by rw [j18]; exact x.ho f3 m3) (by rw [if_neg (by omega), if_neg (by omega), if_pos (by omega)])
  · rw [iv_eq (by omega) (by omega) (by omega) (by omega)] at e
    refine Wp_bde (canClG s1 k.1 hs nt nk) ?_
    by_cases o : n 0 ≠ gsH g 0 ∧ n 6 = 0
    · rw [decide_eq_true o]
      refine Wp_ifn (by decide) (Wp_ck (by rw [k92 s1]) (Wp_bd2 (shutsM (H := gsH g) (C := gsC g) s1 nt) ?_))
      rintro - h3 ⟨f3, m3⟩
      exact ye (by omega) (by rw [j18]; exact x.of116 f3 m3) (by rw [if_neg (by omega), if_neg (by omega), if_neg (by omega)])
    · rw [decide_eq_false o]
      exact Wp_ifp (by decide) (no (by omega) (by rw [j18]; exact x))
theorem moJudgedM {w : Int} (hN : 3000 ≤ N) (x : RestM g h) (k : GOK g) (hw : -2147483648 ≤ w ∧ w < 2147483648) : Wp (Mo_judged N 92 (iv w) h) (ThrM g h (0 ≤ w ∧ w ≤ 2) (fJudged g w)) := by
  have s := x.s
  have vk := k.2.2.2.1
  have v60 := vk.1
  unfold Mo_judged
  rw [il0, show (2 : Int32) = iv 2 from iv_lit _]
  refine Wp_bde (within_eq (by omega) (by omega) (by omega)) ?_
  by_cases o : 0 ≤ w ∧ w ≤ 2
  · rw [decide_eq_true o]
    refine Wp_ifn (by decide) ?_
    unfold Mo_judged_b15
    rw [im1, il0, il1]
    refine Wp_ck (by rw [k92 s]) (Wp_lt ?_)
    have x1 := x.t0 (v := iv 0)
    have f1 : MFr h (wI h 92 0 (iv 0)) := t0F
    have z0 : hI (wI h 92 0 (iv 0)) 92 0 = iv 0 := by rw [hI_wI, if_pos ⟨rfl, rfl⟩]
    generalize wI h 92 0 (iv 0) = h1 at x1 f1 z0 ⊢
    refine Wp_ck (by rw [k92 x1.s]) (Wp_ifn (by rw [z0]; decide) (Wp_bd2 (laysR hN x1 k (Or.inl rfl) (Or.inl rfl)) ?_))
    rintro - h7 ⟨y, f7, e7, fl, ab⟩
    have s7 := y.s
    rw [p92_35 s7, p92_36 s7]
    refine Wp_ck (by rw [k92 s7]) (Wp_bd2 (copiesM (a := 116) (b := 117) (x := 0) (y := 0) (la := 14) (lb := 14) (by omega) (by omega) (k116 s7) (k117 s7) (by omega) (by omega) (by omega) (by omega)) ?_)
    rintro - h8 ⟨f8, e8⟩
    have s8 := f8.shp s7
    refine Wp_ck (by rw [k92 s8]) (Wp_bd2 (freshM (H := gsH g) (C := gsC g) (by omega) s8 (y.hs.fr f8.s (by omega) (by omega))) ?_)
    rintro - h9 ⟨f9, m9⟩
    have f79 : FrI (fun b => b = 116 ∨ b = 117) h7 h9 := (f8.up (fun b z => Or.inr z)).tr (f9.up (fun b z => Or.inl z))
    have s9 := f79.shp s7
    refine Wp_ck (by rw [k92 s9]) (Wp_lt ?_)
    have j0 : JM g h7 (begM (gsH g)) (-1) (wI h9 92 50 (iv (-1))) := by
      refine ⟨(f79.s.up (fun b z => by unfold SJ; omega)).aI (Or.inl rfl), ?_, ?_, fun j j1 j2 j3 j4 j5 => ?_, fun j hj => ?_, by rw [hI_wI, if_pos ⟨rfl, rfl⟩], fun j hj => ?_⟩
      · funext j
        rw [hI_wI, if_neg (by omega), f79.I (by omega)]
      · rw [hZ_wI, f79.2.2.2.1]
      · rw [hI_wI, if_neg (by omega), f79.I (by omega)]
      · rw [hI_wI, if_neg (by omega)]
        exact m9 j hj
      · rw [hI_wI, if_neg (by omega), f9.I (by omega), e8, if_pos (by omega), show 0 + (j - 0) = j from by omega]
        exact y.nt j hj
    generalize wI h9 92 50 (iv (-1)) = h10 at j0 ⊢
    have key : ∀ (m i : Nat) (n : Nat → Int) (bad oth : Int) (h1 : PH), i + m = (gsV g).1 → NOK (gsH g) n → (-1 ≤ bad ∧ bad ≤ 60) → (-1 ≤ oth ∧ oth ≤ 60) → JM g h7 n oth h1 → ∀ fuel, m < fuel → Wp (Mo_judged_b60 N fuel 92 (iv w) (iv bad) (iv i) h1) (ThrM g h (0 ≤ w ∧ w ≤ 2) (pick3 w (judF (gsH g) (gsC g) (gsV g) m i n bad oth))) := by
      intro m
      induction m with
      | zero =>
        intro i n bad oth h1 ei nk hb ho jm fuel hf
        obtain ⟨fu, rfl⟩ : ∃ e, fuel = e + 1 := ⟨fuel - 1, by omega⟩
        have s1 := jm.1.shp s7
        have ev : hI h1 113 0 = iv (gsV g).1 := by rw [jm.1.I (by unfold SJ; omega)]; exact y.2.2.2.1.1
        rw [Mo_judged_b60, il0, il1]
        refine Wp_ck (by rw [k92 s1]) (Wp_bn (p92_32 s1) (Wp_ck (by rw [k113 s1]) (Wp_ck (by rw [k113 s1]; decide) ?_)))
        rw [ixA0, ev, p92_35 s1, p92_36 s1]
        refine Wp_ifp (by rw [iv_le (by omega) (by omega) (by omega) (by omega)]; omega) (Wp_bn rfl (Wp_ck (by rw [k116 s1]) (Wp_ck (by rw [k116 s1]; decide) (Wp_bd2 (copiesM (a := 117) (b := 116) (x := 0) (y := 0) (la := 14) (lb := 14) (by omega) (by omega) (k117 s1) (k116 s1) (by omega) (by omega) (by omega) (by omega)) ?_))))
        rintro - h2 ⟨f2, e2⟩
        have ry := jm.rest y f2 (fun j hj => by rw [e2, if_pos (by omega), show 0 + (j - 0) = j from by omega]; exact jm.2.2.2.2.2.2 j hj)
        have s2 := ry.1.s
        have mf : MFr h h2 := (f1.tr f7).tr (ry.2.1.up (fun b z => by unfold SJ at z; show 92 ≤ b ∧ b ≤ 125; omega))
        have z2 : hI h2 92 0 = iv 0 := ry.2.2.trans (e7.trans z0)
        rw [ix_l 11 (by omega), jm.2.2.2.2.1 11 (by omega)]
        unfold judF pick3
        refine Wp_if (fun a => ?_) (fun a => ?_)
        · rw [iv_eq (by omega) (by omega) (by omega) (by omega)] at a
          rw [if_pos a]
          exact Wp_ret ⟨Or.inl ⟨o, rfl, z2⟩, ry.1, mf⟩
        rw [iv_eq (by omega) (by omega) (by omega) (by omega)] at a
        rw [if_neg a]
        refine Wp_if (fun b => ?_) (fun b => ?_)
        · rw [iv_eq (by omega) (by omega) (by omega) (by omega)] at b
          rw [if_pos b]
          refine Wp_ck (by rw [k92 s2]) (Wp_ret ⟨Or.inl ⟨o, ?_, z2⟩, ry.1, mf⟩)
          rw [f2.I (by omega)]
          exact jm.2.2.2.2.2.1
        · rw [iv_eq (by omega) (by omega) (by omega) (by omega)] at b
          rw [if_neg b]
          exact Wp_ret ⟨Or.inl ⟨o, rfl, z2⟩, ry.1, mf⟩
      | succ m ih =>
        intro i n bad oth h1 ei nk hb ho jm fuel hf
        obtain ⟨fu, rfl⟩ : ∃ e, fuel = e + 1 := ⟨fuel - 1, by omega⟩
        have s1 := jm.1.shp s7
        have vi := vk.2 i (by omega)
        have ev : hI h1 113 0 = iv (gsV g).1 := by rw [jm.1.I (by unfold SJ; omega)]; exact y.2.2.2.1.1
        rw [Mo_judged_b60, il0, il1]
        refine Wp_ck (by rw [k92 s1]) (Wp_bn (p92_32 s1) (Wp_ck (by rw [k113 s1]) (Wp_ck (by rw [k113 s1]; decide) ?_)))
        rw [ixA0, ev]
        refine Wp_ifn (by rw [iv_le (by omega) (by omega) (by omega) (by omega)]; omega) (Wp_bd2 (judgeLM hN y k fl ab jm nk (i := i) (by omega) ho) ?_)
        rintro v h2 ⟨rfl, j2⟩
        have jb : -1 ≤ jB (gsH g) (gsC g) n ((gsV g).2.1 i) ((gsV g).2.2 i) oth i ∧ jB (gsH g) (gsC g) n ((gsV g).2.1 i) ((gsV g).2.2 i) oth i ≤ 60 := by
          unfold jB
          split <;> omega
        have go := fun (b2 : Int) (hb2 : -1 ≤ b2 ∧ b2 ≤ 60) => ih (i + 1) (actN (gsH g) (gsC g) n ((gsV g).2.1 i) ((gsV g).2.2 i)) b2 (jB (gsH g) (gsC g) n ((gsV g).2.1 i) ((gsV g).2.2 i) oth i) h2 (by omega) (actN_ok k.1 nk vi.2) hb2 jb j2 fu (by omega)
        unfold Mo_judged_b84
        rw [judF, il1, iv_add, show (i : Int) + 1 = ((i + 1 : Nat) : Int) from by omega]
        by_cases a : actP (gsH g) n ((gsV g).2.1 i) ((gsV g).2.2 i)
        · rw [decide_eq_true a, if_pos a]
          exact Wp_ifn (by decide) (go bad hb)
        · rw [decide_eq_false a, if_neg a]
          refine Wp_ifp (by decide) (Wp_if (fun b => ?_) (fun b => ?_))
          · rw [iv_le (by omega) (by omega) (by omega) (by omega)] at b
            rw [if_neg (by omega)]
            exact go bad hb
          · rw [iv_le (by omega) (by omega) (by omega) (by omega)] at b
            rw [if_pos (by omega)]
            exact go i (by omega)
    exact key (gsV g).1 0 (begM (gsH g)) (-1) (-1) h10 (by omega) (begM_ok k.1) (by omega) (by omega) j0 N (by omega)
  · rw [decide_eq_false o]
    refine Wp_ifp (by decide) ?_
    unfold Mo_judged_b15
    refine Wp_ck (by rw [k92 s]) (Wp_lt (Wp_ck (by rw [hK_wI, k92 s]) (Wp_ifp (by rw [hI_wI, if_pos ⟨rfl, rfl⟩]) ?_)))
    exact ThrM.no x.t0 t0F (by rw [hI_wI, if_pos ⟨rfl, rfl⟩]; decide) o
end
