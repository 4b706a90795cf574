/-! THE PURE PROOFS, 90: years: the class. -/
section
variable {N c : Nat} {g : Gs} {h : PH}
theorem yearEvL {d z : Int} (hN : 3000 ≤ N) (x : LeI c g h) (k : GOK g) (hz : hbt g z) (hd : 0 ≤ d ∧ d < 2147483648) : Wp (Le_drawEvening N 6 (jv d) (iv z) h) (fun v h2 => v = jv (yE (gsH g) (gsC g) (gE3 g z) (gsH g 0).toNat (begM (gsH g)) d).2 ∧ LeI c g h2 ∧ NtL 33 (yE (gsH g) (gsC g) (gE3 g z) (gsH g 0).toNat (begM (gsH g)) d).1 h2 ∧ CFr h h2) := by
  have s := x.s
  have ho := k.1
  have h01 := ho.1
  have h11 := ho.2.1
  have h21 := ho.2.2.1
  have key : ∀ (m : Nat) (q : Int) (n : Nat → Int) (d : Int) (h1 : PH), q + m = gsH g 0 → n 0 = q → 0 ≤ q → NOK (gsH g) n → (0 ≤ d ∧ d < 2147483648) → LeI c g h1 → NtL 33 n h1 → CFr h h1 → ∀ fuel, m < fuel → Wp (Le_drawEvening_b17 N fuel 6 (iv z) (jv d) (iv q) h1) (fun v h2 => v = jv (yE (gsH g) (gsC g) (gE3 g z) m n d).2 ∧ LeI c g h2 ∧ NtL 33 (yE (gsH g) (gsC g) (gE3 g z) m n d).1 h2 ∧ CFr h h2) := by
    intro m
    induction m with
    | zero =>
      intro q n d h1 eq en q0 nk hd x1 n33 f1 fuel hf
      obtain ⟨fu, rfl⟩ : ∃ e, fuel = e + 1 := ⟨fuel - 1, by omega⟩
      have s1 := x1.s
      rw [Le_drawEvening_b17]
      refine Wp_ck (by rw [k6 s1]) (Wp_bn (p6_1 s1) (Wp_ck (by rw [k10 s1]) ?_))
      rw [x1.g0.1]
      exact Wp_ifp (by rw [iv_le (by omega) (by omega) (by omega) (by omega)]; omega) (Wp_ret ⟨rfl, x1, n33, f1⟩)
    | succ m ih =>
      intro q n d h1 eq en q0 nk hd x1 n33 f1 fuel hf
      obtain ⟨fu, rfl⟩ : ∃ e, fuel = e + 1 := ⟨fuel - 1, by omega⟩
      have s1 := x1.s
      have nb := nxt_b d
      have db := dig_b (nxt d)
      have qb := drw_b (gsC g) q (dig (nxt d))
      have n7 := nk.2.2.2.2.2.2.2.1
      rw [Le_drawEvening_b17]
      refine Wp_ck (by rw [k6 s1]) (Wp_bn (p6_1 s1) (Wp_ck (by rw [k10 s1]) ?_))
      rw [x1.g0.1, nxt_eq hd, dig_eq nb]
      refine Wp_ifn (by rw [iv_le (by omega) (by omega) (by omega) (by omega)]; omega) (Wp_ck (by decide) (Wp_ck (by decide) (Wp_ck (by decide) (Wp_bde (callersL (by omega) x1 k (by omega) db) (Wp_ck (by rw [k6 s1]) (Wp_bn (p6_7 s1) (Wp_ck (by rw [k33 s1]) ?_)))))))
      have go : ∀ w : Int, w = n 7 → Wp (Le_drawEvening_b77 N (Le_drawEvening_b17 N fu) (iv (drw (gsC g) q (dig (nxt d)))) (iv w) 6 (iv z) (jv (nxt d)) (iv q) h1) (fun v h2 => v = jv (yE (gsH g) (gsC g) (gE3 g z) (m + 1) n d).2 ∧ LeI c g h2 ∧ NtL 33 (yE (gsH g) (gsC g) (gE3 g z) (m + 1) n d).1 h2 ∧ CFr h h2) := by
        rintro w rfl
        have yf := yC_f (gsC g) n (nxt d)
        have yo := yC_ok ho nk (show n 0 < gsH g 0 by omega) (nxt d)
        have yq := yQ_ok (E := gE3 g z) ho (gE3_b g z) nk (show n 0 < gsH g 0 by omega) (nxt d)
        have yh := yH_ok (E := gE3 g z) ho (gE3_b g z) nk (show n 0 < gsH g 0 by omega) (nxt d)
        have pas : ∀ {h2 : PH} {n2 : Nat → Int}, LeI c g h2 → NtL 33 n2 h2 → CFr h h2 → NOK (gsH g) n2 → n2 0 = n 0 → passM (gsH g) n2 = yQ (gsH g) (gsC g) (gE3 g z) n (nxt d) → Wp (Le_drawEvening_b136 N (Le_drawEvening_b17 N fu) 6 (iv z) (jv (nxt d)) (iv q) h2) (fun v h2 => v = jv (yE (gsH g) (gsC g) (gE3 g z) (m + 1) n d).2 ∧ LeI c g h2 ∧ NtL 33 (yE (gsH g) (gsC g) (gE3 g z) (m + 1) n d).1 h2 ∧ CFr h h2) := by
          intro h2 n2 x2 m33 f2 o2 e2 ep
          have s2 := x2.s
          unfold Le_drawEvening_b136
          refine Wp_ck (by rw [k6 s2]) (Wp_bn (p6_7 s2) (Wp_ck (by rw [k33 s2]) ?_))
          rw [p6_1 s2]
          refine Wp_bd2 (passL s2 (k33 s2) ho x2.hs m33 o2 (by omega)) ?_
          rintro - h3 ⟨f3, n3⟩
          rw [ep] at n3
          have y := x2.only33 f3
          rw [yE, il1, iv_add]
          exact ih (q + 1) _ _ h3 (by omega) (by rw [yq.2, en]) (by omega) yq.1 nb y.1 n3 (f2.tr y.2) fu (by omega)
        unfold Le_drawEvening_b77
        rw [iv_add, il0]
        refine Wp_ck (by rw [k6 s1]) (Wp_bn (p6_7 s1) (Wp_ck (by rw [k33 s1]) ?_))
        rw [p6_1 s1]
        refine Wp_bd2 (arriveL s1 (k33 s1) ho x1.hs n33 nk (by omega) (by omega)) ?_
        rintro - h2 ⟨f2, m33⟩
        have y := x1.only33 f2
        have s2 := y.1.s
        have m33' : NtL 33 (yC (gsC g) n (nxt d)) h2 := by
          unfold yC
          rw [en]
          exact m33
        have e3 : yC (gsC g) n (nxt d) 3 = drw (gsC g) q (dig (nxt d)) + n 7 := by rw [yf.2.2.2, en]
        refine Wp_if (fun a => ?_) (fun a => ?_)
        · rw [iv_le (by omega) (by omega) (by omega) (by omega)] at a
          exact pas y.1 m33' (f1.tr y.2) yo yf.1 (by unfold yQ; rw [if_pos (by omega)])
        · rw [iv_le (by omega) (by omega) (by omega) (by omega)] at a
          refine Wp_ck (by rw [k6 s2]) (Wp_bn (p6_7 s2) (Wp_ck (by rw [k33 s2]) (Wp_bn (p6_15 s2) (Wp_ck (by rw [k45 s2]) ?_))))
          rw [m33'.2.1, m33'.2.2.1, p6_1 s2, ← e3]
          obtain ⟨h3, ev, f3⟩ := (y.1.1.hab (N := N) (by omega) k) h2 s2 rfl rfl rfl z q (yC (gsC g) n (nxt d) 1) (yC (gsC g) n (nxt d) 2) (yC (gsC g) n (nxt d) 3) hz.1 hz.2 (by omega) (by omega) yo.2.1.1 (by have := yo.2.1.2; omega) yo.2.2.1.1 (by have := yo.2.2.1.2; omega) yo.2.2.2.1.1 yo.2.2.2.1.2
          have y3 := y.1.only46 f3
          have s3 := y3.1.s
          refine Wp_bde ev (Wp_ck (by rw [k33 s3]) (Wp_bd2 (handL s3 (k33 s3) ho y3.1.hs (m33'.fr f3.s (by omega)) yo (show yC (gsC g) n (nxt d) 0 < gsH g 0 by omega) (EvE_ok (gsE g) (gsH g) _ _ _ _ _)) ?_))
          rintro - h4 ⟨-, f4, m4⟩
          have y4 := y3.1.only33 f4
          refine pas y4.1 m4 (((f1.tr y.2).tr y3.2).tr y4.2) ?_ ?_ ?_
          · exact handM_ok ho yo (EvE_ok (gsE g) (gsH g) _ _ _ _ _)
          · rw [handM_0]
            exact yf.1
          · unfold yQ
            rw [if_neg (by omega)]
            show passM (gsH g) (handM (gsH g) _ _) = passM (gsH g) (handM (gsH g) _ (gE2 g z _ _ _ _))
            rw [yf.1, en]
      rw [n33.2.2.2.2.2.2.2.2.2.2.2.2.1]
      by_cases w : n 7 = 1
      · rw [decide_eq_true w, il1]
        exact Wp_ifn (by decide) (go 1 w.symm)
      · rw [decide_eq_false w, il0]
        exact Wp_ifp (by decide) (go 0 (by omega))
  unfold Le_drawEvening
  rw [il0]
  refine Wp_ck (by rw [k6 s]) (Wp_bn (p6_7 s) (Wp_ck (by rw [k33 s]) ?_))
  rw [p6_1 s]
  refine Wp_bd2 (beginL s (k33 s) x.hs) ?_
  rintro - h1 ⟨f, n33⟩
  have y := x.only33 f
  exact key (gsH g 0).toNat 0 (begM (gsH g)) d h1 (by omega) rfl (by omega) (begM_ok ho) hd y.1 n33 y.2 N (by omega)
theorem yE_b {H C : Nat → Int} {E : Int → Int → Int → Int → Int} : ∀ (m : Nat) (n : Nat → Int) (d : Int), (0 ≤ d ∧ d < 2147483648) → 0 ≤ (yE H C E m n d).2 ∧ (yE H C E m n d).2 < 2147483648
  | 0, _, _, hd => hd
  | m + 1, _, d, _ => by rw [yE]; exact yE_b m _ _ (nxt_b d)
theorem leYearsL {a y z w : Int} (hN : 3000 ≤ N) (x : LeI c g h) (k : GOK g) (ha : -2147483648 ≤ a ∧ a < 2147483648) (hy : -2147483648 ≤ y ∧ y < 2147483648) (hz : -2147483648 ≤ z ∧ z < 2147483648) (hw : -2147483648 ≤ w ∧ w < 2147483648) : Wp (Le_years N 6 (iv a) (iv y) (iv z) (iv w) h) (AnsL c g h (fYears g a y z w)) := by
  have s := x.s
  unfold Le_years fYears
  rw [im1, il0, il1, show (2 : Int32) = iv 2 from iv_lit _, show (9999 : Int32) = iv 9999 from iv_lit _, show (20 : Int32) = iv 20 from iv_lit _]
  refine Wp_if (fun e => ?_) (fun e => ?_)
  · rw [iv_lt (by omega) (by omega) (by omega) (by omega)] at e
    exact AnsL.no x (if_neg (fun q => by omega))
  rw [iv_lt (by omega) (by omega) (by omega) (by omega)] at e
  refine Wp_if (fun e => ?_) (fun e => ?_)
  · rw [iv_lt (by omega) (by omega) (by omega) (by omega)] at e
    exact AnsL.no x (if_neg (fun q => by omega))
  rw [iv_lt (by omega) (by omega) (by omega) (by omega)] at e
  refine Wp_if (fun e => ?_) (fun e => ?_)
  · rw [iv_lt (by omega) (by omega) (by omega) (by omega)] at e
    exact AnsL.no x (if_neg (fun q => by omega))
  rw [iv_lt (by omega) (by omega) (by omega) (by omega)] at e
  refine Wp_if (fun e => ?_) (fun e => ?_)
  · rw [iv_lt (by omega) (by omega) (by omega) (by omega)] at e
    exact AnsL.no x (if_neg (fun q => by omega))
  rw [iv_lt (by omega) (by omega) (by omega) (by omega)] at e
  refine Wp_ck (by rw [k6 s]) (Wp_bde (hasHabitL x k hz) ?_)
  by_cases o : hbt g z
  · rw [decide_eq_true o]
    refine Wp_ifn (by decide) (Wp_if (fun e => ?_) (fun e => ?_))
    · rw [iv_lt (by omega) (by omega) (by omega) (by omega)] at e
      exact AnsL.no x (if_neg (fun q => by omega))
    rw [iv_lt (by omega) (by omega) (by omega) (by omega)] at e
    refine Wp_if (fun e => ?_) (fun e => ?_)
    · rw [iv_le (by omega) (by omega) (by omega) (by omega)] at e
      rw [if_pos (show (0 ≤ a ∧ a ≤ 9999) ∧ (1 ≤ y ∧ y ≤ 20) ∧ hbt g z ∧ 0 ≤ w ∧ w ≤ 2 by omega), iv_wide (by omega) (by omega)]
      have key : ∀ (m : Nat) (q d b1 b2 b3 : Int) (h1 : PH), q + m = y → 0 ≤ q → (0 ≤ d ∧ d < 2147483648) → LeI c g h1 → CFr h h1 → ∀ fuel, m < fuel → Wp (Le_years_b59 N fuel 6 (iv y) (iv z) (iv w) (jv d) (iv b1) (iv b2) (iv b3) (iv q) h1) (AnsL c g h (if w = 0 then (mxI 0 (iv (yY (gsH g) (gsC g) (gE3 g z) m d b1 b2 b3).1)).toInt else if w = 1 then (yY (gsH g) (gsC g) (gE3 g z) m d b1 b2 b3).2.1 else (yY (gsH g) (gsC g) (gE3 g z) m d b1 b2 b3).2.2)) := by
        intro m
        induction m with
        | zero =>
          intro q d b1 b2 b3 h1 eq q0 hd x1 f1 fuel hf
          obtain ⟨fu, rfl⟩ : ∃ e, fuel = e + 1 := ⟨fuel - 1, by omega⟩
          rw [Le_years_b59]
          refine Wp_ifp (by rw [iv_le (by omega) (by omega) (by omega) (by omega)]; omega) ?_
          unfold yY
          refine Wp_if (fun e => ?_) (fun e => ?_)
          · rw [il0, iv_eq (by omega) (by omega) (by omega) (by omega)] at e
            rw [if_pos e]
            exact Wp_ret ⟨(iv_of _).symm, x1.mono (by omega), f1⟩
          rw [il0, iv_eq (by omega) (by omega) (by omega) (by omega)] at e
          rw [if_neg e]
          refine Wp_if (fun e => ?_) (fun e => ?_)
          · rw [il1, iv_eq (by omega) (by omega) (by omega) (by omega)] at e
            rw [if_pos e]
            exact Wp_ret ⟨rfl, x1.mono (by omega), f1⟩
          · rw [il1, iv_eq (by omega) (by omega) (by omega) (by omega)] at e
            rw [if_neg e]
            exact Wp_ret ⟨rfl, x1.mono (by omega), f1⟩
        | succ m ih =>
          intro q d b1 b2 b3 h1 eq q0 hd x1 f1 fuel hf
          obtain ⟨fu, rfl⟩ : ∃ e, fuel = e + 1 := ⟨fuel - 1, by omega⟩
          have s1 := x1.s
          rw [Le_years_b59]
          refine Wp_ifn (by rw [iv_le (by omega) (by omega) (by omega) (by omega)]; omega) (Wp_ck (by rw [k6 s1]) (Wp_bd2 (yearEvL hN x1 k o hd) ?_))
          rintro v h2 ⟨rfl, x2, m33, f2⟩
          have s2 := x2.s
          have eb := yE_b (H := gsH g) (C := gsC g) (E := gE3 g z) (gsH g 0).toNat (begM (gsH g)) d hd
          refine Wp_ck (by rw [k6 s2]) (Wp_bn (p6_7 s2) (Wp_ck (by rw [k33 s2]) ?_))
          rw [m33.2.2.2.2.2.1, m33.2.1, m33.2.2.2.2.2.2.2.1, iv_add, iv_add, iv_add, il1, iv_add, yY]
          exact ih (q + 1) _ _ _ _ h2 (by omega) (by omega) eb x2 (f1.tr f2) fu (by omega)
      exact key y.toNat 0 a 0 0 0 h (by omega) (by omega) (by omega) x CFr.rf N (by omega)
    · rw [iv_le (by omega) (by omega) (by omega) (by omega)] at e
      exact AnsL.no x (if_neg (fun q => by omega))
  · rw [decide_eq_false o]
    exact Wp_ifp (by decide) (AnsL.no x (if_neg (fun q => o q.2.2.1)))
end
