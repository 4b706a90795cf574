/-! THE PURE PROOFS, 92: years: the reference, the loops; a fault asked after. -/
section
variable {N : Nat} {g : Gs} {h h7 : PH}
theorem eve87M {z : Int} {self : Nat → Int32 → Int32 → Int32 → Int32 → Int32 → Int32 → Int32 → PH → Option (Int32 × PH)} {x2 x4 x5 x6 x7 x8 : Int32} {Q : Int32 → PH → Prop} (hN : 3000 ≤ N) (y : RestM g h7) (k : GOK g) (hz : hbt g z) : ∀ (m : Nat) (n : Nat → Int) (d : Int) (h1 : PH), n 0 + m = gsH g 0 → NOK (gsH g) n → (0 ≤ d ∧ d < 2147483648) → YM g h7 n d h1 → (∀ h2, YM g h7 (yE (gsH g) (gsC g) (gE3 g z) m n d).1 (yE (gsH g) (gsC g) (gE3 g z) m n d).2 h2 → Wp (self 92 x2 (iv z) x4 (x5 + iv ((yE (gsH g) (gsC g) (gE3 g z) m n d).1 11)) (x6 + iv ((yE (gsH g) (gsC g) (gE3 g z) m n d).1 1)) (x7 + iv ((yE (gsH g) (gsC g) (gE3 g z) m n d).1 10)) (x8 + 1) h2) Q) → ∀ fuel, m < fuel → Wp (Mo_years_b87 N self fuel 92 x2 (iv z) x4 x5 x6 x7 x8 h1) Q := by
  have ho := k.1
  have h01 := ho.1
  have h11 := ho.2.1
  have h21 := ho.2.2.1
  intro m
  induction m with
  | zero =>
    intro n d h1 en nk hd x kk fuel hf
    obtain ⟨fu, rfl⟩ : ∃ e, fuel = e + 1 := ⟨fuel - 1, by omega⟩
    have s1 := x.1.shp y.s
    have hs : HsM (gsH g) (gsC g) h1 := y.hs.fr x.1 (by unfold SJ; omega) (by unfold SJ; omega)
    have nt := x.2.2.1
    rw [Mo_years_b87]
    refine Wp_ck (by rw [k92 s1]) (Wp_bde (overM s1 ho hs nt nk) ?_)
    rw [decide_eq_true (by omega)]
    refine Wp_ifn (by decide) (Wp_ck (by rw [k92 s1]) (Wp_bn (p92_35 s1) (Wp_ck (by rw [k116 s1]) (Wp_ck (by rw [k116 s1]; decide) (Wp_ck (by rw [k116 s1]; decide) (Wp_ck (by rw [k116 s1]; decide) ?_))))))
    rw [ix_l 11 (by omega), ix_l 1 (by omega), ix_l 10 (by omega), nt 11 (by omega), nt 1 (by omega), nt 10 (by omega)]
    exact kk h1 x
  | succ m ih =>
    intro n d h1 en nk hd x kk fuel hf
    obtain ⟨fu, rfl⟩ : ∃ e, fuel = e + 1 := ⟨fuel - 1, by omega⟩
    have s1 := x.1.shp y.s
    have hs : HsM (gsH g) (gsC g) h1 := y.hs.fr x.1 (by unfold SJ; omega) (by unfold SJ; omega)
    have nt := x.2.2.1
    have nb := nxt_b d
    have n0 := nk.1
    have n7 := nk.2.2.2.2.2.2.2.1
    have qb := drw_b (gsC g) (n 0) (dig (nxt d))
    have yf := yC_f (gsC g) n (nxt d)
    have yo := yC_ok ho nk (show n 0 < gsH g 0 by omega) (nxt d)
    have yq := yQ_ok (E := gE3 g z) ho (gE3_b g z) nk (show n 0 < gsH g 0 by omega) (nxt d)
    rw [Mo_years_b87]
    refine Wp_ck (by rw [k92 s1]) (Wp_bde (overM s1 ho hs nt nk) ?_)
    rw [decide_eq_false (by omega)]
    refine Wp_ifp (by decide) (Wp_ck (by rw [k92 s1]) (Wp_bd2 (drawnM hN y k x nk (by omega) hd) ?_))
    rintro v h2 ⟨rfl, xb⟩
    have s2 := xb.1.shp y.s
    have hs2 : HsM (gsH g) (gsC g) h2 := y.hs.fr xb.1 (by unfold SJ; omega) (by unfold SJ; omega)
    refine Wp_ck (by rw [k92 s2]) (Wp_bn (p92_35 s2) (Wp_ck (by rw [k116 s2]) (Wp_ck (by rw [k116 s2]; decide) ?_)))
    rw [ix_l 7 (by omega), xb.2.2.1 7 (by omega), iv_add]
    refine Wp_bd2 (comesM s2 ho hs2 xb.2.2.1 nk (by omega) (by omega)) ?_
    rintro - h3 ⟨f3, m3⟩
    have x3 : YM g h7 (yC (gsC g) n (nxt d)) (nxt d) h3 := xb.of116 f3 m3
    have s3 := x3.1.shp y.s
    have nt3 := x3.2.2.1
    have pas : ∀ {h4 : PH} {n2 : Nat → Int}, YM g h7 n2 (nxt d) h4 → NOK (gsH g) n2 → n2 0 = n 0 → passM (gsH g) n2 = yQ (gsH g) (gsC g) (gE3 g z) n (nxt d) → Wp (Mo_years_b153 N self (Mo_years_b87 N self fu) 92 x2 (iv z) x4 x5 x6 x7 x8 h4) Q := by
      intro h4 n2 x4 o2 e2 ep
      have s4 := x4.1.shp y.s
      have hs4 : HsM (gsH g) (gsC g) h4 := y.hs.fr x4.1 (by unfold SJ; omega) (by unfold SJ; omega)
      unfold Mo_years_b153
      refine Wp_ck (by rw [k92 s4]) (Wp_bd2 (passesM (by omega) s4 ho hs4 x4.2.2.1 o2 (by omega)) ?_)
      rintro - h5 ⟨f5, m5⟩
      rw [ep] at m5
      exact ih _ (nxt d) h5 (by rw [yq.2]; omega) yq.1 nb (x4.ho f5 m5) kk fu (by omega)
    refine Wp_ck (by rw [k92 s3]) (Wp_bn (p92_35 s3) (Wp_ck (by rw [k116 s3]) (Wp_ck (by rw [k116 s3]; decide) ?_)))
    rw [ix_l 3 (by omega), nt3 3 (by omega), il0]
    refine Wp_if (fun a => ?_) (fun a => ?_)
    · rw [iv_le (by omega) (by omega) (by omega) (by omega)] at a
      exact pas x3 yo yf.1 (by unfold yQ; rw [if_pos a])
    · rw [iv_le (by omega) (by omega) (by omega) (by omega)] at a
      refine Wp_ck (by rw [k116 s3]; decide) (Wp_ck (by rw [k116 s3]; decide) (Wp_ck (by rw [k116 s3]; decide) (Wp_ck (by rw [k116 s3]; decide) ?_)))
      rw [ix_l 1 (by omega), ix_l 2 (by omega), show ix (iv 0) = 0 from by decide, nt3 0 (by omega), nt3 1 (by omega), nt3 2 (by omega)]
      have l3 : ∀ b, ¬ SJ b → hI h3 b = hI h7 b := fun b hb => (x3.1.2.2.2 b hb).1
      refine Wp_bd2 ((y.hab hN k) h3 s3 (by rw [l3 94 (by unfold SJ; omega)]) (l3 98 (by unfold SJ; omega)) (l3 99 (by unfold SJ; omega)) (l3 100 (by unfold SJ; omega)) z (yC (gsC g) n (nxt d) 0) (yC (gsC g) n (nxt d) 1) (yC (gsC g) n (nxt d) 2) (yC (gsC g) n (nxt d) 3) hz.1 hz.2 (by omega) (by omega) yo.2.1.1 (by have := yo.2.1.2; omega) yo.2.2.1.1 (by have := yo.2.2.1.2; omega) yo.2.2.2.1.1 yo.2.2.2.1.2) ?_
      rintro v h4 ⟨rfl, f4, -⟩
      have x4 := x3.v f4
      have s4 := x4.1.shp y.s
      have hs4 : HsM (gsH g) (gsC g) h4 := y.hs.fr x4.1 (by unfold SJ; omega) (by unfold SJ; omega)
      refine Wp_ck (by rw [k92 s4]) (Wp_bd2 (handsM (by omega) s4 ho hs4 x4.2.2.1 yo (show yC (gsC g) n (nxt d) 0 < gsH g 0 by omega) (EvE_ok (gsE g) (gsH g) _ _ _ _ _)) ?_)
      rintro - h5 ⟨-, f5, m5⟩
      refine pas (x4.ho f5 m5) (handM_ok ho yo (EvE_ok (gsE g) (gsH g) _ _ _ _ _)) (by rw [handM_0]; exact yf.1) ?_
      unfold yQ
      rw [if_neg a]
      rfl
theorem moYearsM {a y z w : Int} (hN : 3000 ≤ N) (x : RestM g h) (k : GOK g) (ha : -2147483648 ≤ a ∧ a < 2147483648) (hy : -2147483648 ≤ y ∧ y < 2147483648) (hz : -2147483648 ≤ z ∧ z < 2147483648) (hw : -2147483648 ≤ w ∧ w < 2147483648) : Wp (Mo_years N 92 (iv a) (iv y) (iv z) (iv w) h) (AnsM g h (fYears g a y z w)) := by
  have s0 := x.s
  have h01 := k.1.1
  unfold Mo_years fYears
  rw [im1, il0, il1, show (2 : Int32) = iv 2 from iv_lit _, show (9999 : Int32) = iv 9999 from iv_lit _, show (20 : Int32) = iv 20 from iv_lit _]
  refine Wp_ck (by rw [k92 s0]) (Wp_lt ?_)
  have x1 := x.t0 (v := iv 0)
  have f1 : MFr h (wI h 92 0 (iv 0)) := t0F
  generalize wI h 92 0 (iv 0) = h1 at x1 f1 ⊢
  have s1 := x1.s
  refine Wp_bde (within_eq (by omega) (by omega) (by omega)) ?_
  by_cases o1 : 0 ≤ a ∧ a ≤ 9999
  · rw [decide_eq_true o1]
    refine Wp_ifn (by decide) (Wp_bde (within_eq (by omega) (by omega) (by omega)) ?_)
    by_cases o2 : 1 ≤ y ∧ y ≤ 20
    · rw [decide_eq_true o2]
      refine Wp_ifn (by decide) (Wp_ck (by rw [k92 s1]) (Wp_bde (isHabM x1 k hz) ?_))
      by_cases o3 : hbt g z
      · rw [decide_eq_true o3]
        refine Wp_ifn (by decide) (Wp_bde (within_eq (by omega) (by omega) (by omega)) ?_)
        by_cases o4 : 0 ≤ w ∧ w ≤ 2
        · rw [decide_eq_true o4, if_pos (show (0 ≤ a ∧ a ≤ 9999) ∧ (1 ≤ y ∧ y ≤ 20) ∧ hbt g z ∧ 0 ≤ w ∧ w ≤ 2 from ⟨o1, o2, o3, o4⟩)]
          refine Wp_ifn (by decide) (Wp_ck (by rw [k92 s1]) (Wp_lt ?_))
          rw [iv_wide (by omega) (by omega)]
          have g2 : FrS (fun b => b = 92) h1 (wJ h1 92 53 (jv a)) := FrS.rf.aJ rfl
          have gI : hI (wJ h1 92 53 (jv a)) = hI h1 := rfl
          have gJ : hJ (wJ h1 92 53 (jv a)) 92 53 = jv a := by rw [hJ_wJ, if_pos ⟨rfl, rfl⟩]
          generalize wJ h1 92 53 (jv a) = h2 at g2 gI gJ ⊢
          have s2 := g2.shp s1
          rw [p92_35 s2, p92_36 s2]
          refine Wp_bd2 (copiesM (a := 116) (b := 117) (x := 0) (y := 0) (la := 14) (lb := 14) (by omega) (by omega) (k116 s2) (k117 s2) (by omega) (by omega) (by omega) (by omega)) ?_
          rintro - h3 ⟨f3, e3⟩
          have y0 : YM g h1 (gsN g) a h3 := ⟨(g2.up (fun b z => Or.inl z)).tr (f3.s.up (fun b z => Or.inr (Or.inr (Or.inr (Or.inl z))))), fun j _ _ _ _ => by rw [f3.I (by omega), gI], fun j hj => by rw [f3.I (by omega), gI]; exact x1.nt j hj, by rw [f3.2.2.2.2.1]; exact gJ, fun j hj => by rw [e3, if_pos (by omega), gI, show 0 + (j - 0) = j from by omega]; exact x1.nt j hj⟩
          have key : ∀ (m : Nat) (q d b1 b2 b3 : Int) (n : Nat → Int) (h4 : PH), q + m = y → 0 ≤ q → (0 ≤ d ∧ d < 2147483648) → YM g h1 n d h4 → ∀ fuel, m < fuel → Wp (Mo_years_b77 N fuel 92 (iv y) (iv z) (iv w) (iv b1) (iv b2) (iv b3) (iv q) h4) (AnsM g h (if w = 0 then (mxI 0 (iv (yY (gsH g) (gsC g) (gE3 g z) m d b1 b2 b3).1)).toInt else if w = 1 then (yY (gsH g) (gsC g) (gE3 g z) m d b1 b2 b3).2.1 else (yY (gsH g) (gsC g) (gE3 g z) m d b1 b2 b3).2.2)) := by
            intro m
            induction m with
            | zero =>
              intro q d b1 b2 b3 n h4 eq q0 hd ym fuel hf
              obtain ⟨fu, rfl⟩ : ∃ e, fuel = e + 1 := ⟨fuel - 1, by omega⟩
              have s4 := ym.1.shp s1
              rw [Mo_years_b77]
              refine Wp_ifp (by rw [iv_le (by omega) (by omega) (by omega) (by omega)]; omega) (Wp_ck (by rw [k92 s4]) ?_)
              rw [p92_35 s4, p92_36 s4, il0, il1]
              refine Wp_bd2 (copiesM (a := 117) (b := 116) (x := 0) (y := 0) (la := 14) (lb := 14) (by omega) (by omega) (k117 s4) (k116 s4) (by omega) (by omega) (by omega) (by omega)) ?_
              rintro - h5 ⟨f5, e5⟩
              have ry := ym.rest x1 f5 (fun j hj => by rw [e5, if_pos (by omega), show 0 + (j - 0) = j from by omega]; exact ym.2.2.2.2 j hj)
              have mf : MFr h h5 := f1.tr (ry.2.up (fun b z => by unfold SJ at z; show 92 ≤ b ∧ b ≤ 125; omega))
              unfold yY
              refine Wp_if (fun e => ?_) (fun e => ?_)
              · rw [iv_eq (by omega) (by omega) (by omega) (by omega)] at e
                rw [if_pos e]
                exact Wp_ret ⟨(iv_of _).symm, ry.1, mf⟩
              rw [iv_eq (by omega) (by omega) (by omega) (by omega)] at e
              rw [if_neg e]
              refine Wp_if (fun e => ?_) (fun e => ?_)
              · rw [iv_eq (by omega) (by omega) (by omega) (by omega)] at e
                rw [if_pos e]
                exact Wp_ret ⟨rfl, ry.1, mf⟩
              · rw [iv_eq (by omega) (by omega) (by omega) (by omega)] at e
                rw [if_neg e]
                exact Wp_ret ⟨rfl, ry.1, mf⟩
            | succ m ih =>
              intro q d b1 b2 b3 n h4 eq q0 hd ym fuel hf
              obtain ⟨fu, rfl⟩ : ∃ e, fuel = e + 1 := ⟨fuel - 1, by omega⟩
              have s4 := ym.1.shp s1
              rw [Mo_years_b77]
              refine Wp_ifn (by rw [iv_le (by omega) (by omega) (by omega) (by omega)]; omega) (Wp_ck (by rw [k92 s4]) (Wp_bd2 (freshM (H := gsH g) (C := gsC g) (by omega) s4 (x1.hs.fr ym.1 (by unfold SJ; omega) (by unfold SJ; omega))) ?_))
              rintro - h5 ⟨f5, m5⟩
              have y5 := ym.of116 f5.s m5
              have eb := yE_b (H := gsH g) (C := gsC g) (E := gE3 g z) (gsH g 0).toNat (begM (gsH g)) d hd
              refine eve87M hN x1 k o3 (gsH g 0).toNat (begM (gsH g)) d h5 (by show (0 : Int) + _ = _; omega) (begM_ok k.1) hd y5 (fun h6 y6 => ?_) N (by omega)
              rw [iv_add, iv_add, iv_add, il1, iv_add, yY]
              exact ih (q + 1) _ _ _ _ _ h6 (by omega) (by omega) eb y6 fu (by omega)
          exact key y.toNat 0 a 0 0 0 (gsN g) h3 (by omega) (by omega) (by omega) y0 N (by omega)
        · rw [decide_eq_false o4]
          exact Wp_ifp (by decide) (AnsM.no x1 f1 (if_neg (fun q => o4 q.2.2.2)))
      · rw [decide_eq_false o3]
        exact Wp_ifp (by decide) (AnsM.no x1 f1 (if_neg (fun q => o3 q.2.2.1)))
    · rw [decide_eq_false o2]
      exact Wp_ifp (by decide) (AnsM.no x1 f1 (if_neg (fun q => o2 q.2.1)))
  · rw [decide_eq_false o1]
    exact Wp_ifp (by decide) (AnsM.no x1 f1 (if_neg (fun q => o1 q.1)))
theorem moThrownM (x : RestM g h) : Mo_thrown N 92 h = some (hI h 92 0, h) := by
  unfold Mo_thrown
  rw [ck_p (by rw [k92 x.s])]
end
