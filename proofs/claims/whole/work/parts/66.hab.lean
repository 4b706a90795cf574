/-! THE PURE PROOFS, 44: the house's habits, one E for both. -/
def EvE (es : Nat → Ex) (H : Nat → Int) (hb q t a here : Int) : Int := clp (vlu (es hb.toNat) (env (iv q) (iv t) (iv a) (iv (H 0 - q)) (iv here)))
theorem EvE_ok (es : Nat → Ex) (H : Nat → Int) : EOK (EvE es H) := fun _ _ _ _ _ => clp_b _
theorem clp_mx (v : Int32) : mxI 0 (mnI 4 v) = iv (clp v) := by
  have b1 : v.toInt < 2147483648 := Int32.toInt_lt v
  have b2 : -2147483648 ≤ v.toInt := Int32.le_toInt v
  have e : v = iv v.toInt := (Int32.ofInt_toInt _).symm
  unfold clp
  simp only [Int32.lt_iff_toInt_lt, show (0 : Int32).toInt = 0 from by decide, show (4 : Int32).toInt = 4 from by decide]
  generalize v.toInt = x at b1 b2 e ⊢
  rw [e, il0, il4, iv_mn (by omega) (by omega) (by omega) (by omega), iv_mx (by omega) (by omega) (by omega) (by omega)]
  congr 1
  split
  · omega
  · split <;> omega
theorem clp_M {N : Nat} {h : PH} (v : Int32) : Mo_between N v 0 4 h = some (iv (clp v), h) := by
  have b1 : v.toInt < 2147483648 := Int32.toInt_lt v
  have b2 : -2147483648 ≤ v.toInt := Int32.le_toInt v
  have e : v = iv v.toInt := (Int32.ofInt_toInt _).symm
  unfold Mo_between clp
  simp only [Int32.lt_iff_toInt_lt, Int32.le_iff_toInt_le, show (0 : Int32).toInt = 0 from by decide, show (4 : Int32).toInt = 4 from by decide]
  by_cases c : 0 ≤ v.toInt
  · rw [if_pos c, if_neg (show ¬ v.toInt < 0 by omega)]
    by_cases d : v.toInt ≤ 4
    · rw [if_pos d, if_neg (show ¬ 4 < v.toInt by omega), ← e]
    · rw [if_neg d, if_pos (show 4 < v.toInt by omega), il4]
  · rw [if_neg c, if_pos (show v.toInt < 0 by omega), il0]
/-- m habits stand in the class's house at b: b + 4 the steps, b + 5 the ends -/
def HaL (N b m : Nat) (es : Nat → Ex) (h : PH) : Prop := ∃ fr : Nat → Nat, fr 0 = 0 ∧ ∀ i, i < m → hI h (b + 5) i = iv (fr (i + 1)) ∧ fr (i + 1) = fr i + (post (es i)).length ∧ fr (i + 1) ≤ 1000 ∧ (∀ k, k < (post (es i)).length → hI h (b + 4) (fr i + k) = iv ((post (es i)).getD k 0)) ∧ EvC N 33 (es i)
theorem habLof {N m : Nat} {H : Nat → Int} {es : Nat → Ex} {h : PH} (hN : 1100 ≤ N) (hm : H 15 = m) (m4 : m ≤ 4) (h0 : hI h 10 0 = iv (H 0)) (x : HaL N 10 m es h) : HabL N H (EvE es H) h := by
  obtain ⟨fr, fr0, st⟩ := x
  intro h1 s e10 e14 e15 hb q t a here b0 b1 q0 q1 t0 t1 a0 a1 r0 r1
  obtain ⟨i, rfl⟩ : ∃ i : Nat, hb = (i : Int) := ⟨hb.toNat, by omega⟩
  have him : i < m := by omega
  obtain ⟨c1, c2, c3, c4, c5⟩ := st i him
  have w : Wp (Me_giveOf N 45 (iv i) (iv q) (iv t) (iv a) (iv here) h1) (fun v h2 => v = iv (EvE es H i q t a here) ∧ FrI (fun b => b = 46) h1 h2) := by
    have run : Wp (Me_giveOf_b47 N N 45 (iv q) (iv t) (iv a) (iv here) 0 (iv (fr (i + 1) : Nat)) (iv (fr i : Nat)) h1) (fun v h2 => v = iv (EvE es H i q t a here) ∧ FrI (fun b => b = 46) h1 h2) := by
      have r := c5.2 (iv q) (iv t) (iv a) (iv here) (iv (H 0)) 0 (fr i) (fr (i + 1)) (N - (post (es i)).length) h1 (fun v h2 => v = iv (EvE es H i q t a here) ∧ FrI (fun b => b = 46) h1 h2) s (by rw [e10]; exact h0) (fun k hk => by rw [e14]; exact c4 k hk) (by omega) (by omega) c3 ?_
      · rw [show N - (post (es i)).length + (post (es i)).length = N from by omega] at r
        exact r
      · intro h2 f2 _ v2
        have s2 := f2.shp s
        obtain ⟨fu, efu⟩ : ∃ g, N - (post (es i)).length = g + 1 := ⟨N - (post (es i)).length - 1, by omega⟩
        rw [efu, Me_giveOf_b47, c2]
        refine Wp_ifp (Int32.le_refl _) (Wp_ck (by rw [k45 s2]) ?_)
        rw [p45_1 s2]
        refine Wp_bde (show Le_at N (some 46) 0 h2 = some (hI h2 46 0, h2) from atS (i := 0) (k46 s2) (by omega) (by omega)) (Wp_ret ⟨?_, f2⟩)
        rw [v2, iv_sub]
        show mxI 0 (mnI 4 (vlu (es i) (env (iv q) (iv t) (iv a) (iv (H 0 - q)) (iv here)))) = iv (clp _)
        exact clp_mx _
    have b22 : ∀ fr0' : Nat, fr0' = fr (i + 1) → Wp (Me_giveOf_b22 N (iv (fr0' : Nat)) 45 (iv i) (iv q) (iv t) (iv a) (iv here) 0 h1) (fun v h2 => v = iv (EvE es H i q t a here) ∧ FrI (fun b => b = 46) h1 h2) := by
      rintro _ rfl
      unfold Me_giveOf_b22 Me_giveOf_b45
      by_cases ci : i = 0
      · subst ci
        rw [fr0] at run
        exact Wp_ifn (by decide) run
      · refine Wp_ifp (by rw [il0, iv_lt (by omega) (by omega) (by omega) (by omega)]; omega) (Wp_ck (by rw [k45 s]) (Wp_bn (p45_0 s) (Wp_ck (by rw [k10 s]) ?_)))
        have e1 : iv (i : Int) - 1 = iv ((i - 1 : Nat) : Int) := by rw [il1, iv_sub]; congr 1; omega
        rw [p10_18 s, e1]
        refine Wp_bde (atS (k15 s) (by omega) (by omega)) ?_
        have c := (st (i - 1) (by omega)).1
        rw [show i - 1 + 1 = i from by omega] at c
        rw [e15, c]
        exact run
    unfold Me_giveOf
    refine Wp_ifp (by rw [il0, iv_le (by omega) (by omega) (by omega) (by omega)]; omega) (Wp_ck (by rw [k45 s]) (Wp_bn (p45_0 s) (Wp_ck (by rw [k10 s]) ?_)))
    rw [p10_18 s]
    refine Wp_bde (atS (k15 s) (by omega) (by omega)) ?_
    rw [e15, c1]
    exact b22 _ rfl
  obtain ⟨v, h2, e, rfl, f⟩ := w
  exact ⟨h2, e, f⟩
