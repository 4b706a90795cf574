/-! THE PURE PROOFS, 9A5: the start: nights of the past, marks. -/
section
variable {g : GT} {N : Nat} {h0 : PH} {Q : Unit → PH → Prop}
theorem marksB (n0 : hN h0 = 72) (k6' : hK h0 6 = (10, 0)) (k35' : hK h0 35 = (25, 4)) (p6 : hR h0 6 11 = some 35) (ks : ∀ i, i < 4 → hK h0 (72 + 5 * i) = (1, 0) ∧ hK h0 (73 + 5 * i) = (3, 0) ∧ hK h0 (74 + 5 * i) = (6, 0) ∧ hK h0 (75 + 5 * i) = (20, 60) ∧ hK h0 (76 + 5 * i) = (20, 60)) (go : ∀ h2, FrGr (fun b => b = 35 ∨ 72 ≤ b) 20 560 h0 h2 → (∀ j, j < 4 → hR h2 35 j = some (72 + 5 * j) ∧ hR h2 (72 + 5 * j) 0 = some (73 + 5 * j) ∧ hR h2 (72 + 5 * j) 1 = some (74 + 5 * j) ∧ hR h2 (74 + 5 * j) 0 = some (75 + 5 * j) ∧ hR h2 (74 + 5 * j) 1 = some (76 + 5 * j)) → Wp (bd (Le_moveIn N 6 h2) fun _ h7 => some ((), h7)) Q) : ∀ (m i : Nat) (h : PH), i + m = 4 → FrGr (fun b => b = 35 ∨ 72 ≤ b) (5 * i) (140 * i) h0 h → (∀ j, j < i → hR h 35 j = some (72 + 5 * j) ∧ hR h (72 + 5 * j) 0 = some (73 + 5 * j) ∧ hR h (72 + 5 * j) 1 = some (74 + 5 * j) ∧ hR h (74 + 5 * j) 0 = some (75 + 5 * j) ∧ hR h (74 + 5 * j) 1 = some (76 + 5 * j)) → ∀ fuel, m < fuel → Wp (Le_init_b263 g N fuel 6 (iv i) h) Q := by
  intro m
  induction m with
  | zero =>
    intro i h ei f r fuel hf
    obtain ⟨fu, rfl⟩ : ∃ e, fuel = e + 1 := ⟨fuel - 1, by omega⟩
    obtain rfl : i = 4 := by omega
    rw [Le_init_b263]
    refine Wp_ck (by rw [f.2.1, k6']) (Wp_bn (by rw [(f.2.2 6 (by omega)).2.2.2]; exact p6) (Wp_ck (by rw [f.2.1, k35']) ?_))
    rw [f.2.1, k35']
    exact Wp_ifp (by decide) (go h f r)
  | succ m ih =>
    intro i h ei f r fuel hf
    obtain ⟨fu, rfl⟩ : ∃ e, fuel = e + 1 := ⟨fuel - 1, by omega⟩
    obtain ⟨q1, q2, q3, q4, q5⟩ := ks i (by omega)
    have eN : hN h = 72 + 5 * i := by rw [f.1.1, n0]
    have ek35 : hK h 35 = (25, 4) := by rw [f.2.1, k35']
    rw [Le_init_b263]
    refine Wp_ck (by rw [f.2.1, k6']) (Wp_bn (by rw [(f.2.2 6 (by omega)).2.2.2]; exact p6) (Wp_ck (by rw [ek35]) ?_))
    rw [ek35, ofN, eN]
    refine Wp_ifn (by rw [iv_le (by omega) (by omega) (by omega) (by omega)]; omega) (Wp_lt ?_)
    have f1 := f.nw (kd := (1, 0)) (m := 3) (by rw [n0]; exact q1) (by show _ ∨ 72 ≤ _; omega)
    have z1 : ∀ b, b < 72 + 5 * i → hR (nw h (1, 0) 3) b = hR h b := fun b hb => by funext j; rw [hR_nw, if_neg (by omega)]
    have n1 : hN (nw h (1, 0) 3) = 72 + 5 * i + 1 := by rw [hN_nw, eN]
    generalize nw h (1, 0) 3 = h1 at f1 z1 n1 ⊢
    refine Wp_ck (by rw [f1.2.1, q1]) (Wp_bd2 (maInit (n := 72 + 5 * i + 1) n1 (by omega) (by rw [f1.2.1, q1]) (by rw [f1.2.1, show 72 + 5 * i + 1 = 73 + 5 * i from by omega, q2]) (by rw [f1.2.1, show 72 + 5 * i + 1 + 1 = 74 + 5 * i from by omega, q3]) (by rw [f1.2.1, show 72 + 5 * i + 1 + 2 = 75 + 5 * i from by omega, q4]) (by rw [f1.2.1, show 72 + 5 * i + 1 + 3 = 76 + 5 * i from by omega, q5])) ?_)
    rintro - h2 ⟨f2, r1, r2, r3, r4⟩
    have f12 := f1.tr (f2.up (T := fun b => b = 35 ∨ 72 ≤ b) (fun b z => by omega))
    refine Wp_ck (by rw [f12.2.1, k35']) (Wp_ck (by rw [f12.2.1, k35']; exact inb_iv (by omega) (by omega) (by omega)) (Wp_ck (by rw [f12.2.1, q1]) (Wp_lt ?_)))
    rw [ix_nat (by omega), il1, iv_add, show (i : Int) + 1 = ((i + 1 : Nat) : Int) from by omega]
    have f3 := f12.wR (a := 35) (i := i) (v := some (72 + 5 * i)) (Or.inl rfl)
    refine ih (i + 1) _ (by omega) ?_ (fun j hj => ?_) fu (by omega)
    · rw [show 5 * (i + 1) = 5 * i + 1 + 4 from by omega, show 140 * (i + 1) = 140 * i + 3 + 137 from by omega]
      exact f3
    · by_cases c : j = i
      · subst c
        refine ⟨by rw [hR_wR, if_pos ⟨rfl, rfl⟩], ?_, ?_, ?_, ?_⟩
        · rw [hR_wR, if_neg (by omega), r1]; congr 1; omega
        · rw [hR_wR, if_neg (by omega), r2]; congr 1; omega
        · rw [hR_wR, if_neg (by omega), show 74 + 5 * j = 72 + 5 * j + 1 + 1 from by omega, r3]; congr 1; omega
        · rw [hR_wR, if_neg (by omega), show 74 + 5 * j = 72 + 5 * j + 1 + 1 from by omega, r4]; congr 1; omega
      · obtain ⟨o1, o2, o3, o4, o5⟩ := r j (by omega)
        have l : ∀ b, b < 72 + 5 * i → hR h2 b = hR h b := fun b hb => by rw [(f2.2.2 b (by omega)).2.2.2, z1 b hb]
        refine ⟨?_, ?_, ?_, ?_, ?_⟩
        · rw [hR_wR, if_neg (by omega), l 35 (by omega)]; exact o1
        · rw [hR_wR, if_neg (by omega), l _ (by omega)]; exact o2
        · rw [hR_wR, if_neg (by omega), l _ (by omega)]; exact o3
        · rw [hR_wR, if_neg (by omega), l _ (by omega)]; exact o4
        · rw [hR_wR, if_neg (by omega), l _ (by omega)]; exact o5
theorem nightsB (n0 : hN h0 = 56) (k6' : hK h0 6 = (10, 0)) (k34' : hK h0 34 = (24, 16)) (p6 : hR h0 6 8 = some 34) (ks : ∀ i, i < 16 → hK h0 (56 + i) = (3, 0)) (go : ∀ h2, FrGr (fun b => b = 34 ∨ 56 ≤ b) 16 224 h0 h2 → (∀ j, j < 16 → hR h2 34 j = some (56 + j)) → Wp (Le_init_b263 g N N 6 0 h2) Q) : ∀ (m i : Nat) (h : PH), i + m = 16 → FrGr (fun b => b = 34 ∨ 56 ≤ b) i (14 * i) h0 h → (∀ j, j < i → hR h 34 j = some (56 + j)) → ∀ fuel, m < fuel → Wp (Le_init_b233 g N fuel 6 (iv i) h) Q := by
  intro m
  induction m with
  | zero =>
    intro i h ei f r fuel hf
    obtain ⟨fu, rfl⟩ : ∃ e, fuel = e + 1 := ⟨fuel - 1, by omega⟩
    obtain rfl : i = 16 := by omega
    rw [Le_init_b233]
    refine Wp_ck (by rw [f.2.1, k6']) (Wp_bn (by rw [(f.2.2 6 (by omega)).2.2.2]; exact p6) (Wp_ck (by rw [f.2.1, k34']) ?_))
    rw [f.2.1, k34']
    exact Wp_ifp (by decide) (go h f r)
  | succ m ih =>
    intro i h ei f r fuel hf
    obtain ⟨fu, rfl⟩ : ∃ e, fuel = e + 1 := ⟨fuel - 1, by omega⟩
    have q1 := ks i (by omega)
    have eN : hN h = 56 + i := by rw [f.1.1, n0]
    have ek34 : hK h 34 = (24, 16) := by rw [f.2.1, k34']
    rw [Le_init_b233]
    refine Wp_ck (by rw [f.2.1, k6']) (Wp_bn (by rw [(f.2.2 6 (by omega)).2.2.2]; exact p6) (Wp_ck (by rw [ek34]) ?_))
    rw [ek34, ofN, eN]
    refine Wp_ifn (by rw [iv_le (by omega) (by omega) (by omega) (by omega)]; omega) (Wp_lt ?_)
    have f1 := f.nw (kd := (3, 0)) (m := 14) (by rw [n0]; exact q1) (by show _ ∨ 56 ≤ _; omega)
    have z1 : ∀ b, b < 56 + i → hR (nw h (3, 0) 14) b = hR h b := fun b hb => by funext j; rw [hR_nw, if_neg (by omega)]
    generalize nw h (3, 0) 14 = h1 at f1 z1 ⊢
    refine Wp_ck (by rw [f1.2.1, q1]) (Wp_bd2 (niInit (by rw [f1.2.1, q1])) ?_)
    rintro - h2 f2
    have f12 := f1.tr (f2.up (T := fun b => b = 34 ∨ 56 ≤ b) (fun b z => by omega))
    refine Wp_ck (by rw [f12.2.1, k34']) (Wp_ck (by rw [f12.2.1, k34']; exact inb_iv (by omega) (by omega) (by omega)) (Wp_ck (by rw [f12.2.1, q1]) (Wp_lt ?_)))
    rw [ix_nat (by omega), il1, iv_add, show (i : Int) + 1 = ((i + 1 : Nat) : Int) from by omega]
    have f3 := f12.wR (a := 34) (i := i) (v := some (56 + i)) (Or.inl rfl)
    refine ih (i + 1) _ (by omega) ?_ (fun j hj => ?_) fu (by omega)
    · rw [show 14 * (i + 1) = 14 * i + 14 + 0 from by omega, show i + 1 = i + 1 + 0 from rfl]
      exact f3
    · by_cases c : j = i
      · rw [c, hR_wR, if_pos ⟨rfl, rfl⟩]
      · rw [hR_wR, if_neg (by omega), (f2.2.2 34 (by omega)).2.2.2, z1 34 (by omega)]
        exact r j (by omega)
end
