/-! THE PURE PROOFS, 63: the class reads a house: what it begins with, the wet chances. -/
theorem settleL {N b : Nat} {C : Nat → Int} {h : PH} (hN : 100 ≤ N) (kb : hK h b = (0, 0)) (k2 : hK h (b + 2) = (20, 96)) (k3 : hK h (b + 3) = (20, 96)) (p2 : hR h b 15 = some (b + 2)) (p3 : hR h b 16 = some (b + 3)) (e : ∀ k, k < 96 → hI h (b + 2) k = iv (C k)) : Wp (Ho_settle N b h) (fun _ h2 => FrI (fun c => c = b + 3) h h2 ∧ ∀ q k : Nat, q < 24 → k < 4 → hI h2 (b + 3) (4 * q + k) = iv (cw C 1 q k)) := by
  have key : ∀ (m q : Nat) (h1 : PH), q + m = 24 → FrI (fun c => c = b + 3) h h1 → (∀ q' k : Nat, q' < q → k < 4 → hI h1 (b + 3) (4 * q' + k) = iv (cw C 1 q' k)) → ∀ fuel, m < fuel → Wp (Ho_settle_b2 N fuel b (iv q) h1) (fun _ h2 => FrI (fun c => c = b + 3) h h2 ∧ ∀ q k : Nat, q < 24 → k < 4 → hI h2 (b + 3) (4 * q + k) = iv (cw C 1 q k)) := by
    intro m
    induction m with
    | zero =>
      intro q h1 eq f1 a1 fuel hf
      obtain ⟨fu, rfl⟩ : ∃ g, fuel = g + 1 := ⟨fuel - 1, by omega⟩
      obtain rfl : q = 24 := by omega
      rw [Ho_settle_b2]
      exact Wp_ifp (by decide) (Wp_ret ⟨f1, a1⟩)
    | succ m ih =>
      intro q h1 eq f1 a1 fuel hf
      obtain ⟨fu, rfl⟩ : ∃ g, fuel = g + 1 := ⟨fuel - 1, by omega⟩
      have ge : ∀ {h2 : PH}, FrI (fun c => c = b + 3) h h2 → hK h2 b = (0, 0) ∧ hK h2 (b + 2) = (20, 96) ∧ hK h2 (b + 3) = (20, 96) ∧ hR h2 b 15 = some (b + 2) ∧ hR h2 b 16 = some (b + 3) ∧ ∀ k, k < 96 → hI h2 (b + 2) k = iv (C k) := fun f => ⟨by rw [f.2.1]; exact kb, by rw [f.2.1]; exact k2, by rw [f.2.1]; exact k3, by rw [f.2.2.1]; exact p2, by rw [f.2.2.1]; exact p3, fun k hk => (f.I (by omega) k).trans (e k hk)⟩
      obtain ⟨x1, x2, x3, x4, x5, x6⟩ := ge f1
      rw [Ho_settle_b2, show (24 : Int32) = iv 24 from iv_lit _]
      refine Wp_ifn (by rw [iv_le (by omega) (by omega) (by omega) (by omega)]; omega) (Wp_ck (by rw [x1]) ?_)
      rw [x4, x5, il4, il1, il2, il3, il0]
      simp only [iv_mul, iv_add]
      refine Wp_bde (at_in (z := (q : Int) * 4) x2 (by omega) (by omega) (by omega)) (Wp_ck (by rw [x1]) ?_)
      rw [x4]
      refine Wp_bde (at_in (z := (q : Int) * 4 + 1) x2 (by omega) (by omega) (by omega)) ?_
      rw [x6 _ (by omega), x6 _ (by omega), iv_add]
      refine Wp_bde (put_in x3 (by omega) (by omega) (by omega)) ?_
      have g1 := f1.w (a := b + 3) (i := ((q : Int) * 4).toNat) (v := iv (C ((q : Int) * 4).toNat + C ((q : Int) * 4 + 1).toNat)) rfl
      have o1 : ∀ j, hI (wI h1 (b + 3) ((q : Int) * 4).toNat (iv (C ((q : Int) * 4).toNat + C ((q : Int) * 4 + 1).toNat))) (b + 3) j = if j = ((q : Int) * 4).toNat then iv (C ((q : Int) * 4).toNat + C ((q : Int) * 4 + 1).toNat) else hI h1 (b + 3) j := by
        intro j
        rw [hI_wI]
        by_cases c : j = ((q : Int) * 4).toNat
        · rw [if_pos ⟨rfl, c⟩, if_pos c]
        · rw [if_neg (fun z => c z.2), if_neg c]
      generalize wI h1 (b + 3) ((q : Int) * 4).toNat (iv (C ((q : Int) * 4).toNat + C ((q : Int) * 4 + 1).toNat)) = i1 at g1 o1 ⊢
      obtain ⟨x1, x2, x3, x4, x5, x6⟩ := ge g1
      refine Wp_ck (by rw [x1]) ?_
      rw [x4, x5]
      refine Wp_bde (at_in x2 (by omega) (by omega) (by omega)) ?_
      rw [x6 _ (by omega)]
      refine Wp_bde (put_in x3 (by omega) (by omega) (by omega)) ?_
      have g2 := g1.w (a := b + 3) (i := ((q : Int) * 4 + 1).toNat) (v := iv (C ((q : Int) * 4 + 2).toNat)) rfl
      have o2 : ∀ j, hI (wI i1 (b + 3) ((q : Int) * 4 + 1).toNat (iv (C ((q : Int) * 4 + 2).toNat))) (b + 3) j = if j = ((q : Int) * 4 + 1).toNat then iv (C ((q : Int) * 4 + 2).toNat) else hI i1 (b + 3) j := by
        intro j
        rw [hI_wI]
        by_cases c : j = ((q : Int) * 4 + 1).toNat
        · rw [if_pos ⟨rfl, c⟩, if_pos c]
        · rw [if_neg (fun z => c z.2), if_neg c]
      generalize wI i1 (b + 3) ((q : Int) * 4 + 1).toNat (iv (C ((q : Int) * 4 + 2).toNat)) = i2 at g2 o2 ⊢
      obtain ⟨x1, x2, x3, x4, x5, x6⟩ := ge g2
      refine Wp_ck (by rw [x1]) ?_
      rw [x4, x5]
      refine Wp_bde (at_in x2 (by omega) (by omega) (by omega)) ?_
      rw [x6 _ (by omega)]
      refine Wp_bde (put_in x3 (by omega) (by omega) (by omega)) ?_
      have g3 := g2.w (a := b + 3) (i := ((q : Int) * 4 + 2).toNat) (v := iv (C ((q : Int) * 4 + 3).toNat)) rfl
      have o3 : ∀ j, hI (wI i2 (b + 3) ((q : Int) * 4 + 2).toNat (iv (C ((q : Int) * 4 + 3).toNat))) (b + 3) j = if j = ((q : Int) * 4 + 2).toNat then iv (C ((q : Int) * 4 + 3).toNat) else hI i2 (b + 3) j := by
        intro j
        rw [hI_wI]
        by_cases c : j = ((q : Int) * 4 + 2).toNat
        · rw [if_pos ⟨rfl, c⟩, if_pos c]
        · rw [if_neg (fun z => c z.2), if_neg c]
      generalize wI i2 (b + 3) ((q : Int) * 4 + 2).toNat (iv (C ((q : Int) * 4 + 3).toNat)) = i3 at g3 o3 ⊢
      obtain ⟨x1, x2, x3, x4, x5, x6⟩ := ge g3
      refine Wp_ck (by rw [x1]) ?_
      rw [x5]
      refine Wp_bde (put_in x3 (by omega) (by omega) (by omega)) ?_
      have g4 := g3.w (a := b + 3) (i := ((q : Int) * 4 + 3).toNat) (v := iv 0) rfl
      refine ih (q + 1) _ (by omega) g4 (fun q' k hq hk => ?_) fu (by omega)
      rw [hI_wI]
      unfold cw ch
      rw [if_neg (show ¬ (1 : Int) = 0 by omega)]
      by_cases c : q' = q
      · subst c
        have c4 : k = 0 ∨ k = 1 ∨ k = 2 ∨ k = 3 := by omega
        rcases c4 with rfl | rfl | rfl | rfl
        · rw [if_neg (by omega), o3, if_neg (by omega), o2, if_neg (by omega), o1, if_pos (by omega), if_pos (by omega)]
          rw [show (4 * (q' : Int) + 0).toNat = ((q' : Int) * 4).toNat from by omega, show (4 * (q' : Int) + 1).toNat = ((q' : Int) * 4 + 1).toNat from by omega]
        · rw [if_neg (by omega), o3, if_neg (by omega), o2, if_pos (by omega), if_neg (by omega), if_neg (by omega)]
          rw [show (4 * (q' : Int) + (((1 : Nat) : Int) + 1)).toNat = ((q' : Int) * 4 + 2).toNat from by omega]
        · rw [if_neg (by omega), o3, if_pos (by omega), if_neg (by omega), if_neg (by omega)]
          rw [show (4 * (q' : Int) + (((2 : Nat) : Int) + 1)).toNat = ((q' : Int) * 4 + 3).toNat from by omega]
        · rw [if_pos ⟨rfl, by omega⟩, if_neg (by omega), if_pos (by omega)]
      · rw [if_neg (by omega), o3, if_neg (by omega), o2, if_neg (by omega), o1, if_neg (by omega)]
        have z := a1 q' k (by omega) hk
        unfold cw ch at z
        rw [if_neg (show ¬ (1 : Int) = 0 by omega)] at z
        exact z
  unfold Ho_settle
  exact key 24 0 h rfl FrI.rf (fun q' k hq hk => by omega) N (by omega)
theorem hoBeginL {N b : Nat} {h : PH} (hN : 100 ≤ N) (kb : hK h b = (0, 0)) (k1 : hK h (b + 1) = (20, 4)) (k2 : hK h (b + 2) = (20, 96)) (p1 : hR h b 14 = some (b + 1)) (p2 : hR h b 15 = some (b + 2)) : Wp (Ho_begin N b h) (fun _ h2 => FrI (fun c => c = b ∨ c = b + 1 ∨ c = b + 2) h h2 ∧ (∀ f, f < 13 → hI h2 b f = iv (cf H1 f)) ∧ hI h2 b 13 = iv 0 ∧ hI h2 (b + 1) 0 = hI h (b + 1) 0 ∧ (∀ n : Nat, 0 < n → n < 4 → hI h2 (b + 1) n = iv (wsm H1 n)) ∧ ∀ k, k < 96 → hI h2 (b + 2) k = iv (C1 k)) := by
  have lp : ∀ (h0 : PH), FrI (fun c => c = b ∨ c = b + 1 ∨ c = b + 2) h h0 → ∀ (m k : Nat) (h1 : PH), k + m = 96 → FrI (fun c => c = b + 2) h0 h1 → (∀ i, i < k → hI h1 (b + 2) i = iv (C1 i)) → ∀ fuel, m < fuel → Wp (Ho_begin_b101 N fuel b (iv k) h1) (fun _ h2 => FrI (fun c => c = b + 2) h0 h2 ∧ ∀ i, i < 96 → hI h2 (b + 2) i = iv (C1 i)) := by
    intro h0 f0 m
    induction m with
    | zero =>
      intro k h1 ek f1 a1 fuel hf
      obtain ⟨fu, rfl⟩ : ∃ g, fuel = g + 1 := ⟨fuel - 1, by omega⟩
      obtain rfl : k = 96 := by omega
      have f01 := f0.tr (f1.up (fun c e => Or.inr (Or.inr e)))
      rw [Ho_begin_b101]
      refine Wp_ck (by rw [f01.2.1, kb]) (Wp_bn (by rw [f01.2.2.1]; exact p2) (Wp_ck (by rw [f01.2.1, k2]) ?_))
      rw [f01.2.1, k2]
      exact Wp_ifp (by decide) (Wp_ret ⟨f1, a1⟩)
    | succ m ih =>
      intro k h1 ek f1 a1 fuel hf
      obtain ⟨fu, rfl⟩ : ∃ g, fuel = g + 1 := ⟨fuel - 1, by omega⟩
      have f01 := f0.tr (f1.up (fun c e => Or.inr (Or.inr e)))
      have kk2 : hK h1 (b + 2) = (20, 96) := by rw [f01.2.1, k2]
      have pp2 : hR h1 b 15 = some (b + 2) := by rw [f01.2.2.1]; exact p2
      rw [Ho_begin_b101]
      refine Wp_ck (by rw [f01.2.1, kb]) (Wp_bn pp2 (Wp_ck (by rw [kk2]) ?_))
      rw [kk2, ofN]
      refine Wp_ifn (by rw [iv_le (by omega) (by omega) (by omega) (by omega)]; omega) (Wp_ck (by decide) ?_)
      have one : ∀ v : Int, v = C1 k → Wp (Ho_begin_b127 N (Ho_begin_b101 N fu) (hR h1 b 15) (iv k) (iv v) b (iv k) h1) (fun _ h2 => FrI (fun c => c = b + 2) h0 h2 ∧ ∀ i, i < 96 → hI h2 (b + 2) i = iv (C1 i)) := by
        intro v ev
        unfold Ho_begin_b127
        refine Wp_bn pp2 (Wp_ck (by rw [kk2]) (Wp_ck (by rw [kk2]; exact inb_iv (by omega) (by omega) (by omega)) (Wp_lt ?_)))
        rw [ix_nat (by omega), il1, iv_add]
        refine ih (k + 1) _ (by omega) (f1.w rfl) (fun i hi => ?_) fu (by omega)
        rw [hI_wI]
        by_cases c : i = k
        · rw [if_pos ⟨rfl, c⟩, c, ev]
        · rw [if_neg (fun z => c z.2)]
          exact a1 i (by omega)
      rw [il4, iv_div (by omega) (by omega) (by omega) (by omega), iv_mul, iv_sub, Int.tdiv_eq_ediv_of_nonneg (by omega), il0, show (10 : Int32) = iv 10 from iv_lit _]
      refine Wp_if (fun c => ?_) (fun c => ?_)
      · rw [iv_eq (by omega) (by omega) (by omega) (by omega)] at c
        exact one 10 (by unfold C1; rw [if_pos (by omega)])
      · rw [iv_eq (by omega) (by omega) (by omega) (by omega)] at c
        exact one 0 (by unfold C1; rw [if_neg (by omega)])
  unfold Ho_begin
  refine Wp_ck (by rw [kb]) (Wp_lt (Wp_lt (Wp_lt (Wp_lt (Wp_lt (Wp_lt (Wp_lt (Wp_lt (Wp_lt (Wp_lt (Wp_lt (Wp_lt (Wp_lt (Wp_lt ?_))))))))))))))
  rw [il0, il1, il2, il3, show (24 : Int32) = iv 24 from iv_lit _, il5, il6]
  have f1 : FrI (fun c => c = b ∨ c = b + 1 ∨ c = b + 2) h (wI (wI (wI (wI (wI (wI (wI (wI (wI (wI (wI (wI (wI (wI h b 0 (iv 1)) b 1 (iv 0)) b 2 (iv 0)) b 3 (iv 0)) b 4 (iv 0)) b 5 (iv 0)) b 6 (iv 0)) b 7 (iv 24)) b 8 (iv 0)) b 9 (iv 0)) b 10 (iv 0)) b 11 (iv 0)) b 12 (iv 0)) b 13 (iv 0)) := by
    refine FrI.w (FrI.w (FrI.w (FrI.w (FrI.w (FrI.w (FrI.w (FrI.w (FrI.w (FrI.w (FrI.w (FrI.w (FrI.w (FrI.w FrI.rf ?_) ?_) ?_) ?_) ?_) ?_) ?_) ?_) ?_) ?_) ?_) ?_) ?_) ?_ <;> exact Or.inl rfl
  have o1 : ∀ f, f < 13 → hI (wI (wI (wI (wI (wI (wI (wI (wI (wI (wI (wI (wI (wI (wI h b 0 (iv 1)) b 1 (iv 0)) b 2 (iv 0)) b 3 (iv 0)) b 4 (iv 0)) b 5 (iv 0)) b 6 (iv 0)) b 7 (iv 24)) b 8 (iv 0)) b 9 (iv 0)) b 10 (iv 0)) b 11 (iv 0)) b 12 (iv 0)) b 13 (iv 0)) b f = iv (cf H1 f) := by
    intro g hg
    simp only [hI_wI]
    have cc : g = 0 ∨ g = 1 ∨ g = 2 ∨ g = 3 ∨ g = 4 ∨ g = 5 ∨ g = 6 ∨ g = 7 ∨ g = 8 ∨ g = 9 ∨ g = 10 ∨ g = 11 ∨ g = 12 := by omega
    rcases cc with rfl | rfl | rfl | rfl | rfl | rfl | rfl | rfl | rfl | rfl | rfl | rfl | rfl <;> simp [cf, H1]
  have o2 : hI (wI (wI (wI (wI (wI (wI (wI (wI (wI (wI (wI (wI (wI (wI h b 0 (iv 1)) b 1 (iv 0)) b 2 (iv 0)) b 3 (iv 0)) b 4 (iv 0)) b 5 (iv 0)) b 6 (iv 0)) b 7 (iv 24)) b 8 (iv 0)) b 9 (iv 0)) b 10 (iv 0)) b 11 (iv 0)) b 12 (iv 0)) b 13 (iv 0)) b 13 = iv 0 := by
    rw [hI_wI, if_pos ⟨rfl, rfl⟩]
  have hq1 : hI (wI (wI (wI (wI (wI (wI (wI (wI (wI (wI (wI (wI (wI (wI h b 0 (iv 1)) b 1 (iv 0)) b 2 (iv 0)) b 3 (iv 0)) b 4 (iv 0)) b 5 (iv 0)) b 6 (iv 0)) b 7 (iv 24)) b 8 (iv 0)) b 9 (iv 0)) b 10 (iv 0)) b 11 (iv 0)) b 12 (iv 0)) b 13 (iv 0)) (b + 1) 0 = hI h (b + 1) 0 := by
    simp only [hI_wI]
    simp
  generalize (wI (wI (wI (wI (wI (wI (wI (wI (wI (wI (wI (wI (wI (wI h b 0 (iv 1)) b 1 (iv 0)) b 2 (iv 0)) b 3 (iv 0)) b 4 (iv 0)) b 5 (iv 0)) b 6 (iv 0)) b 7 (iv 24)) b 8 (iv 0)) b 9 (iv 0)) b 10 (iv 0)) b 11 (iv 0)) b 12 (iv 0)) b 13 (iv 0)) = h1 at f1 o1 o2 hq1 ⊢
  have kk : ∀ {h2 : PH}, FrI (fun c => c = b ∨ c = b + 1 ∨ c = b + 2) h h2 → hK h2 b = (0, 0) ∧ hK h2 (b + 1) = (20, 4) ∧ hR h2 b 14 = some (b + 1) := fun f => ⟨by rw [f.2.1]; exact kb, by rw [f.2.1]; exact k1, by rw [f.2.2.1]; exact p1⟩
  rw [(kk f1).2.2]
  refine Wp_bde (put_in (z := 1) (kk f1).2.1 (by omega) (by omega) (by omega)) ?_
  have f2 := f1.w (a := b + 1) (i := (1 : Int).toNat) (v := iv 3) (Or.inr (Or.inl rfl))
  refine Wp_ck (by rw [(kk f2).1]) ?_
  rw [(kk f2).2.2]
  refine Wp_bde (put_in (z := 2) (kk f2).2.1 (by omega) (by omega) (by omega)) ?_
  have f3 := f2.w (a := b + 1) (i := (2 : Int).toNat) (v := iv 5) (Or.inr (Or.inl rfl))
  refine Wp_ck (by rw [(kk f3).1]) ?_
  rw [(kk f3).2.2]
  refine Wp_bde (put_in (z := 3) (kk f3).2.1 (by omega) (by omega) (by omega)) ?_
  have f4 := f3.w (a := b + 1) (i := (3 : Int).toNat) (v := iv 6) (Or.inr (Or.inl rfl))
  have q3 : ∀ j, hI (wI (wI (wI h1 (b + 1) (1 : Int).toNat (iv 3)) (b + 1) (2 : Int).toNat (iv 5)) (b + 1) (3 : Int).toNat (iv 6)) b j = hI h1 b j := by
    intro j
    rw [hI_wI, if_neg (by omega), hI_wI, if_neg (by omega), hI_wI, if_neg (by omega)]
  have q4 : ∀ n : Nat, 0 < n → n < 4 → hI (wI (wI (wI h1 (b + 1) (1 : Int).toNat (iv 3)) (b + 1) (2 : Int).toNat (iv 5)) (b + 1) (3 : Int).toNat (iv 6)) (b + 1) n = iv (wsm H1 n) := by
    intro n n0 n4
    have c : n = 1 ∨ n = 2 ∨ n = 3 := by omega
    rcases c with rfl | rfl | rfl
    · rw [hI_wI, if_neg (fun z => absurd z.2 (by decide)), hI_wI, if_neg (fun z => absurd z.2 (by decide)), hI_wI, if_pos ⟨rfl, rfl⟩]; rfl
    · rw [hI_wI, if_neg (fun z => absurd z.2 (by decide)), hI_wI, if_pos ⟨rfl, rfl⟩]; rfl
    · rw [hI_wI, if_pos ⟨rfl, rfl⟩]; rfl
  have q5 : hI (wI (wI (wI h1 (b + 1) (1 : Int).toNat (iv 3)) (b + 1) (2 : Int).toNat (iv 5)) (b + 1) (3 : Int).toNat (iv 6)) (b + 1) 0 = hI h (b + 1) 0 := by
    have e1 : hI h1 (b + 1) 0 = hI h (b + 1) 0 := hq1
    rw [hI_wI, if_neg (by omega), hI_wI, if_neg (by omega), hI_wI, if_neg (by omega), e1]
  generalize (wI (wI (wI h1 (b + 1) (1 : Int).toNat (iv 3)) (b + 1) (2 : Int).toNat (iv 5)) (b + 1) (3 : Int).toNat (iv 6)) = h4 at f4 q3 q4 q5 ⊢
  refine Wp_mono (lp h4 f4 96 0 h4 rfl FrI.rf (fun i hi => by omega) N (by omega)) ?_
  rintro - h5 ⟨f5, a5⟩
  refine ⟨f4.tr (f5.up (fun c e => Or.inr (Or.inr e))), fun f hf => ?_, ?_, ?_, fun n n0 n4 => ?_, a5⟩
  · rw [f5.I (by omega), q3]; exact o1 f hf
  · rw [f5.I (by omega), q3]; exact o2
  · rw [f5.I (by omega)]; exact q5
  · rw [f5.I (by omega)]; exact q4 n n0 n4
