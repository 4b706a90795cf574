/-! THE PURE PROOFS, 45: the house's habits, the reference's way. -/
def HaM (N m : Nat) (es : Nat → Ex) (h : PH) : Prop := ∀ i, i < m → ∃ fr en : Nat, hI h 98 i = iv fr ∧ hI h 99 i = iv en ∧ en = fr + (infx (es i)).length ∧ en ≤ 2000 ∧ (∀ k, k < (infx (es i)).length → hI h 100 (fr + k) = iv ((infx (es i)).getD k 0)) ∧ EvJ N 4 7 (es i) ∧ SmV (es i)
theorem habMof {N m : Nat} {H : Nat → Int} {es : Nat → Ex} {h : PH} (hN : 3000 ≤ N) (hm : H 15 = m) (m4 : m ≤ 4) (h0 : hI h 94 0 = iv (H 0)) (x : HaM N m es h) : HabM N H (EvE es H) h := by
  intro h1 s e94 e98 e99 e100 hb q t a here b0 b1 q0 q1 t0 t1 a0 a1 r0 r1
  obtain ⟨i, rfl⟩ : ∃ i : Nat, hb = (i : Int) := ⟨hb.toNat, by omega⟩
  have him : i < m := by omega
  obtain ⟨fr, en, c1, c2, c3, c4, c5, c6, c7⟩ := x i him
  have wk : ∀ h2 : PH, FrI (fun b => b = 112) h1 h2 → hI h2 112 1 = iv t → hI h2 112 2 = iv a → hI h2 112 3 = iv q → hI h2 112 4 = iv (H 0 - q) → hI h2 112 5 = iv here → Wp (Mo_worked N 92 (iv i) h2) (fun v h3 => v = vlu (es i) (env (iv q) (iv t) (iv a) (iv (H 0 - q)) (iv here)) ∧ FrI (fun b => 103 ≤ b ∧ b ≤ 112) h1 h3) := by
    intro h2 f2 z1 z2 z3 z4 z5
    have s2 := f2.shp s
    unfold Mo_worked
    refine Wp_ck (by rw [k92 s2]) (Wp_bd2 (show Wp (Mo_opens N 92 (iv ((0 : Nat) : Int)) h2) _ from opensM (d := 0) (Q := fun _ h3 => FrMd 0 h2 h3 ∧ begun 4 0 h3) s2 (by omega) (fun h3 f3 w4 w6 w7 w8 w10 _ => ⟨f3, w10, fun _ => ⟨w7, w8⟩, fun _ => w6, fun _ => w4⟩)) ?_)
    rintro - h3 ⟨f3, bg⟩
    have s3 := f3.1.shp s2
    have m3 : MaM i en h3 := ⟨s3, by omega, c4, by rw [f3.1.I (by omega), f2.I (by omega), e99]; exact c2⟩
    refine Wp_ck (by rw [k92 s3]) (Wp_bn (p92_14 s3) (Wp_ck (by rw [k98 s3]) (Wp_ck (by rw [k98 s3]; exact inb_iv (by omega) (by omega) (by omega)) ?_)))
    rw [ix_nat (by omega), show hI h3 98 i = iv fr from by rw [f3.1.I (by omega), f2.I (by omega), e98]; exact c1]
    have r := c6.2.2 i en 0 fr (N - (infx (es i)).length) h3 (fun v h4 => v = vlu (es i) (env (iv q) (iv t) (iv a) (iv (H 0 - q)) (iv here)) ∧ FrI (fun b => 103 ≤ b ∧ b ≤ 112) h1 h4) m3 (by omega) (fun k hk => by rw [f3.1.I (by omega), f2.I (by omega), e100]; exact c5 k hk) (by omega) (Or.inl rfl) bg ?_
    · rw [show N - (infx (es i)).length + (infx (es i)).length = N from by omega] at r
      exact r
    · intro h4 f4 _ _ g4
      have m4 := f4.ma m3
      have s4 := m4.1
      obtain ⟨fu, efu⟩ : ∃ g, N - (infx (es i)).length = g + 1 := ⟨N - (infx (es i)).length - 1, by omega⟩
      rw [efu, Mo_worked_b14]
      refine Wp_ck (by rw [k92 s4]) (Wp_bn (p92_15 s4) (Wp_ck (by rw [k99 s4]) (Wp_ck (by rw [k99 s4]; exact inb_iv (by omega) (by omega) (by omega)) ?_)))
      rw [ix_nat (by omega), m4.2.2.2, ← c3]
      refine Wp_ifp (Int32.le_refl _) (Wp_bd2 (show Wp (Mo_tests N 92 (iv ((0 : Nat) : Int)) h4) _ from testsM (d := 0) (Q := fun _ h5 => FrMd 0 h4 h5 ∧ hI h5 103 0 = OrS 0 h4) s4 (by omega) (fun h5 f5 v5 _ _ _ _ _ _ => ⟨f5, v5⟩)) ?_)
      rintro - h5 ⟨f5, v5⟩
      have s5 := f5.1.shp s4
      refine Wp_ck (by rw [k92 s5]) (Wp_bn (p92_21 s5) (Wp_ck (by rw [k103 s5]) (Wp_ck (by rw [k103 s5]; decide) (Wp_ret ⟨?_, ?_⟩))))
      · show hI h5 103 0 = _
        rw [v5, g4.2.2.2 rfl]
        refine c7 _ _ (fun k k1 k5 => ?_)
        rw [f3.fa]
        have kc : k = 1 ∨ k = 2 ∨ k = 3 ∨ k = 4 ∨ k = 5 := by omega
        rcases kc with rfl | rfl | rfl | rfl | rfl
        · exact z1
        · exact z2
        · exact z3
        · exact z4
        · exact z5
      · exact (f2.up (fun b e => by omega)).tr (((f3.1.tr f4.1).tr f5.1).up (fun b e => by omega))
  unfold Mo_habitGive
  rw [show ix 1 = 1 from rfl, show ix 2 = 2 from rfl, show ix 3 = 3 from rfl, show ix 4 = 4 from rfl, show ix 5 = 5 from rfl, show ix 0 = 0 from rfl]
  refine Wp_ck (by rw [k92 s]) (Wp_bn (p92_30 s) (Wp_ck (by rw [k112 s]) (Wp_ck (by rw [k112 s]; decide) (Wp_lt ?_))))
  have f1 : FrI (fun b => b = 112) h1 (wI h1 112 1 (iv t)) := FrI.rf.w1
  have s1 := f1.shp s
  refine Wp_bn (p92_30 s1) (Wp_ck (by rw [k112 s1]) (Wp_ck (by rw [k112 s1]; decide) (Wp_lt ?_)))
  have f2 := f1.w1 (i := 2) (v := iv a)
  have s2 := f2.shp s
  refine Wp_bn (p92_30 s2) (Wp_ck (by rw [k112 s2]) (Wp_ck (by rw [k112 s2]; decide) (Wp_lt ?_)))
  have f3 := f2.w1 (i := 3) (v := iv q)
  have s3 := f3.shp s
  refine Wp_bn (p92_10 s3) (Wp_ck (by rw [k94 s3]) (Wp_ck (by rw [k94 s3]; decide) (Wp_bn (p92_30 s3) (Wp_ck (by rw [k112 s3]) (Wp_ck (by rw [k112 s3]; decide) (Wp_lt ?_))))))
  have e0 : hI (wI (wI (wI h1 112 1 (iv t)) 112 2 (iv a)) 112 3 (iv q)) 94 0 = iv (H 0) := by
    rw [f3.I (by omega), e94]
    exact h0
  have f4 := f3.w1 (i := 4) (v := iv (H 0 - q))
  have s4 := f4.shp s
  rw [e0, iv_sub]
  refine Wp_bn (p92_30 s4) (Wp_ck (by rw [k112 s4]) (Wp_ck (by rw [k112 s4]; decide) (Wp_lt ?_)))
  have f5 := f4.w1 (i := 5) (v := iv here)
  refine Wp_bd2 (wk _ f5 ?_ ?_ ?_ ?_ ?_) ?_
  · simp [hI_wI]
  · simp [hI_wI]
  · simp [hI_wI]
  · simp [hI_wI]
  · simp [hI_wI]
  · rintro v h6 ⟨rfl, f6⟩
    refine Wp_bde (clp_M _) (Wp_ret ⟨rfl, ⟨f6.up (fun b e => by unfold SV; omega), fun j _ _ _ _ => f6.I (by omega) j⟩, fun j => f6.I (by omega) j⟩)
