/-! THE PURE PROOFS, 70: the reference reads a house: its lines of habits. -/
theorem tW_iff {T : Nat → Int} {L p q : Nat} (hp : tKd T L p = 2) (hq : tKd T L q = 2) : tW 27 T L p = tW 27 T L q ↔ tW 32 T L p = tW 32 T L q := by
  have k1 := tKd_2.mp hp
  have k2 := tKd_2.mp hq
  exact (en_iff (tLf_dgt k1.1 k1.2.1) (tLf_dgt k2.1 k2.2.1)).symm
theorem namedM {N : Nat} {T : Nat → Int} {L q n : Nat} {P : Nat → Nat} {h : PH} {Q : Bool → PH → Prop} (x : TxM T L h) (l : LexM T L q h) (hn : n ≤ 4) (eJ : ∀ i, i < n → hJ h 97 i = jv (tW 27 T L (P i))) (hP : ∀ i, i < n → tKd T L (P i) = 2) (hq : tKd T L q = 2)
    (bad : nmK T L P q n = true → Q false (wI h 92 9 (iv (3 + 16 * (tB T L q : Nat)))))
    (good : nmK T L P q n = false → ∀ fu, Wp (Mo_readsHabit_b38 N (fu + 1) 92 (iv n) (iv n) h) Q) : ∀ (m j : Nat), j + m = n → (∀ i, i < j → tW 32 T L (P i) ≠ tW 32 T L q) → ∀ fuel, m < fuel → Wp (Mo_readsHabit_b38 N fuel 92 (iv n) (iv j) h) Q
  | 0, j, hj, no, fuel, hf => by
    obtain ⟨fu, rfl⟩ : ∃ g, fuel = g + 1 := ⟨fuel - 1, by omega⟩
    obtain rfl : j = n := by omega
    refine good ?_ fu
    rw [Bool.eq_false_iff]
    intro z
    obtain ⟨i, h1, h2⟩ := (nmK_iff _).mp z
    exact no i h1 h2
  | m + 1, j, hj, no, fuel, hf => by
    obtain ⟨fu, rfl⟩ : ∃ g, fuel = g + 1 := ⟨fuel - 1, by omega⟩
    rw [Mo_readsHabit_b38]
    refine Wp_ifn (by rw [iv_le (by omega) (by omega) (by omega) (by omega)]; omega) (Wp_ck (by rw [k92 x.1]) (Wp_bn (p92_13 x.1) (Wp_ck (by rw [k97 x.1]) (Wp_ck (by rw [k97 x.1]; exact inb_iv (by omega) (by omega) (by omega)) ?_))))
    rw [ix_nat (by omega), eJ j (by omega), l.2.2.2.1 hq]
    have b1 := tW_b (b := 27) (by omega) (hP j (by omega))
    have b2 := tW_b (b := 27) (by omega) hq
    have ti := tW_iff (hP j (by omega)) hq
    refine Wp_if (fun c => ?_) (fun c => ?_)
    · rw [lg_cmp_eq, jv_eq (by omega) (by omega) (by omega) (by omega)] at c
      rw [il3]
      exact Wp_bde (failM x l) (Wp_ret (bad ((nmK_iff _).mpr ⟨j, by omega, ti.mp c⟩)))
    · rw [lg_cmp_eq, jv_eq (by omega) (by omega) (by omega) (by omega)] at c
      rw [il1, iv_add]
      exact namedM x l hn eJ hP hq bad good m (j + 1) (by omega) (fun i hi => by
        by_cases e : i = j
        · rw [e]; exact fun z => c (ti.mpr z)
        · exact no i (by omega)) fu (by omega)
def HbK (T : Nat → Int) (L p : Nat) (S : Sta) (h : PH) (v : Bool) (h2 : PH) : Prop := FrK h h2 ∧ match haR T L (sH S) (sPl S) p with
    | .inl f => v = false ∧ hI h2 92 9 = iv f ∧ 0 < f ∧ f < 1048576
    | .inr (p2, e) => v = true ∧ LexM T L p2 h2 ∧ p2 ≤ L ∧ p + 1 ≤ p2 ∧ StM T L (mkS (up (sH S) 15 (sH S 15 + 1)) (sC S) (sK S) (sD S) (upN (sPl S) (sH S 15).toNat (tE T L p)) (upN (sE S) (sH S 15).toNat e)) h2 ∧ (catI (sE S) (sH S 15).toNat ++ infx e).length ≤ p2
theorem readsHabitM {N : Nat} {T : Nat → Int} {L p : Nat} {S : Sta} {h : PH} (hN : 1100 ≤ N) (x : TxM T L h) (l : LexM T L p h) (hp : p ≤ L) (st : StM T L S h) (h15 : 0 ≤ sH S 15 ∧ sH S 15 ≤ 4) (hP : ∀ i, i < (sH S 15).toNat → tKd T L (sPl S i) = 2) (hs : (catI (sE S) (sH S 15).toNat).length ≤ p) (hk3 : tKd T L p ≠ 3) : Wp (Mo_readsHabit N 92 h) (HbK T L p S h) := by
  have tg := tE_gt (T := T) (L := L) (p := p) hk3 hp
  have te := tE_le (T := T) (L := L) (p := p) hp
  have hL := x.2.1
  have e33 : hI h 94 33 = iv (sH S 15) := st.1 15 (by omega)
  unfold Mo_readsHabit HbK haR
  refine Wp_ck (by rw [k92 x.1]) (Wp_bn (p92_10 x.1) (Wp_ck (by rw [k94 x.1]) (Wp_ck (by rw [k94 x.1]; decide) ?_)))
  rw [show ix 33 = 33 from rfl, e33, il4]
  refine Wp_if (fun c => ?_) (fun c => ?_)
  · rw [iv_eq (by omega) (by omega) (by omega) (by omega)] at c
    rw [if_pos c, show (5 : Int32) = iv 5 from iv_lit _]
    refine Wp_bde (failM x l) (Wp_ret ⟨FrK.rf.w (by omega), rfl, ?_, flt_b hp x.2.1 (by omega)⟩)
    rw [hI_wI, if_pos ⟨rfl, rfl⟩]
  rw [iv_eq (by omega) (by omega) (by omega) (by omega)] at c
  rw [if_neg c]
  refine Wp_bd2 (nextR hN x l hp) ?_
  rintro - h1 ⟨f1, l1⟩
  have x1 := f1.tx x
  have t1 := st.y f1.y
  refine Wp_ck (by rw [k92 x1.1]) (Wp_bde (isKeptM x1 l1) ?_)
  simp only [bI_0]
  by_cases nk : ¬ (tKd T L (tE T L p) = 2 ∧ (tWx T L (tE T L p) = -1 ∨ 23 ≤ tWx T L (tE T L p)))
  · rw [decide_eq_true nk, if_pos nk]
    refine Wp_ifn (by decide) (Wp_ck (by rw [k92 x1.1]) ?_)
    rw [il1]
    refine Wp_bde (failM x1 l1) (Wp_ret ⟨f1.y.k.tr (FrK.rf.w (by omega)), rfl, ?_, flt_b te x.2.1 (by omega)⟩)
    rw [hI_wI, if_pos ⟨rfl, rfl⟩]
  rw [decide_eq_false nk, if_neg nk]
  have k2 : tKd T L (tE T L p) = 2 := (Classical.not_not.mp nk).1
  have k3 : tKd T L (tE T L p) ≠ 3 := by omega
  have tg2 := tE_gt (T := T) (L := L) (p := tE T L p) k3 te
  have te2 := tE_le (T := T) (L := L) (p := tE T L p) te
  refine Wp_ifp rfl ?_
  have en : (sH S 15) = (((sH S 15).toNat : Nat) : Int) := by omega
  have go := namedM (N := N) (n := (sH S 15).toNat) (Q := fun v h2 => FrK h h2 ∧ match (if nmK T L (sPl S) (tE T L p) (sH S 15).toNat = true then (.inl (3 + 16 * (tB T L (tE T L p) : Nat)) : Int ⊕ (Nat × Ex)) else habR T L (tE T L (tE T L p))) with
    | .inl f => v = false ∧ hI h2 92 9 = iv f ∧ 0 < f ∧ f < 1048576
    | .inr (p2, e) => v = true ∧ LexM T L p2 h2 ∧ p2 ≤ L ∧ p + 1 ≤ p2 ∧ StM T L (mkS (up (sH S) 15 (sH S 15 + 1)) (sC S) (sK S) (sD S) (upN (sPl S) (sH S 15).toNat (tE T L p)) (upN (sE S) (sH S 15).toNat e)) h2 ∧ (catI (sE S) (sH S 15).toNat ++ infx e).length ≤ p2) x1 l1 (by omega) t1.2.2.2.2.1 hP k2 (fun z => ?_) (fun z fu => ?_) (sH S 15).toNat 0 (by omega) (fun i hi => by omega) N (by omega)
  · rw [← en] at go
    exact go
  · rw [if_pos z]
    refine ⟨f1.y.k.tr (FrK.rf.w (by omega)), rfl, ?_, flt_b te x.2.1 (by omega)⟩
    rw [hI_wI, if_pos ⟨rfl, rfl⟩]
  · rw [if_neg (by rw [z]; decide)]
    generalize en2 : (sH S 15).toNat = n at *
    have n4 : n < 4 := by omega
    rw [Mo_readsHabit_b38]
    refine Wp_ifp (Int32.le_refl _) (Wp_ck (by rw [k92 x1.1]) (Wp_bn (p92_13 x1.1) (Wp_ck (by rw [k97 x1.1]) (Wp_ck (by rw [k97 x1.1]; exact inb_iv (by omega) (by omega) (by omega)) (Wp_lt ?_)))))
    rw [ix_nat (by omega), l1.2.2.2.1 k2]
    have f2 : FrK h1 (wJ h1 97 n (jv (tW 27 T L (tE T L p)))) := FrK.rf.j
    have eI : hI (wJ h1 97 n (jv (tW 27 T L (tE T L p)))) = hI h1 := by funext a; rw [hI_wJ]
    have eZ : hZ (wJ h1 97 n (jv (tW 27 T L (tE T L p)))) = hZ h1 := rfl
    have eJ : ∀ i, i < n + 1 → hJ (wJ h1 97 n (jv (tW 27 T L (tE T L p)))) 97 i = jv (tW 27 T L (upN (sPl S) n (tE T L p) i)) := by
      intro i hi
      rw [hJ_wJ]
      unfold upN
      by_cases c : i = n
      · rw [if_pos ⟨rfl, c⟩, if_pos c]
      · rw [if_neg (fun z => c z.2), if_neg c]
        exact t1.2.2.2.2.1 i (by omega)
    have l2 : LexM T L (tE T L p) (wJ h1 97 n (jv (tW 27 T L (tE T L p)))) := l1.cg (by rw [eI]) (by funext j; rw [hJ_wJ, if_neg (by omega)])
    have x2 := f2.tx x1
    obtain ⟨a1, b1, c1, d1, g1, i1, j1⟩ := t1
    rw [en2] at i1 j1
    have i2 : CdM (catI (sE S) n) (wJ h1 97 n (jv (tW 27 T L (tE T L p)))) := ⟨by rw [eI]; exact i1.1, fun k hk => by rw [eI]; exact i1.2 k hk⟩
    generalize wJ h1 97 n (jv (tW 27 T L (tE T L p))) = h2 at f2 eI eZ eJ l2 x2 i2 ⊢
    refine Wp_bd2 (nextR hN x2 l2 te) ?_
    rintro - h3 ⟨f3, l3⟩
    have x3 := f3.tx x2
    have i3 := i2.y f3.y
    refine Wp_ck (by rw [k92 x3.1]) (Wp_bn (p92_14 x3.1) (Wp_ck (by rw [k98 x3.1]) ?_))
    rw [il4, iv_add, show (4 : Int) + (n : Int) = ((4 + n : Nat) : Int) from by omega]
    refine Wp_ck (by rw [k98 x3.1]; exact inb_iv (by omega) (by omega) (by omega)) (Wp_lt ?_)
    rw [ix_nat (by omega), i3.1]
    have f4 : FrK h3 (wI h3 98 (4 + n) (iv ((1000 + (catI (sE S) n).length : Nat) : Int))) := FrK.rf.w (by omega)
    have g4 : FrI (fun b => b = 98) h3 (wI h3 98 (4 + n) (iv ((1000 + (catI (sE S) n).length : Nat) : Int))) := FrI.rf.w rfl
    have o4 : ∀ j, hI (wI h3 98 (4 + n) (iv ((1000 + (catI (sE S) n).length : Nat) : Int))) 98 j = if j = 4 + n then iv ((1000 + (catI (sE S) n).length : Nat) : Int) else hI h3 98 j := by
      intro j
      rw [hI_wI]
      by_cases z : j = 4 + n
      · rw [if_pos ⟨rfl, z⟩, if_pos z]
      · rw [if_neg (fun y => z y.2), if_neg z]
    have l4 : LexM T L (tE T L (tE T L p)) (wI h3 98 (4 + n) (iv ((1000 + (catI (sE S) n).length : Nat) : Int))) := l3.w (by omega)
    have i4 := i3.w (a := 98) (i := 4 + n) (v := iv ((1000 + (catI (sE S) n).length : Nat) : Int)) (by omega)
    have x4 := f4.tx x3
    generalize wI h3 98 (4 + n) (iv ((1000 + (catI (sE S) n).length : Nat) : Int)) = h4 at f4 g4 o4 l4 i4 x4 ⊢
    refine Wp_bd2 (readsTop (c := tE T L (tE T L p) - (catI (sE S) n).length) hN x4 l4 te2 i4 (by omega)) ?_
    rintro v h5 ⟨f5, r5⟩
    have x5 := f5.tx x4
    have f05 : FrK h h5 := (((f1.y.k.tr f2).tr f3.y.k).tr f4).tr f5.k
    cases eh : habR T L (tE T L (tE T L p)) with
    | inl f =>
      rw [eh] at r5
      obtain ⟨rfl, r6, r7⟩ := r5
      exact Wp_ifp rfl (Wp_ret ⟨f05, rfl, r6, r7⟩)
    | inr t =>
      obtain ⟨p2, e⟩ := t
      rw [eh] at r5
      obtain ⟨rfl, l5, hp2, i5, hs5⟩ := r5
      rw [List.length_append] at hs5
      refine Wp_ifn (by decide) (Wp_ck (by rw [k92 x5.1]) (Wp_bn (p92_15 x5.1) (Wp_ck (by rw [k99 x5.1]) (Wp_ck (by rw [k99 x5.1]; exact inb_iv (by omega) (by omega) (by omega)) (Wp_lt ?_)))))
      rw [i5.1]
      have q94 : hK (wI h5 99 (4 + n) (iv ((1000 + (catI (sE S) n ++ infx e).length : Nat) : Int))) 94 = (20, 36) := by rw [hK_wI]; exact k94 x5.1
      have qp : hR (wI h5 99 (4 + n) (iv ((1000 + (catI (sE S) n ++ infx e).length : Nat) : Int))) 92 10 = some 94 := by rw [hR_wI]; exact p92_10 x5.1
      refine Wp_bn qp (Wp_ck (by rw [q94]) (Wp_ck (by rw [q94]; decide) (Wp_ck (by rw [q94]; decide) (Wp_lt (Wp_ret ?_)))))
      have k94' : ∀ j, j < 18 → hI h5 94 (18 + j) = iv (sH S j) := fun j hj => by
        rw [f5.1.I (by omega), g4.I (by omega), f3.y.1.I (by omega), eI]; exact a1 j hj
      rw [show ix 33 = 18 + 15 from rfl, hI_wI, if_neg (by omega), k94' 15 (by omega), il1, iv_add]
      have u15 : (up (sH S) 15 (sH S 15 + 1) 15).toNat = n + 1 := by rw [up_s]; omega
      have ec : catI (upN (sE S) n e) (n + 1) = catI (sE S) n ++ infx e := by
        rw [catI, catI_up _ (Nat.le_refl _)]
        unfold upN
        rw [if_pos rfl]
      have f6 : FrK h5 (wI (wI h5 99 (4 + n) (iv ((1000 + (catI (sE S) n ++ infx e).length : Nat) : Int))) 94 (18 + 15) (iv (sH S 15 + 1))) := (FrK.rf.w (by omega)).w (by omega)
      refine ⟨f05.tr f6, rfl, (l5.w (by omega)).w (by omega), hp2, by omega, ⟨fun k hk => ?_, fun k hk => ?_, fun q hq => ?_, ?_, fun i hi => ?_, ?_, fun i hi => ?_⟩, by rw [List.length_append]; omega⟩
      · show _ = iv (up (sH S) 15 (sH S 15 + 1) k)
        rw [hI_wI]
        by_cases z : k = 15
        · rw [if_pos ⟨rfl, by omega⟩, z, up_s]
        · rw [if_neg (by omega), up_n _ _ _ _ z, hI_wI, if_neg (by omega)]; exact k94' k hk
      · rw [hI_wI, if_neg (by omega), hI_wI, if_neg (by omega), f5.1.I (by omega), g4.I (by omega), f3.y.1.I (by omega), eI]; exact b1 k hk
      · rw [hZ_wI, hZ_wI, f5.1.Z (by omega), g4.s.Z (by omega), f3.y.1.Z (by omega), eZ]; exact c1 q hq
      · rw [hI_wI, if_neg (by omega), hI_wI, if_neg (by omega), f5.2.2.1 18 (by omega) (by omega) (by omega) (by omega) (by omega) (by omega) (by omega), g4.I (by omega), f3.2.2.1 18 (by omega) (by omega) (by omega) (by omega), eI]; exact d1
      · have hi2 : i < (up (sH S) 15 (sH S 15 + 1) 15).toNat := hi
        rw [u15] at hi2
        rw [hJ_wI, hJ_wI, f5.1.J (by omega), g4.s.J (by omega), f3.1.J (by omega)]; exact eJ i hi2
      · show CdM (catI (upN (sE S) n e) (up (sH S) 15 (sH S 15 + 1) 15).toNat) _
        rw [u15, ec]
        exact (i5.w (by omega)).w (by omega)
      · have hi2 : i < (up (sH S) 15 (sH S 15 + 1) 15).toNat := hi
        rw [u15] at hi2
        show _ = iv ((1000 + (catI (upN (sE S) n e) i).length : Nat) : Int) ∧ _ = iv ((1000 + (catI (upN (sE S) n e) (i + 1)).length : Nat) : Int)
        refine ⟨?_, ?_⟩
        · rw [hI_wI, if_neg (by omega), hI_wI, if_neg (by omega), f5.1.I (by omega), o4, catI_up i (by omega)]
          by_cases z : i = n
          · rw [if_pos (by omega), z]
          · rw [if_neg (by omega), f3.1.I (by omega), eI]; exact (j1 i (by omega)).1
        · rw [hI_wI, if_neg (by omega), hI_wI]
          by_cases z : i = n
          · rw [if_pos ⟨rfl, by omega⟩, z, ec]
          · rw [if_neg (by omega), catI_up (i + 1) (by omega), f5.1.I (by omega), g4.I (by omega), f3.1.I (by omega), eI]; exact (j1 i (by omega)).2
