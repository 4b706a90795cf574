/-! THE PURE PROOFS, 58: what is read is a house. -/
theorem up_c (H : Nat → Int) (k : Nat) (v : Int) (j : Nat) : (up H k v j = v ∧ j = k) ∨ (up H k v j = H j ∧ j ≠ k) := by
  unfold up
  by_cases c : j = k
  · rw [if_pos c]; exact Or.inl ⟨rfl, c⟩
  · rw [if_neg c]; exact Or.inr ⟨rfl, c⟩
theorem HOK.w {H C : Nat → Int} (ho : HOK H C) {k : Nat} {v : Int} (hk : (k = 0 ∧ 1 ≤ v ∧ v ≤ 24) ∨ (k = 1 ∧ 0 ≤ v ∧ v ≤ 120) ∨ (k = 2 ∧ 0 ≤ v ∧ v ≤ 12) ∨ ((k = 3 ∨ k = 4 ∨ k = 5 ∨ k = 6 ∨ k = 7 ∨ k = 8 ∨ k = 9 ∨ k = 12) ∧ 0 ≤ v ∧ v ≤ 99) ∨ (k = 10 ∧ 0 ≤ v ∧ v ≤ 23) ∨ (k = 11 ∧ 0 ≤ v ∧ v ≤ 3) ∨ ((k = 13 ∨ k = 14) ∧ 0 ≤ v ∧ v ≤ 10) ∨ (k = 15 ∧ 0 ≤ v ∧ v ≤ 4) ∨ (k = 16 ∧ v = 1) ∨ k = 17) : HOK (up H k v) C := by
  obtain ⟨a0, a1, a2, a3, a4, a5, a6, a7, a8, a9, a10, a11, a12, a13, a14, a15, a16, a17, a18⟩ := ho
  refine ⟨?_, ?_, ?_, ?_, ?_, ?_, ?_, ?_, ?_, ?_, ?_, ?_, ?_, ?_, ?_, ?_, ?_, a17, a18⟩
  · have := up_c H k v 0; omega
  · have := up_c H k v 1; omega
  · have := up_c H k v 2; omega
  · have := up_c H k v 3; omega
  · have := up_c H k v 4; omega
  · have := up_c H k v 5; omega
  · have := up_c H k v 6; omega
  · have := up_c H k v 7; omega
  · have := up_c H k v 8; omega
  · have := up_c H k v 9; omega
  · have := up_c H k v 10; omega
  · have := up_c H k v 11; omega
  · have := up_c H k v 12; omega
  · have := up_c H k v 13; omega
  · have := up_c H k v 14; omega
  · have := up_c H k v 15; omega
  · have := up_c H k v 16; omega
theorem HOK.c {H C D : Nat → Int} (ho : HOK H C) (c1 : ∀ k, k < 96 → 0 ≤ D k ∧ D k ≤ 10) (c2 : ∀ q, q < 24 → D (4 * q) + D (4 * q + 1) + D (4 * q + 2) + D (4 * q + 3) = 10) : HOK H D := by
  obtain ⟨a0, a1, a2, a3, a4, a5, a6, a7, a8, a9, a10, a11, a12, a13, a14, a15, a16, a17, a18⟩ := ho
  exact ⟨a0, a1, a2, a3, a4, a5, a6, a7, a8, a9, a10, a11, a12, a13, a14, a15, a16, c1, c2⟩
theorem H1_ok : HOK H1 C1 := by
  refine ⟨?_, ?_, ?_, ?_, ?_, ?_, ?_, ?_, ?_, ?_, ?_, ?_, ?_, ?_, ?_, ?_, ?_, ?_, ?_⟩
  · exact ⟨by decide, by decide⟩
  · exact ⟨by decide, by decide⟩
  · exact ⟨by decide, by decide⟩
  · exact ⟨by decide, by decide⟩
  · exact ⟨by decide, by decide⟩
  · exact ⟨by decide, by decide⟩
  · exact ⟨by decide, by decide⟩
  · exact ⟨by decide, by decide⟩
  · exact ⟨by decide, by decide⟩
  · exact ⟨by decide, by decide⟩
  · exact ⟨by decide, by decide⟩
  · exact ⟨by decide, by decide⟩
  · exact ⟨by decide, by decide⟩
  · exact ⟨by decide, by decide⟩
  · exact ⟨by decide, by decide⟩
  · exact ⟨by decide, by decide⟩
  · exact Or.inl (by decide)
  · intro k _
    unfold C1
    split <;> omega
  · intro q _
    unfold C1
    rw [if_pos (show 4 * q % 4 = 0 by omega), if_neg (show ¬ (4 * q + 1) % 4 = 0 by omega), if_neg (show ¬ (4 * q + 2) % 4 = 0 by omega), if_neg (show ¬ (4 * q + 3) % 4 = 0 by omega)]
    omega
/-- read so far, it is a house -/
def SOK (T : Nat → Int) (L : Nat) (S : Sta) : Prop := HOK (sH S) (sC S) ∧ (0 ≤ sH S 17 ∧ sH S 17 ≤ 8) ∧ (∀ i, i < (sH S 15).toNat → tKd T L (sPl S i) = 2) ∧ (∀ i, i < (sH S 15).toNat → ∃ a b, orR T L (ptR T L 7) 0 a = .inr (b, sE S i))
theorem S1_ok {T : Nat → Int} {L : Nat} {n : Int} (hn : 1 ≤ n ∧ n ≤ 24) : SOK T L (S1 n) := by
  have e : (sH (S1 n) 15).toNat = 0 := rfl
  refine ⟨H1_ok.w (Or.inl ⟨rfl, hn⟩), ⟨by show (0 : Int) ≤ 0; omega, by show (0 : Int) ≤ 8; omega⟩, fun i hi => ?_, fun i hi => ?_⟩
  · rw [e] at hi; omega
  · rw [e] at hi; omega
theorem setC_c (C : Nat → Int) (a b : Int) (k : Nat) (v : Int) (q i : Nat) (hi : i < 4) : (setC C a b k v (4 * q + i) = v ∧ a ≤ q ∧ (q : Int) ≤ b ∧ i = k) ∨ (setC C a b k v (4 * q + i) = C (4 * q + i) ∧ ¬ (a ≤ q ∧ (q : Int) ≤ b ∧ i = k)) := by
  unfold setC
  rw [show (4 * q + i) / 4 = q from by omega, show (4 * q + i) % 4 = i from by omega]
  by_cases c : a ≤ (q : Int) ∧ (q : Int) ≤ b ∧ i = k
  · rw [if_pos c]; exact Or.inl ⟨rfl, c⟩
  · rw [if_neg c]; exact Or.inr ⟨rfl, c⟩
theorem ccR_in {T : Nat → Int} {L p : Nat} {r : Int ⊕ Nat} (h : ccR T L r = .inr p) : (0 ≤ cc0 T L r ∧ cc0 T L r ≤ 10) ∧ (0 ≤ cc1 T L r ∧ cc1 T L r ≤ 10) ∧ (0 ≤ cc2 T L r ∧ cc2 T L r ≤ 10) ∧ cc3 T L r = 10 - ccs T L r ∧ ∃ p2, r = .inr p2 := by
  obtain ⟨p1, e1⟩ := sgnR_in h
  have b3 := numZ_in e1
  obtain ⟨p2, e2⟩ := numP_in e1
  have b2 := numZ_in e2
  obtain ⟨p3, e3⟩ := numP_in e2
  have b1 := numZ_in e3
  obtain ⟨p4, e4⟩ := numP_in e3
  have b0 := numZ_in e4
  refine ⟨b0, b1, b2, ?_, numP_in e4⟩
  unfold cc3
  omega
theorem cc3_b {T : Nat → Int} {L p : Nat} {r : Int ⊕ Nat} (h : ccR T L r = .inr p) : 0 ≤ cc3 T L r ∧ cc3 T L r ≤ 10 := by
  obtain ⟨b0, b1, b2, b3, -⟩ := ccR_in h
  obtain ⟨p1, e1⟩ := sgnR_in h
  obtain ⟨p2, e2⟩ := numP_in e1
  rw [e2] at e1
  have : cc3 T L r = tNm T L p2 ∧ tKd T L p2 = 1 := by
    unfold numP at e1
    dsimp only at e1
    split at e1
    · split at e1
      · next c d =>
        unfold cc3
        rw [e2]
        unfold numZ
        dsimp only
        rw [if_pos ⟨c, d.1, d.2⟩]
        exact ⟨rfl, c⟩
      · cases e1
    · cases e1
  have t := tNm_b this.2
  have : ccs T L r = cc0 T L r + cc1 T L r + cc2 T L r := rfl
  omega
theorem hlS_ok {T : Nat → Int} {L p p2 : Nat} {S : Sta} (ok : SOK T L S) (h : hlR T L S p = .inr p2) : SOK T L (hlS T L S p) := by
  obtain ⟨ho, h17, hP, hE⟩ := ok
  have ho0 := ho
  obtain ⟨a0, a1, a2, a3, a4, a5, a6, a7, a8, a9, a10, a11, a12, a13, a14, a15, a16, a17, a18⟩ := ho0
  unfold hlR at h
  unfold hlS
  by_cases w11 : tWx T L p = 11
  · rw [if_pos w11] at h ⊢
    split at h
    · cases h
    next n8 =>
    obtain ⟨b0, b1, b2, b3, -⟩ := ccR_in h
    have b4 := cc3_b h
    have es : ccs T L (caQ T L (sK S) (sH S 0) (.inr (tE T L p))) = cc0 T L (caQ T L (sK S) (sH S 0) (.inr (tE T L p))) + cc1 T L (caQ T L (sK S) (sH S 0) (.inr (tE T L p))) + cc2 T L (caQ T L (sK S) (sH S 0) (.inr (tE T L p))) := rfl
    have e15 : up (sH S) 17 (sH S 17 + 1) 15 = sH S 15 := up_n _ _ _ _ (by omega)
    refine ⟨(ho.w (by omega)).c ?_ ?_, ?_, fun i hi => ?_, fun i hi => ?_⟩
    · intro k hk
      show 0 ≤ caC T L (sC S) (sK S) (sH S 0) (.inr (tE T L p)) k ∧ caC T L (sC S) (sK S) (sH S 0) (.inr (tE T L p)) k ≤ 10
      obtain ⟨q, i, hi, rfl⟩ : ∃ q i, i < 4 ∧ k = 4 * q + i := ⟨k / 4, k % 4, by omega, by omega⟩
      have z := a17 (4 * q + i) hk
      unfold caC
      generalize caQ T L (sK S) (sH S 0) (.inr (tE T L p)) = r at b0 b1 b2 b3 b4 es ⊢
      generalize caA T L (sH S 0) (.inr (tE T L p)) = a
      generalize caB T L (sK S) (sH S 0) (.inr (tE T L p)) = b
      have z3 := setC_c (setC (setC (setC (sC S) a b 0 (cc0 T L r)) a b 1 (cc1 T L r)) a b 2 (cc2 T L r)) a b 3 (cc3 T L r) q i hi
      have z2 := setC_c (setC (setC (sC S) a b 0 (cc0 T L r)) a b 1 (cc1 T L r)) a b 2 (cc2 T L r) q i hi
      have z1 := setC_c (setC (sC S) a b 0 (cc0 T L r)) a b 1 (cc1 T L r) q i hi
      have z0 := setC_c (sC S) a b 0 (cc0 T L r) q i hi
      omega
    · intro q hq
      show caC T L (sC S) (sK S) (sH S 0) (.inr (tE T L p)) (4 * q) + caC T L (sC S) (sK S) (sH S 0) (.inr (tE T L p)) (4 * q + 1) + caC T L (sC S) (sK S) (sH S 0) (.inr (tE T L p)) (4 * q + 2) + caC T L (sC S) (sK S) (sH S 0) (.inr (tE T L p)) (4 * q + 3) = 10
      have z := a18 q hq
      unfold caC
      generalize caQ T L (sK S) (sH S 0) (.inr (tE T L p)) = r at b0 b1 b2 b3 b4 es ⊢
      generalize caA T L (sH S 0) (.inr (tE T L p)) = a
      generalize caB T L (sK S) (sH S 0) (.inr (tE T L p)) = b
      have y : ∀ i, i < 4 → (if a ≤ (q : Int) ∧ (q : Int) ≤ b then setC (setC (setC (setC (sC S) a b 0 (cc0 T L r)) a b 1 (cc1 T L r)) a b 2 (cc2 T L r)) a b 3 (cc3 T L r) (4 * q + i) = ccv T L r i else setC (setC (setC (setC (sC S) a b 0 (cc0 T L r)) a b 1 (cc1 T L r)) a b 2 (cc2 T L r)) a b 3 (cc3 T L r) (4 * q + i) = sC S (4 * q + i)) := by
        intro i hi
        have z3 := setC_c (setC (setC (setC (sC S) a b 0 (cc0 T L r)) a b 1 (cc1 T L r)) a b 2 (cc2 T L r)) a b 3 (cc3 T L r) q i hi
        have z2 := setC_c (setC (setC (sC S) a b 0 (cc0 T L r)) a b 1 (cc1 T L r)) a b 2 (cc2 T L r) q i hi
        have z1 := setC_c (setC (sC S) a b 0 (cc0 T L r)) a b 1 (cc1 T L r) q i hi
        have z0 := setC_c (sC S) a b 0 (cc0 T L r) q i hi
        unfold ccv
        split
        · split
          · omega
          · split
            · omega
            · split <;> omega
        · omega
      have y0 := y 0 (by omega)
      have y1 := y 1 (by omega)
      have y2 := y 2 (by omega)
      have y3 := y 3 (by omega)
      have e0 : ccv T L r 0 = cc0 T L r := rfl
      have e1 : ccv T L r 1 = cc1 T L r := rfl
      have e2 : ccv T L r 2 = cc2 T L r := rfl
      have e3 : ccv T L r 3 = cc3 T L r := rfl
      rw [Nat.add_zero] at y0
      by_cases c : a ≤ (q : Int) ∧ (q : Int) ≤ b
      · rw [if_pos c] at y0 y1 y2 y3
        omega
      · rw [if_neg c] at y0 y1 y2 y3
        omega
    · show 0 ≤ up (sH S) 17 (sH S 17 + 1) 17 ∧ up (sH S) 17 (sH S 17 + 1) 17 ≤ 8
      rw [up_s]
      omega
    · have hi2 : i < (up (sH S) 17 (sH S 17 + 1) 15).toNat := hi
      rw [e15] at hi2
      exact hP i hi2
    · have hi2 : i < (up (sH S) 17 (sH S 17 + 1) 15).toNat := hi
      rw [e15] at hi2
      exact hE i hi2
  rw [if_neg w11] at h ⊢
  by_cases w12 : tWx T L p = 12
  · rw [if_pos w12] at h ⊢
    unfold haR at h ⊢
    split at h
    · cases h
    next n4 =>
    split at h
    · cases h
    next nk =>
    split at h
    · cases h
    next nn =>
    rw [if_neg n4, if_neg nk, if_neg nn]
    cases eh : habR T L (tE T L (tE T L p)) with
    | inl f => rw [eh] at h; cases h
    | inr t =>
      obtain ⟨p3, e⟩ := t
      have ee : ∃ a b, orR T L (ptR T L 7) 0 a = .inr (b, e) := by
        unfold habR at eh
        cases eo : orR T L (ptR T L 7) 0 (tE T L (tE T L p)) with
        | inl f => rw [eo] at eh; cases eh
        | inr u =>
          obtain ⟨b, e2⟩ := u
          rw [eo] at eh
          have eh2 : (if tKd T L b = 59 then (Sum.inr (tE T L b, e2) : Int ⊕ (Nat × Ex)) else .inl (1 + 16 * (tB T L b : Nat))) = .inr (p3, e) := eh
          split at eh2
          · cases eh2
            exact ⟨_, _, eo⟩
          · cases eh2
      have u15 : up (sH S) 15 (sH S 15 + 1) 15 = sH S 15 + 1 := up_s _ _ _
      have u17 : up (sH S) 15 (sH S 15 + 1) 17 = sH S 17 := up_n _ _ _ _ (by omega)
      refine ⟨ho.w (by omega), ?_, fun i hi => ?_, fun i hi => ?_⟩
      · show 0 ≤ up (sH S) 15 (sH S 15 + 1) 17 ∧ up (sH S) 15 (sH S 15 + 1) 17 ≤ 8
        rw [u17]
        exact h17
      · have hi2 : i < (up (sH S) 15 (sH S 15 + 1) 15).toNat := hi
        rw [u15] at hi2
        show tKd T L (upN (sPl S) (sH S 15).toNat (tE T L p) i) = 2
        unfold upN
        by_cases c : i = (sH S 15).toNat
        · rw [if_pos c]
          exact (Classical.not_not.mp nk).1
        · rw [if_neg c]
          exact hP i (by omega)
      · have hi2 : i < (up (sH S) 15 (sH S 15 + 1) 15).toNat := hi
        rw [u15] at hi2
        show ∃ a b, orR T L (ptR T L 7) 0 a = .inr (b, upN (sE S) (sH S 15).toNat e i)
        unfold upN
        by_cases c : i = (sH S 15).toNat
        · rw [if_pos c]
          exact ee
        · rw [if_neg c]
          exact hE i (by omega)
  rw [if_neg w12] at h ⊢
  split at h
  · cases h
  next wb =>
  split at h
  · cases h
  have key : HOK (plH T L (sH S) (tWx T L p) (.inr (tE T L p))) (sC S) ∧ plH T L (sH S) (tWx T L p) (.inr (tE T L p)) 15 = sH S 15 ∧ plH T L (sH S) (tWx T L p) (.inr (tE T L p)) 17 = sH S 17 := by
    generalize (Sum.inr (tE T L p) : Int ⊕ Nat) = r at h ⊢
    unfold plR at h
    unfold plH
    split at h
    · next c =>
      rw [if_pos c]
      obtain ⟨p1, e1⟩ := sgnR_in h
      have b1 := numZ_in e1
      obtain ⟨p2, e2⟩ := numP_in e1
      obtain ⟨p3, e3⟩ := keyR_in e2
      have b3 := numZ_in e3
      exact ⟨(ho.w (by omega)).w (by omega), by unfold apH; rw [up_n _ _ _ _ (by omega), up_n _ _ _ _ (by omega)], by unfold apH; rw [up_n _ _ _ _ (by omega), up_n _ _ _ _ (by omega)]⟩
    · next c =>
      rw [if_neg c]
      split at h
      · next c2 =>
        rw [if_pos c2]
        obtain ⟨p1, e1⟩ := sgnR_in h
        have b1 : 0 ≤ wo3 T L r ∧ wo3 T L r ≤ wo2 T L r := numZ_in e1
        obtain ⟨p2, e2⟩ := numP_in e1
        have b2 : 0 ≤ wo2 T L r ∧ wo2 T L r ≤ wo1 T L r := numZ_in e2
        obtain ⟨p3, e3⟩ := numP_in e2
        have b3 : 0 ≤ wo1 T L r ∧ wo1 T L r ≤ 99 := numZ_in e3
        exact ⟨((ho.w (by omega)).w (by omega)).w (by omega), by unfold woH; rw [up_n _ _ _ _ (by omega), up_n _ _ _ _ (by omega), up_n _ _ _ _ (by omega)], by unfold woH; rw [up_n _ _ _ _ (by omega), up_n _ _ _ _ (by omega), up_n _ _ _ _ (by omega)]⟩
      · next c2 =>
        rw [if_neg c2]
        split at h
        · next c3 =>
          rw [if_pos c3]
          obtain ⟨p1, e1⟩ := sgnR_in h
          have b1 := numZ_in e1
          obtain ⟨p2, e2⟩ := numP_in e1
          obtain ⟨p3, e3⟩ := keyR_in e2
          have b3 := numZ_in e3
          exact ⟨((ho.w (by omega)).w (by omega)).w (by omega), by unfold egH; rw [up_n _ _ _ _ (by omega), up_n _ _ _ _ (by omega), up_n _ _ _ _ (by omega)], by unfold egH; rw [up_n _ _ _ _ (by omega), up_n _ _ _ _ (by omega), up_n _ _ _ _ (by omega)]⟩
        · next c3 =>
          rw [if_neg c3]
          obtain ⟨p1, e1⟩ := sgnR_in h
          have b1 := numZ_in e1
          have kk : tWx T L p = 1 ∨ tWx T L p = 4 ∨ tWx T L p = 5 ∨ tWx T L p = 7 ∨ tWx T L p = 8 ∨ tWx T L p = 9 ∨ tWx T L p = 10 := by omega
          unfold oneH
          rcases kk with k | k | k | k | k | k | k
          all_goals
            rw [k] at b1 ⊢
            exact ⟨ho.w (by simp [oK, oLo, oHi] at b1 ⊢; omega), up_n _ _ _ _ (by decide), up_n _ _ _ _ (by decide)⟩
  refine ⟨key.1, ?_, fun i hi => ?_, fun i hi => ?_⟩
  · show 0 ≤ plH T L (sH S) (tWx T L p) (.inr (tE T L p)) 17 ∧ plH T L (sH S) (tWx T L p) (.inr (tE T L p)) 17 ≤ 8
    rw [key.2.2]
    exact h17
  · have hi2 : i < (plH T L (sH S) (tWx T L p) (.inr (tE T L p)) 15).toNat := hi
    rw [key.2.1] at hi2
    exact hP i hi2
  · have hi2 : i < (plH T L (sH S) (tWx T L p) (.inr (tE T L p)) 15).toNat := hi
    rw [key.2.1] at hi2
    exact hE i hi2
