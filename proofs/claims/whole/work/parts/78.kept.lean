/-! THE PURE PROOFS, 56: the words that are kept (printed). -/
theorem isKeptM {N : Nat} {T : Nat → Int} {L p : Nat} {h : PH} (x : TxM T L h) (s : LexM T L p h) : Mo_isKept N 92 h = some (decide (¬ (tKd T L p = 2 ∧ (tWx T L p = -1 ∨ 23 ≤ tWx T L p))), h) := by
  have cb := tCd_b (T := T) (L := L) (p := p)
  have ci := (tCd_iff (T := T) (L := L) (p := p)).2.1
  have wb := tWx_b (T := T) (L := L) (p := p)
  have kl := K27_lits
  unfold Mo_isKept
  rw [ck_p (by rw [k92 x.1]), s.2.2.1]
  simp only [show (iv (tCd T L p) = 1) ↔ tCd T L p = 1 from by rw [il1, iv_eq (by omega) (by omega) (by omega) (by omega)]]
  by_cases c : tKd T L p = 2
  · rw [if_pos (ci.mpr c), s.2.2.2.1 c]
    have one : ∀ i, i < 28 → ∀ w : Int64, w = jv (K27 i) → ((lg_cmp (jv (tW 27 T L p)) w = 0) ↔ tWx T L p = i) := by
      intro i hi w hw
      have k2 := tKd_2.mp c
      have b1 := en_b (b := 27) (by omega) (tSz T L p) k2.2.2 (tLf_dgt k2.1 k2.2.1)
      have b2 := en_b (b := 27) (by omega) (f := wf i) (wn i) (by have : ∀ i, i < 28 → wn i ≤ 8 := by decide +kernel
                                                                  exact this i hi) (wf_dgt i hi)
      have b3 : 0 ≤ tW 27 T L p ∧ tW 27 T L p < 1099511627776 := b1
      have b4 : 0 ≤ K27 i ∧ K27 i < 1099511627776 := b2
      rw [hw, lg_cmp_eq, jv_eq (by omega) (by omega) (by omega) (by omega)]
      exact ⟨fun z => (tWx_iff hi).mpr ⟨c, z⟩, fun z => ((tWx_iff hi).mp z).2⟩
    have o0 := one 0 (by omega) 4562600 (by rw [kl.1]; exact jv_lit _)
    have o1 := one 1 (by omega) 50934 (by rw [kl.2.1]; exact jv_lit _)
    have o2 := one 2 (by omega) 23175793 (by rw [kl.2.2.1]; exact jv_lit _)
    have o13 := one 13 (by omega) 12532058 (by rw [kl.2.2.2.2.2.2.2.2.2.2.2.2.2.1]; exact jv_lit _)
    have o3 := one 3 (by omega) 338365585 (by rw [kl.2.2.2.1]; exact jv_lit _)
    have o4 := one 4 (by omega) 240023 (by rw [kl.2.2.2.2.1]; exact jv_lit _)
    have o5 := one 5 (by omega) 9050609216 (by rw [kl.2.2.2.2.2.1]; exact jv_lit _)
    have o6 := one 6 (by omega) 103726 (by rw [kl.2.2.2.2.2.2.1]; exact jv_lit _)
    have o14 := one 14 (by omega) 131638 (by rw [kl.2.2.2.2.2.2.2.2.2.2.2.2.2.2.1]; exact jv_lit _)
    have o7 := one 7 (by omega) 464134 (by rw [kl.2.2.2.2.2.2.2.1]; exact jv_lit _)
    have o8 := one 8 (by omega) 79958 (by rw [kl.2.2.2.2.2.2.2.2.1]; exact jv_lit _)
    have o9 := one 9 (by omega) 355280 (by rw [kl.2.2.2.2.2.2.2.2.2.1]; exact jv_lit _)
    have o10 := one 10 (by omega) 11088176 (by rw [kl.2.2.2.2.2.2.2.2.2.2.1]; exact jv_lit _)
    have o11 := one 11 (by omega) 1623097 (by rw [kl.2.2.2.2.2.2.2.2.2.2.2.1]; exact jv_lit _)
    have o15 := one 15 (by omega) 555 (by rw [kl.2.2.2.2.2.2.2.2.2.2.2.2.2.2.2.1]; exact jv_lit _)
    have o12 := one 12 (by omega) 4272932 (by rw [kl.2.2.2.2.2.2.2.2.2.2.2.2.1]; exact jv_lit _)
    have o16 := one 16 (by omega) 70340 (by rw [kl.2.2.2.2.2.2.2.2.2.2.2.2.2.2.2.2.1]; exact jv_lit _)
    have o17 := one 17 (by omega) 144941 (by rw [kl.2.2.2.2.2.2.2.2.2.2.2.2.2.2.2.2.2.1]; exact jv_lit _)
    have o18 := one 18 (by omega) 6888375828 (by rw [kl.2.2.2.2.2.2.2.2.2.2.2.2.2.2.2.2.2.2.1]; exact jv_lit _)
    have o19 := one 19 (by omega) 11103 (by rw [kl.2.2.2.2.2.2.2.2.2.2.2.2.2.2.2.2.2.2.2.1]; exact jv_lit _)
    have o20 := one 20 (by omega) 10631 (by rw [kl.2.2.2.2.2.2.2.2.2.2.2.2.2.2.2.2.2.2.2.2.1]; exact jv_lit _)
    have o21 := one 21 (by omega) 1111 (by rw [kl.2.2.2.2.2.2.2.2.2.2.2.2.2.2.2.2.2.2.2.2.2.1]; exact jv_lit _)
    have o22 := one 22 (by omega) 423 (by rw [kl.2.2.2.2.2.2.2.2.2.2.2.2.2.2.2.2.2.2.2.2.2.2.1]; exact jv_lit _)
    simp only [o0, o1, o2, o13, o3, o4, o5, o6, o14, o7, o8, o9, o10, o11, o15, o12, o16, o17, o18, o19, o20, o21, o22]
    by_cases e0 : tWx T L p = ((0 : Nat) : Int)
    · rw [if_pos e0, decide_eq_true (by omega)]
    rw [if_neg e0]
    by_cases e1 : tWx T L p = ((1 : Nat) : Int)
    · rw [if_pos e1, decide_eq_true (by omega)]
    rw [if_neg e1]
    by_cases e2 : tWx T L p = ((2 : Nat) : Int)
    · rw [if_pos e2, decide_eq_true (by omega)]
    rw [if_neg e2]
    by_cases e13 : tWx T L p = ((13 : Nat) : Int)
    · rw [if_pos e13, decide_eq_true (by omega)]
    rw [if_neg e13]
    by_cases e3 : tWx T L p = ((3 : Nat) : Int)
    · rw [if_pos e3, decide_eq_true (by omega)]
    rw [if_neg e3]
    by_cases e4 : tWx T L p = ((4 : Nat) : Int)
    · rw [if_pos e4, decide_eq_true (by omega)]
    rw [if_neg e4]
    by_cases e5 : tWx T L p = ((5 : Nat) : Int)
    · rw [if_pos e5, decide_eq_true (by omega)]
    rw [if_neg e5]
    by_cases e6 : tWx T L p = ((6 : Nat) : Int)
    · rw [if_pos e6, decide_eq_true (by omega)]
    rw [if_neg e6]
    by_cases e14 : tWx T L p = ((14 : Nat) : Int)
    · rw [if_pos e14, decide_eq_true (by omega)]
    rw [if_neg e14]
    by_cases e7 : tWx T L p = ((7 : Nat) : Int)
    · rw [if_pos e7, decide_eq_true (by omega)]
    rw [if_neg e7]
    by_cases e8 : tWx T L p = ((8 : Nat) : Int)
    · rw [if_pos e8, decide_eq_true (by omega)]
    rw [if_neg e8]
    by_cases e9 : tWx T L p = ((9 : Nat) : Int)
    · rw [if_pos e9, decide_eq_true (by omega)]
    rw [if_neg e9]
    by_cases e10 : tWx T L p = ((10 : Nat) : Int)
    · rw [if_pos e10, decide_eq_true (by omega)]
    rw [if_neg e10]
    by_cases e11 : tWx T L p = ((11 : Nat) : Int)
    · rw [if_pos e11, decide_eq_true (by omega)]
    rw [if_neg e11]
    by_cases e15 : tWx T L p = ((15 : Nat) : Int)
    · rw [if_pos e15, decide_eq_true (by omega)]
    rw [if_neg e15]
    by_cases e12 : tWx T L p = ((12 : Nat) : Int)
    · rw [if_pos e12, decide_eq_true (by omega)]
    rw [if_neg e12]
    by_cases e16 : tWx T L p = ((16 : Nat) : Int)
    · rw [if_pos e16, decide_eq_true (by omega)]
    rw [if_neg e16]
    by_cases e17 : tWx T L p = ((17 : Nat) : Int)
    · rw [if_pos e17, decide_eq_true (by omega)]
    rw [if_neg e17]
    by_cases e18 : tWx T L p = ((18 : Nat) : Int)
    · rw [if_pos e18, decide_eq_true (by omega)]
    rw [if_neg e18]
    by_cases e19 : tWx T L p = ((19 : Nat) : Int)
    · rw [if_pos e19, decide_eq_true (by omega)]
    rw [if_neg e19]
    by_cases e20 : tWx T L p = ((20 : Nat) : Int)
    · rw [if_pos e20, decide_eq_true (by omega)]
    rw [if_neg e20]
    by_cases e21 : tWx T L p = ((21 : Nat) : Int)
    · rw [if_pos e21, decide_eq_true (by omega)]
    rw [if_neg e21]
    by_cases e22 : tWx T L p = ((22 : Nat) : Int)
    · rw [if_pos e22, decide_eq_true (by omega)]
    rw [if_neg e22]
    rw [decide_eq_false (by omega)]
  · rw [if_neg (fun z => c (ci.mp z)), decide_eq_true (show ¬ (tKd T L p = 2 ∧ (tWx T L p = -1 ∨ 23 ≤ tWx T L p)) from fun z => c z.1)]
