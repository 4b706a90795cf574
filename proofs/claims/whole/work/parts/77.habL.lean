/-! THE PURE PROOFS, 55: how much a guest gets, to its semicolon, the class's way. -/
theorem habReadL {N : Nat} {T : Nat → Int} {L p : Nat} {st : List Int} {c : Nat} {h : PH} (hN : 1100 ≤ N) (x : TxL T L h) (l : LexL T L p h) (hp : p ≤ L) (sl : StL st h) (hs : st.length + c ≤ p) : Wp (Re_either N (Re_part N 7) 28 (iv ((0 : Nat) : Int)) h) (fun _ h2 => FrQ h h2 ∧ Wp (Re_sign N 28 (iv 59) h2) (fun _ h3 => FrQ h h3 ∧ PoS T L st c (habR T L p) h3)) := by
  refine Wp_mono (exEitherL hN (exPartL (T := T) (L := L) hN 7 0 (by omega) (by omega) (by omega)) (fun f hf => partX (by omega) hf 7 0 (by omega) (by omega) (by omega)) h p st c x l hp sl hs) ?_
  rintro - h2 ⟨f2, q2⟩
  have x2 := f2.tx x
  refine ⟨f2, ?_⟩
  unfold habR
  generalize orR T L (ptR T L 7) 0 p = r at q2
  cases r with
  | inl f =>
    refine Wp_mono (signR (r := .inl f) hN x2 q2 (by omega)) ?_
    rintro - h3 ⟨f3, s3⟩
    exact ⟨f2.tr f3.q, s3⟩
  | inr t =>
    obtain ⟨p2, e⟩ := t
    obtain ⟨l2, hp2, sl2, hs2⟩ := q2
    refine Wp_mono (signR (r := .inr p2) hN x2 ⟨l2, hp2⟩ (by omega)) ?_
    rintro - h3 ⟨f3, s3⟩
    refine ⟨f2.tr f3.q, ?_⟩
    show PoS T L st c (if tKd T L p2 = 59 then _ else _) h3
    have s4 : RdS T L (if tKd T L p2 = 59 then .inr (tE T L p2) else .inl (1 + 16 * (tB T L p2 : Nat))) h3 := s3
    by_cases k59 : tKd T L p2 = 59
    · have tg := tE_gt (T := T) (L := L) (p := p2) (by omega) hp2
      rw [if_pos k59] at s4 ⊢
      exact ⟨s4.1, s4.2, sl2.fr f3, by omega⟩
    · rw [if_neg k59] at s4 ⊢
      exact s4
