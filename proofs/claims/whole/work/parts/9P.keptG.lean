/-! THE PURE PROOFS, 93: what is so of a state stays so. -/
section
variable {N c : Nat} {g : Gs} {h : PH}
theorem gCome_ok {z : Int} (k : GOK g) : GOK (gCome g z) := by
  have b := n_b k
  unfold gCome
  by_cases o : cCome g z
  · rw [if_pos o]
    have o1 := o.1
    have o4 := o.2.2.2
    exact k.push.night (comeM_ok k.1 k.2.2.1 (show gsN g 0 < gsH g 0 by omega) (show 0 ≤ z - gsN g 7 ∧ z - gsN g 7 ≤ 3 by omega))
  · rw [if_neg o]
    exact k
theorem gGive_ok {z : Int} (k : GOK g) : GOK (gGive g z) := by
  unfold gGive
  by_cases o : cGive g z
  · rw [if_pos o]
    exact k.push.night (handM_ok k.1 k.2.2.1 o.1)
  · rw [if_neg o]
    exact k
theorem gQuarter_ok (k : GOK g) : GOK (gQuarter g) := by
  have b := n_b k
  unfold gQuarter
  by_cases o : gsN g 0 = gsH g 0
  · rw [if_pos o]
    exact k
  · rw [if_neg o]
    exact k.push.night (passM_ok k.1 k.2.2.1 (show gsN g 0 < gsH g 0 by omega))
theorem gOff_ok (k : GOK g) : GOK (gOff g) := by
  unfold gOff
  by_cases o : opn g
  · rw [if_pos o]
    exact k.push.night (shutM_ok k.2.2.1)
  · rw [if_neg o]
    exact k
theorem gUndo_ok (k : GOK g) : GOK (gUndo g) := by
  unfold gUndo
  by_cases o : (gsU g).1 = 0
  · rw [if_pos o]
    exact k
  · rw [if_neg o]
    have u := k.2.2.2.2.1
    exact ⟨k.1, k.2.1, u.2 _ (by omega), k.2.2.2.1, ⟨by show (gsU g).1 - 1 ≤ 16; omega, fun i hi => u.2 i (by have : i < (gsU g).1 - 1 := hi; omega)⟩, k.2.2.2.2.2⟩
theorem gMark_ok {z w : Int} (k : GOK g) : GOK (gMark g z w) := by
  unfold gMark
  by_cases o : cMark g z w
  · rw [if_pos o]
    have o1 := o.1
    by_cases e : w = 1
    · rw [if_pos e]
      have m := k.2.2.2.2.2 z.toNat (by omega) (o.2 e)
      exact ⟨k.1, k.2.1, m.1, m.2, ⟨Nat.zero_le _, fun i hi => absurd hi (Nat.not_lt_zero i)⟩, k.2.2.2.2.2⟩
    · rw [if_neg e]
      refine ⟨k.1, k.2.1, k.2.2.1, k.2.2.2.1, k.2.2.2.2.1, fun i hi q => ?_⟩
      have q' : (if i = z.toNat then true else (gsM g).1 i) = true := q
      show NOK (gsH g) (upN (gsM g).2.1 z.toNat (gsN g) i) ∧ EvOK (upN (gsM g).2.2 z.toNat (gsV g) i)
      unfold upN
      by_cases d : i = z.toNat
      · rw [if_pos d, if_pos d]
        exact ⟨k.2.2.1, k.2.2.2.1⟩
      · rw [if_neg d] at q'
        rw [if_neg d, if_neg d]
        exact k.2.2.2.2.2 i hi q'
  · rw [if_neg o]
    exact k
theorem gEve_ok (k : GOK g) : GOK (gEve g) := by
  unfold gEve
  cases e : evR (gsT g) (gsL g) 61 0 (fun _ => 0) (fun _ => 0) 0 with
  | inl f => exact k
  | inr r => exact ⟨k.1, k.2.1, k.2.2.1, evR_ok 61 0 _ _ 0 r (by omega) (fun i hi => absurd hi (Nat.not_lt_zero i)) e, k.2.2.2.2⟩
theorem gFeed_ok {a b d : Int64} (k : GOK g) : GOK (gFeed g a b d) := k
theorem gHou_ok (hN : 1100 ≤ N) (x : LeI c g h) (y : RestM g h) (k : GOK g) : GOK (gHou g) := by
  obtain ⟨v, h2, -, -, -, -, r⟩ := leHouL hN x.1.1 x.1.2.1
  obtain ⟨v3, h3, -, -, -, -, r3⟩ := moHouM hN y.1
  unfold gHou
  cases e : hoR (gsT g) (gsL g) with
  | inl f => exact k
  | inr S =>
    rw [e] at r r3
    obtain ⟨-, ok, hl, -⟩ := r
    obtain ⟨-, so, hl2, -⟩ := r3
    exact ⟨ok.1, ⟨hl, hl2, fun i hi => by
      obtain ⟨a, b, ee⟩ := ok.2.2.2 i hi
      exact ⟨_, _, a, b, ee⟩⟩, begM_ok ok.1, ⟨Nat.zero_le _, fun i hi => absurd hi (Nat.not_lt_zero i)⟩, ⟨Nat.zero_le _, fun i hi => absurd hi (Nat.not_lt_zero i)⟩, fun i hi z => Bool.noConfusion z⟩
end
