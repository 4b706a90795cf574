/-! THE PURE PROOFS, 50: the reference reads sums. -/
theorem nn_on {o o2 : Nat → Int32} {d : Nat} (nn : d = 0 ∨ ¬ o d = 1) (e : o2 d = o d) : d = 0 ∨ ¬ o2 d = 1 := by
  rcases nn with z | z
  · exact Or.inl z
  · rw [e]; exact Or.inr z
theorem exSumR {N : Nat} {T : Nat → Int} {L n d : Nat} (hN : 1100 ≤ N) (ok : RLv N T L 1 d (pdR T L (ptR T L n) d)) : RLv N T L 2 d (smR T L (ptR T L n) d) := by
  intro p fuel h cs c Q x l hp cd hs hf nn _ kf kg
  have hL := x.2.1
  have key : ∀ (m p1 fuel1 : Nat) (e1 : Ex) (h1 : PH), L ≤ p1 + m → FrN h h1 → LexM T L p1 h1 → p1 ≤ L → CdM (cs ++ infx e1) h1 → (cs ++ infx e1).length + c ≤ p1 → L + 2 ≤ fuel1 + p1 → tKd T L p1 ≠ 42 → (∀ i, i ≤ d → hI h1 101 i = hI h 101 i ∧ hZ h1 102 i = hZ h 102 i) → (∀ r, smL T L (ptR T L n) d m p1 e1 = r → smR T L (ptR T L n) d p = r) → Wp (Mo_reads_b11 N fuel1 92 (iv d) 0 h1) Q := by
    intro m
    induction m with
    | zero =>
      intro p1 fuel1 e1 h1 hm f1 l1 hp1 c1 hs1 hf1 n42 kp er
      have k3 : tKd T L p1 = 3 := by
        have := (tB_le (T := T) hp1).1
        unfold tKd
        rw [if_pos (by omega)]
      exact kg p1 e1 (er _ rfl) h1 fuel1 f1 l1 hp1 c1 hs1 hf1 ⟨by omega, fun z => by omega, fun z => by omega, fun z => by omega⟩ (fun i hi => (kp i hi).1) (fun i hi => (kp i (by omega)).2) (fun _ => (kp d (by omega)).2)
    | succ m ih =>
      intro p1 fuel1 e1 h1 hm f1 l1 hp1 c1 hs1 hf1 n42 kp er
      have x1 := f1.tx x
      by_cases k42 : tKd T L p1 = 43 ∨ tKd T L p1 = 45
      · obtain ⟨fu, rfl⟩ : ∃ g, fuel1 = g + 1 := ⟨fuel1 - 1, by omega⟩
        have tg := tE_gt (T := T) (L := L) (p := p1) (by omega) hp1
        have te := tE_le (T := T) hp1
        refine signOnM hN x1 l1 hp1 c1 (by omega) (Or.inr k42) ?_
        intro h2 f2 l2 c2 e2 z2
        have ec : (if tKd T L p1 = 43 then 20 else if tKd T L p1 = 45 then 21 else 22) = kc (if tKd T L p1 = 43 then -11 else -12) := by
          rcases k42 with z | z
          · rw [if_pos z, if_pos z]; rfl
          · rw [if_neg (show ¬ tKd T L p1 = 43 by omega), if_pos z, if_neg (show ¬ tKd T L p1 = 43 by omega)]; rfl
        rw [ec] at c2
        generalize ek : (if tKd T L p1 = 43 then (-11 : Int) else -12) = k at c2
        have hcs : (cs ++ infx e1 ++ [kc k]).length + c ≤ tE T L p1 := by rw [List.length_append, List.length_singleton]; omega
        refine ok _ fu h2 _ (tE T L p1 - (cs ++ infx e1 ++ [kc k]).length) Q (f2.tx x1) l2 te c2 (by omega) (by omega) (nn_on nn (by rw [e2]; exact (kp d (by omega)).1)) (fun z => by omega) ?_ ?_
        · intro f ef h3 f3 w3 fb
          refine kf f (er _ ?_) h3 ((f1.tr f2).tr f3) w3 fb
          rw [smL, if_pos k42, ef]
          rfl
        · intro p2 e3 ee h3 fuel3 f3 l3 hp3 c3 hs3 hf3 ps3 kp3 kz3 kd3
          have ea : cs ++ infx (xop k e1 e3) = cs ++ infx e1 ++ [kc k] ++ infx e3 := by
            show cs ++ (infx e1 ++ kc k :: infx e3) = _
            simp
          have hs4 := hs3
          rw [List.length_append] at hs4
          refine ih p2 fuel3 (xop k e1 e3) h3 (by omega) ((f1.tr f2).tr f3) l3 hp3 (by rw [ea]; exact c3) (by rw [ea]; omega) hf3 ps3.1 (fun i hi => ⟨?_, ?_⟩) (fun r hr => er r ?_)
          · rw [kp3 i hi, e2, (kp i hi).1]
          · by_cases ed : i = d
            · subst ed
              rw [kd3 (by omega), z2, (kp i hi).2]
            · rw [kz3 i (by omega), z2, (kp i hi).2]
          · rw [smL, if_pos k42, ee, ek]
            exact hr
      · exact kg p1 e1 (er _ (by rw [smL, if_neg k42])) h1 fuel1 f1 l1 hp1 c1 hs1 hf1 ⟨n42, fun _ => ⟨fun z => k42 (Or.inl z), fun z => k42 (Or.inr z)⟩, fun z => by omega, fun z => by omega⟩ (fun i hi => (kp i hi).1) (fun i hi => (kp i (by omega)).2) (fun _ => (kp d (by omega)).2)
  refine ok p fuel h cs c Q x l hp cd hs hf nn (fun z => by omega) ?_ ?_
  · intro f ef h2 f2 w2 fb
    exact kf f (by unfold smR; rw [ef]; rfl) h2 f2 w2 fb
  · intro p2 e ee h2 fuel2 f2 l2 hp2 c2 hs2 hf2 ps2 kp2 kz2 kd2
    refine key 1000 p2 fuel2 e h2 (by omega) f2 l2 hp2 c2 hs2 hf2 ps2.1 (fun i hi => ⟨kp2 i hi, ?_⟩) (fun r hr => by unfold smR; rw [ee]; exact hr)
    by_cases ed : i = d
    · subst ed
      exact kd2 (by omega)
    · exact kz2 i (by omega)
