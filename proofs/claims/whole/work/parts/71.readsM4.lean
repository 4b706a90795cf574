/-! THE PURE PROOFS, 49: the reference reads products. -/
/-- a level l of what is read at depth d, which is no not's: 1 products, 2 sums, 3 tests, 4 all -/
def RLv (N : Nat) (T : Nat → Int) (L l d : Nat) (rd : Nat → Int ⊕ (Nat × Ex)) : Prop := ∀ (p fuel : Nat) (h : PH) (cs : List Int) (c : Nat) (Q : Bool → PH → Prop), TxM T L h → LexM T L p h → p ≤ L → CdM cs h → cs.length + c ≤ p → L + 2 ≤ fuel + p → (d = 0 ∨ ¬ hI h 101 d = 1) → (3 ≤ l → hZ h 102 d = false) →
  (∀ f, rd p = .inl f → ∀ h2, FrN h h2 → hI h2 92 9 = iv f → 0 < f ∧ f < 1048576 → Q false h2) →
  (∀ p2 e, rd p = .inr (p2, e) → ∀ h2 fuel2, FrN h h2 → LexM T L p2 h2 → p2 ≤ L → CdM (cs ++ infx e) h2 → (cs ++ infx e).length + c ≤ p2 → L + 2 ≤ fuel2 + p2 → (tKd T L p2 ≠ 42 ∧ (2 ≤ l → tKd T L p2 ≠ 43 ∧ tKd T L p2 ≠ 45) ∧ (3 ≤ l → tKd T L p2 = 60 ∨ tKd T L p2 = 61 → hZ h2 102 d = true) ∧ (4 ≤ l → tWx T L p2 ≠ 21 ∧ tWx T L p2 ≠ 22)) → (∀ i, i ≤ d → hI h2 101 i = hI h 101 i) → (∀ i, i < d → hZ h2 102 i = hZ h 102 i) → (l ≤ 2 → hZ h2 102 d = hZ h 102 d) → Wp (Mo_reads_b11 N fuel2 92 (iv d) 0 h2) Q) →
  Wp (Mo_reads_b11 N fuel 92 (iv d) 1 h) Q
theorem pdn_nn {o : Nat → Int32} {d : Nat} (h : d = 0 ∨ ¬ o d = 1) : pdn o d = d := by
  cases d with
  | zero => rfl
  | succ d => rw [pdn, if_neg (by rcases h with z | z; omega; exact z)]
theorem sgnOff {N : Nat} {T : Nat → Int} {L p : Nat} {h : PH} (x : TxM T L h) (l : LexM T L p h) (c : Int) (hc : 4 ≤ c ∧ c ≤ 126) (n : tKd T L p ≠ c) : Mo_isSign N 92 (iv c) h = some (false, h) := by rw [isSignM x l hc, decide_eq_false n]
theorem sgnOn {N : Nat} {T : Nat → Int} {L p : Nat} {h : PH} (x : TxM T L h) (l : LexM T L p h) (c : Int) (hc : 4 ≤ c ∧ c ≤ 126) (n : tKd T L p = c) : Mo_isSign N 92 (iv c) h = some (true, h) := by rw [isSignM x l hc, decide_eq_true n]
/-- + - * : its code, the next token, and an operand is wanted -/
theorem signOnM {N d fu p : Nat} {T : Nat → Int} {L : Nat} {cs : List Int} {h : PH} {Q : Bool → PH → Prop} (hN : 1100 ≤ N) (x : TxM T L h) (l : LexM T L p h) (hp : p ≤ L) (cd : CdM cs h) (hc : cs.length < 1000) (sg : tKd T L p = 42 ∨ tKd T L p = 43 ∨ tKd T L p = 45) (k : ∀ h2, FrN h h2 → LexM T L (tE T L p) h2 → CdM (cs ++ [if tKd T L p = 43 then 20 else if tKd T L p = 45 then 21 else 22]) h2 → hI h2 101 = hI h 101 → hZ h2 = hZ h → Wp (Mo_reads_b11 N fu 92 (iv d) 1 h2) Q) : Wp (Mo_reads_b11 N (fu + 1) 92 (iv d) 0 h) Q := by
  have s := x.1
  have b237 : ∀ v : Int, v = (if tKd T L p = 43 then 20 else if tKd T L p = 45 then 21 else 22) → Wp (Mo_reads_b237 N (Mo_reads_b11 N fu) 92 (iv v) 92 (iv d) h) Q := by
    rintro v ev
    unfold Mo_reads_b237
    refine Wp_ck (by rw [k92 s]) (Wp_bd2 (putsM s l cd hc) ?_)
    rintro - h1 ⟨f1, l1, c1, e1, z1⟩
    refine (onM (d := d) (x2 := 1) hN (f1.tx x) l1 hp ?_).2
    intro h2 f2 l2 e2 _
    exact k h2 (f1.tr f2.n) l2 (by rw [← ev]; exact c1.y f2) (e2.trans e1) (f2.2.1.trans z1)
  have b206 : Wp (Mo_reads_b206 N (Mo_reads_b11 N fu) 92 (iv d) h) Q := by
    unfold Mo_reads_b206
    rw [show (43 : Int32) = iv 43 from iv_lit _, show (45 : Int32) = iv 45 from iv_lit _]
    refine Wp_ck (by rw [k92 s]) ?_
    by_cases c43 : tKd T L p = 43
    · exact Wp_bde (sgnOn x l 43 (by omega) c43) (Wp_ifn (by decide) (b237 20 (by rw [if_pos c43])))
    refine Wp_bde (sgnOff x l 43 (by omega) c43) (Wp_ifp rfl (Wp_ck (by rw [k92 s]) ?_))
    by_cases c45 : tKd T L p = 45
    · exact Wp_bde (sgnOn x l 45 (by omega) c45) (Wp_ifn (by decide) (b237 21 (by rw [if_neg c43, if_pos c45])))
    · exact Wp_bde (sgnOff x l 45 (by omega) c45) (Wp_ifp rfl (b237 22 (by rw [if_neg c43, if_neg c45])))
  rw [Mo_reads_b11, show (43 : Int32) = iv 43 from iv_lit _, show (45 : Int32) = iv 45 from iv_lit _, show (42 : Int32) = iv 42 from iv_lit _]
  refine Wp_ifp rfl (Wp_ck (by rw [k92 s]) ?_)
  by_cases c43 : tKd T L p = 43
  · exact Wp_bde (sgnOn x l 43 (by omega) c43) (Wp_ifn (by decide) b206)
  refine Wp_bde (sgnOff x l 43 (by omega) c43) (Wp_ifp rfl (Wp_ck (by rw [k92 s]) ?_))
  by_cases c45 : tKd T L p = 45
  · exact Wp_bde (sgnOn x l 45 (by omega) c45) (Wp_ifn (by decide) b206)
  refine Wp_bde (sgnOff x l 45 (by omega) c45) (Wp_ifp rfl (Wp_ck (by rw [k92 s]) ?_))
  exact Wp_bde (sgnOn x l 42 (by omega) (by omega)) (Wp_ifn (by decide) b206)
theorem productR {N : Nat} {T : Nat → Int} {L n d : Nat} (hN : 1100 ≤ N) (ok : RPt N T L n d) : RLv N T L 1 d (pdR T L (ptR T L n) d) := by
  intro p fuel h cs c Q x l hp cd hs hf nn _ kf kg
  have hL := x.2.1
  have key : ∀ (m p1 fuel1 : Nat) (e1 : Ex) (h1 : PH), L ≤ p1 + m → FrN h h1 → LexM T L p1 h1 → p1 ≤ L → CdM (cs ++ infx e1) h1 → (cs ++ infx e1).length + c ≤ p1 → L + 2 ≤ fuel1 + p1 → (∀ i, i ≤ d → hI h1 101 i = hI h 101 i ∧ hZ h1 102 i = hZ h 102 i) → (∀ r, pdL T L (ptR T L n) d m p1 e1 = r → pdR T L (ptR T L n) d p = r) → Wp (Mo_reads_b11 N fuel1 92 (iv d) 0 h1) Q := by
    intro m
    induction m with
    | zero =>
      intro p1 fuel1 e1 h1 hm f1 l1 hp1 c1 hs1 hf1 kp er
      have k3 : tKd T L p1 = 3 := by
        have := (tB_le (T := T) hp1).1
        unfold tKd
        rw [if_pos (by omega)]
      exact kg p1 e1 (er _ rfl) h1 fuel1 f1 l1 hp1 c1 hs1 hf1 ⟨by omega, fun z => by omega, fun z => by omega, fun z => by omega⟩ (fun i hi => (kp i hi).1) (fun i hi => (kp i (by omega)).2) (fun _ => (kp d (by omega)).2)
    | succ m ih =>
      intro p1 fuel1 e1 h1 hm f1 l1 hp1 c1 hs1 hf1 kp er
      have x1 := f1.tx x
      by_cases k42 : tKd T L p1 = 42
      · obtain ⟨fu, rfl⟩ : ∃ g, fuel1 = g + 1 := ⟨fuel1 - 1, by omega⟩
        have tg := tE_gt (T := T) (L := L) (p := p1) (by omega) hp1
        have te := tE_le (T := T) hp1
        refine signOnM hN x1 l1 hp1 c1 (by omega) (Or.inl k42) ?_
        intro h2 f2 l2 c2 e2 z2
        rw [if_neg (by omega), if_neg (by omega)] at c2
        have pe : pdn (hI h2 101) d = d := by
          refine pdn_nn ?_
          rcases nn with z | z
          · exact Or.inl z
          · rw [e2, (kp d (by omega)).1]; exact Or.inr z
        have hcs : (cs ++ infx e1 ++ [(22 : Int)]).length + c ≤ tE T L p1 := by rw [List.length_append, List.length_singleton]; omega
        refine ok _ fu h2 _ (tE T L p1 - (cs ++ infx e1 ++ [(22 : Int)]).length) Q (f2.tx x1) l2 te c2 (by omega) (by omega) ?_ ?_
        · intro f ef h3 f3 w3 fb
          refine kf f (er _ ?_) h3 ((f1.tr f2).tr f3) w3 fb
          rw [pdL, if_pos k42, ef]
          rfl
        · intro p2 e3 ee h3 fuel3 f3 l3 hp3 c3 hs3 hf3 kp3
          rw [pe]
          have ea : cs ++ infx (xop (-13) e1 e3) = cs ++ infx e1 ++ [22] ++ infx e3 := by
            show cs ++ (infx e1 ++ 22 :: infx e3) = _
            simp
          have hs4 := hs3
          rw [List.length_append] at hs4
          refine ih p2 fuel3 (xop (-13) e1 e3) h3 (by omega) ((f1.tr f2).tr f3) l3 hp3 (by rw [ea]; exact c3) (by rw [ea]; omega) hf3 (fun i hi => ⟨?_, ?_⟩) (fun r hr => er r ?_)
          · rw [(kp3 i hi).1, e2, (kp i hi).1]
          · rw [(kp3 i hi).2, z2, (kp i hi).2]
          · rw [pdL, if_pos k42, ee]
            exact hr
      · exact kg p1 e1 (er _ (by rw [pdL, if_neg k42])) h1 fuel1 f1 l1 hp1 c1 hs1 hf1 ⟨k42, fun z => by omega, fun z => by omega, fun z => by omega⟩ (fun i hi => (kp i hi).1) (fun i hi => (kp i (by omega)).2) (fun _ => (kp d (by omega)).2)
  refine ok p fuel h cs c Q x l hp cd hs hf ?_ ?_
  · intro f ef h2 f2 w2 fb
    exact kf f (by unfold pdR; rw [ef]; rfl) h2 f2 w2 fb
  · intro p2 e ee h2 fuel2 f2 l2 hp2 c2 hs2 hf2 kp2
    rw [pdn_nn nn]
    exact key 1000 p2 fuel2 e h2 (by omega) f2 l2 hp2 c2 hs2 hf2 kp2 (fun r hr => by unfold pdR; rw [ee]; exact hr)
