/-! THE PURE PROOFS, 68: the reference reads a house: its lines of numbers. -/
theorem twiceK {N w : Nat} {T : Nat → Int} {L p : Nat} {S : Sta} {h : PH} {x1 : Int32} {rest : PH → Option (Bool × PH)} {Q : Bool → PH → Prop} (hN : 1100 ≤ N) (x : TxM T L h) (l : LexM T L p h) (hp : p ≤ L) (st : StM T L S h) (hw : 1 ≤ w ∧ w ≤ 10) (e : x1 = bw w)
    (bad : ∀ h2, sD S w = 1 → FrK h h2 → GdM T L (.inl (3 + 16 * (tB T L p : Nat))) false h2 → Q false h2)
    (good : ∀ h2, ¬ sD S w = 1 → FrK h h2 → TxM T L h2 → LexM T L (tE T L p) h2 → tE T L p ≤ L → StM T L (mkS (sH S) (sC S) (sK S) (up (sD S) w 1) (sPl S) (sE S)) h2 → Wp (rest h2) Q) : Wp (bd (Mo_isTwice N 92 x1 h) fun v2 h3 => if (bI v2) = 0 then ck ((hK h3 92).1 = 11) <| bd (Mo_nextToken N 92 h3) fun _ h8 => rest h8 else ck ((hK h3 92).1 = 11) <| bd (Mo_fails N 92 3 h3) fun v26 h27 => some (v26, h27)) Q := by
  have tw := isTwiceM (N := N) x.1 st hw e
  by_cases c : sD S w = 1
  · rw [if_pos c] at tw
    refine Wp_bde tw (Wp_ifn (by decide) (Wp_ck (by rw [k92 x.1]) ?_))
    rw [il3]
    refine Wp_bde (failM x l) (Wp_ret (bad _ c (FrK.rf.w (by omega)) ⟨rfl, ?_, flt_b hp x.2.1 (by omega)⟩))
    rw [hI_wI, if_pos ⟨rfl, rfl⟩]
  · rw [if_neg c] at tw
    have f1 : FrK h (wI h 92 18 (tvD (up (sD S) w 1))) := FrK.rf.w (by omega)
    have x1 := f1.tx x
    refine Wp_bde tw (Wp_ifp rfl (Wp_ck (by rw [k92 x1.1]) (Wp_bd2 (nextR hN x1 (l.w (by omega)) hp) ?_)))
    rintro - h2 ⟨f2, l2⟩
    exact good h2 c (f1.tr f2.y.k) (f2.tx x1) l2 (tE_le hp) (StM.y (StM.d st) f2.y)
theorem hlR_pl {T : Nat → Int} {L p w : Nat} {S : Sta} (e : tWx T L p = w) (hw : 1 ≤ w ∧ w ≤ 10) : hlR T L S p = (if sD S w = 1 then .inl (3 + 16 * (tB T L p : Nat)) else plR T L (sH S) w (.inr (tE T L p))) ∧ hlS T L S p = mkS (plH T L (sH S) w (.inr (tE T L p))) (sC S) (sK S) (up (sD S) w 1) (sPl S) (sE S) := by
  unfold hlR hlS
  rw [if_neg (show ¬ tWx T L p = 11 by omega), if_neg (show ¬ tWx T L p = 12 by omega), if_neg (show ¬ (tWx T L p < 1 ∨ 10 < tWx T L p) by omega), if_neg (show ¬ tWx T L p = 11 by omega), if_neg (show ¬ tWx T L p = 12 by omega), e]
  exact ⟨rfl, rfl⟩
/-- a line is closed -/
theorem closeK {N : Nat} {T : Nat → Int} {L p : Nat} {h : PH} {Q : Bool → PH → Prop} (hN : 1100 ≤ N) (x : TxM T L h) (l : LexM T L p h) (hp : p ≤ L) (k : ∀ v h2, FrY h h2 → GdM T L (sgnR T L 59 (.inr p)) v h2 → Q v h2) : Wp (bd (Mo_closes N 92 h) fun v h2 => some (v, h2)) Q := by
  refine Wp_bd2 (closesM hN x l hp) ?_
  rintro v h2 ⟨f2, g2⟩
  exact Wp_ret (k v h2 f2 g2)
def LnK (T : Nat → Int) (L p : Nat) (S : Sta) (h : PH) (v : Bool) (h2 : PH) : Prop := FrK h h2 ∧ GdM T L (hlR T L S p) v h2 ∧ (v = true → StM T L (hlS T L S p) h2)
theorem readsOneM {N w : Nat} {T : Nat → Int} {L p : Nat} {S : Sta} {h : PH} {x1 x2 x3 : Int32} (hN : 1100 ≤ N) (x : TxM T L h) (l : LexM T L p h) (hp : p ≤ L) (st : StM T L S h) (e : tWx T L p = w) (hw : w = 1 ∨ w = 4 ∨ w = 5 ∨ w = 7 ∨ w = 8 ∨ w = 9 ∨ w = 10) (e1 : x1 = iv (oK w : Nat)) (e1' : x1 = bw w) (e2 : x2 = iv (oLo w)) (e3 : x3 = iv (oHi w)) : Wp (Mo_readsOne N 92 x1 x2 x3 h) (LnK T L p S h) := by
  obtain ⟨eR, eS⟩ := hlR_pl (S := S) e (by omega)
  have pR : plR T L (sH S) w (.inr (tE T L p)) = oneR T L (oLo w) (oHi w) (.inr (tE T L p)) := by
    unfold plR
    rw [if_neg (by omega), if_neg (by omega), if_neg (by omega)]
  have pH : plH T L (sH S) w (.inr (tE T L p)) = oneH T L (oK w) (oLo w) (oHi w) (sH S) (.inr (tE T L p)) := by
    unfold plH
    rw [if_neg (by omega), if_neg (by omega), if_neg (by omega)]
  have bk : oK w < 18 ∧ oK w ≠ 15 := by
    unfold oK
    repeat' split
    all_goals omega
  have bl : 0 ≤ oLo w ∧ oLo w ≤ 1 := by unfold oLo; split <;> omega
  have bh : 0 ≤ oHi w ∧ oHi w ≤ 120 := by
    unfold oHi
    repeat' split
    all_goals omega
  unfold Mo_readsOne LnK
  refine Wp_ck (by rw [k92 x.1]) (twiceK hN x l hp st (by omega) e1' (fun h2 d f2 g2 => ?_) (fun h2 d f2 x2 l2 hp2 t2 => ?_))
  · rw [eR, if_pos d]
    exact ⟨f2, g2, fun z => by cases z⟩
  · rw [eR, if_neg d, pR, eS, pH]
    refine Wp_ck (by rw [k92 x2.1]) (numK hN x2 l2 hp2 e2 e3 (by omega) (by omega) (fun f h3 f3 en g3 g4 => ?_) (fun p3 h3 f3 x3 en l3 hp3 n3 b3 => ?_))
    · unfold oneR
      rw [en]
      exact ⟨f2.tr f3.k, ⟨rfl, g3, g4⟩, fun z => by cases z⟩
    · unfold oneR
      rw [en]
      refine Wp_ck (by rw [k92 x3.1]) (fldK (i := 18 + oK w) x3.1 (by rw [show (18 : Int32) = iv 18 from iv_lit _, e1, iv_add]; congr 1) (by omega) n3 ?_)
      have f4 : FrK h3 (wI h3 94 (18 + oK w) (iv (numZ T L (oLo w) (oHi w) (.inr (tE T L p))))) := FrK.rf.w (by omega)
      have t4 := (t2.y f3).w (v := numZ T L (oLo w) (oHi w) (.inr (tE T L p))) bk.1 bk.2
      refine closeK hN (f4.tx x3) (l3.w (by omega)) hp3 (fun v h5 f5 g5 => ⟨((f2.tr f3.k).tr f4).tr f5.k, g5, fun _ => t4.y f5⟩)
theorem readsApplesM {N : Nat} {T : Nat → Int} {L p : Nat} {S : Sta} {h : PH} (hN : 1100 ≤ N) (x : TxM T L h) (l : LexM T L p h) (hp : p ≤ L) (st : StM T L S h) (e : tWx T L p = (2 : Nat)) : Wp (Mo_readsApples N 92 h) (LnK T L p S h) := by
  obtain ⟨eR, eS⟩ := hlR_pl (S := S) e (by omega)
  have kl := K27_lits
  unfold Mo_readsApples LnK
  refine Wp_ck (by rw [k92 x.1]) (twiceK hN x l hp st (w := 2) (by omega) rfl (fun h2 d f2 g2 => ?_) (fun h2 d f2 x2 l2 hp2 t2 => ?_))
  · rw [eR, if_pos d]
    exact ⟨f2, g2, fun z => by cases z⟩
  · rw [eR, if_neg d, eS]
    show Wp _ (fun v h2 => FrK h h2 ∧ GdM T L (apR T L (.inr (tE T L p))) v h2 ∧ (v = true → StM T L (mkS (apH T L (sH S) (.inr (tE T L p))) (sC S) (sK S) (up (sD S) 2 1) (sPl S) (sE S)) h2))
    refine Wp_ck (by rw [k92 x2.1]) (numK (lo := 0) (hi := 12) hN x2 l2 hp2 il0 il12 (by omega) (by omega) (fun f h3 f3 en g3 g4 => ?_) (fun p3 h3 f3 x3 en l3 hp3 n3 b3 => ?_))
    · unfold apR
      rw [en]
      exact ⟨f2.tr f3.k, ⟨rfl, g3, g4⟩, fun z => by cases z⟩
    · unfold apR apH
      rw [en]
      refine Wp_ck (by rw [k92 x3.1]) (fldK (i := 18 + 2) x3.1 (iv_lit 20) (by omega) n3 ?_)
      have f4 : FrK h3 (wI h3 94 (18 + 2) (iv (numZ T L 0 12 (.inr (tE T L p))))) := FrK.rf.w (by omega)
      have t4 := (t2.y f3).w (k := 2) (v := numZ T L 0 12 (.inr (tE T L p))) (by omega) (by omega)
      have x4 := f4.tx x3
      have l4 : LexM T L p3 (wI h3 94 (18 + 2) (iv (numZ T L 0 12 (.inr (tE T L p))))) := l3.w (by omega)
      generalize (wI h3 94 (18 + 2) (iv (numZ T L 0 12 (.inr (tE T L p))))) = h4 at f4 t4 x4 l4 ⊢
      refine bothK (i := 13) (lo := 0) (hi := 99) hN x4 l4 hp3 (by omega) (by rw [kl.2.2.2.2.2.2.2.2.2.2.2.2.2.1]; exact jv_lit _) il0 il99 (by omega) (by omega) (fun f h5 f5 en g5 g6 => ?_) (fun p5 h5 f5 x5 en l5 hp5 n5 b5 => ?_)
      · have en2 : numP T L 0 99 (keyR T L 13 (.inr p3)) = .inl f := en
        rw [en2]
        exact ⟨((f2.tr f3.k).tr f4).tr f5.k, ⟨rfl, g5, g6⟩, fun z => by cases z⟩
      · have en2 : numP T L 0 99 (keyR T L 13 (.inr p3)) = .inr p5 := en
        rw [en2]
        refine Wp_ck (by rw [k92 x5.1]) (fldK (i := 18 + 3) x5.1 (iv_lit 21) (by omega) n5 ?_)
        have f6 : FrK h5 (wI h5 94 (18 + 3) (iv (numZ T L 0 99 (keyR T L (13 : Nat) (.inr p3))))) := FrK.rf.w (by omega)
        have t6 := (t4.y f5).w (k := 3) (v := numZ T L 0 99 (keyR T L (13 : Nat) (.inr p3))) (by omega) (by omega)
        exact closeK hN (f6.tx x5) (l5.w (by omega)) hp5 (fun v h7 f7 g7 => ⟨((((f2.tr f3.k).tr f4).tr f5.k).tr f6).tr f7.k, g7, fun _ => t6.y f7⟩)
theorem readsEggsM {N : Nat} {T : Nat → Int} {L p : Nat} {S : Sta} {h : PH} (hN : 1100 ≤ N) (x : TxM T L h) (l : LexM T L p h) (hp : p ≤ L) (st : StM T L S h) (h0 : 1 ≤ sH S 0 ∧ sH S 0 ≤ 24) (e : tWx T L p = (6 : Nat)) : Wp (Mo_readsEggs N 92 h) (LnK T L p S h) := by
  obtain ⟨eR, eS⟩ := hlR_pl (S := S) e (by omega)
  have kl := K27_lits
  unfold Mo_readsEggs LnK
  refine Wp_ck (by rw [k92 x.1]) (twiceK hN x l hp st (w := 6) (by omega) rfl (fun h2 d f2 g2 => ?_) (fun h2 d f2 x2 l2 hp2 t2 => ?_))
  · rw [eR, if_pos d]
    exact ⟨f2, g2, fun z => by cases z⟩
  · rw [eR, if_neg d, eS]
    show Wp _ (fun v h2 => FrK h h2 ∧ GdM T L (egR T L (sH S 0) (.inr (tE T L p))) v h2 ∧ (v = true → StM T L (mkS (egH T L (sH S) (.inr (tE T L p))) (sC S) (sK S) (up (sD S) 6 1) (sPl S) (sE S)) h2))
    refine Wp_ck (by rw [k92 x2.1]) (numK (lo := 0) (hi := 99) hN x2 l2 hp2 il0 il99 (by omega) (by omega) (fun f h3 f3 en g3 g4 => ?_) (fun p3 h3 f3 x3 en l3 hp3 n3 b3 => ?_))
    · unfold egR
      rw [en]
      exact ⟨f2.tr f3.k, ⟨rfl, g3, g4⟩, fun z => by cases z⟩
    · unfold egR egH
      rw [en]
      refine Wp_ck (by rw [k92 x3.1]) (fldK (i := 18 + 9) x3.1 (iv_lit 27) (by omega) n3 ?_)
      have f4 : FrK h3 (wI h3 94 (18 + 9) (iv (numZ T L 0 99 (.inr (tE T L p))))) := FrK.rf.w (by omega)
      have t4 := (t2.y f3).w (k := 9) (v := numZ T L 0 99 (.inr (tE T L p))) (by omega) (by omega)
      have x4 := f4.tx x3
      have l4 : LexM T L p3 (wI h3 94 (18 + 9) (iv (numZ T L 0 99 (.inr (tE T L p))))) := l3.w (by omega)
      generalize (wI h3 94 (18 + 9) (iv (numZ T L 0 99 (.inr (tE T L p))))) = h4 at f4 t4 x4 l4 ⊢
      have e0 : hI h4 94 18 = iv (sH S 0) := t4.1 0 (by omega)
      refine Wp_bn (p92_10 x4.1) (Wp_ck (by rw [k94 x4.1]) (Wp_ck (by rw [k94 x4.1]; decide) ?_))
      rw [show ix 18 = 18 from rfl, e0]
      refine bothK (i := 14) (lo := 0) (hi := sH S 0 - 1) hN x4 l4 hp3 (by omega) (by rw [kl.2.2.2.2.2.2.2.2.2.2.2.2.2.2.1]; exact jv_lit _) il0 (by rw [il1, iv_sub]) (by omega) (by omega) (fun f h5 f5 en g5 g6 => ?_) (fun p5 h5 f5 x5 en l5 hp5 n5 b5 => ?_)
      · have en2 : numP T L 0 (sH S 0 - 1) (keyR T L 14 (.inr p3)) = .inl f := en
        rw [en2]
        exact ⟨((f2.tr f3.k).tr f4).tr f5.k, ⟨rfl, g5, g6⟩, fun z => by cases z⟩
      · have en2 : numP T L 0 (sH S 0 - 1) (keyR T L 14 (.inr p3)) = .inr p5 := en
        rw [en2]
        refine Wp_ck (by rw [k92 x5.1]) (fldK (i := 18 + 10) x5.1 (iv_lit 28) (by omega) n5 ?_)
        have f6 : FrK h5 (wI h5 94 (18 + 10) (iv (numZ T L 0 (sH S 0 - 1) (keyR T L (14 : Nat) (.inr p3))))) := FrK.rf.w (by omega)
        have t6 := (t4.y f5).w (k := 10) (v := numZ T L 0 (sH S 0 - 1) (keyR T L (14 : Nat) (.inr p3))) (by omega) (by omega)
        have x6 := f6.tx x5
        have l6 : LexM T L p5 (wI h5 94 (18 + 10) (iv (numZ T L 0 (sH S 0 - 1) (keyR T L (14 : Nat) (.inr p3))))) := l5.w (by omega)
        generalize (wI h5 94 (18 + 10) (iv (numZ T L 0 (sH S 0 - 1) (keyR T L (14 : Nat) (.inr p3))))) = h6 at f6 t6 x6 l6 ⊢
        refine Wp_bn (p92_10 x6.1) (Wp_ck (by rw [k94 x6.1]) (Wp_ck (by rw [k94 x6.1]; decide) (Wp_lt ?_)))
        rw [show ix 34 = 18 + 16 from rfl, il1]
        have f8 : FrK h6 (wI h6 94 (18 + 16) (iv 1)) := FrK.rf.w (by omega)
        have t8 := t6.w (k := 16) (v := 1) (by omega) (by omega)
        exact closeK hN (f8.tx x6) (l6.w (by omega)) hp5 (fun v h9 f9 g9 => ⟨(((((f2.tr f3.k).tr f4).tr f5.k).tr f6).tr f8).tr f9.k, g9, fun _ => t8.y f9⟩)
theorem readsWorthsM {N : Nat} {T : Nat → Int} {L p : Nat} {S : Sta} {h : PH} (hN : 1100 ≤ N) (x : TxM T L h) (l : LexM T L p h) (hp : p ≤ L) (st : StM T L S h) (e : tWx T L p = (3 : Nat)) : Wp (Mo_readsWorths N 92 h) (LnK T L p S h) := by
  obtain ⟨eR, eS⟩ := hlR_pl (S := S) e (by omega)
  unfold Mo_readsWorths LnK
  refine Wp_ck (by rw [k92 x.1]) (twiceK hN x l hp st (w := 3) (by omega) rfl (fun h2 d f2 g2 => ?_) (fun h2 d f2 x2 l2 hp2 t2 => ?_))
  · rw [eR, if_pos d]
    exact ⟨f2, g2, fun z => by cases z⟩
  · rw [eR, if_neg d, eS]
    have key : ∀ fuel, 4 ≤ fuel → Wp (Mo_readsWorths_b20 N fuel 92 0 h2) (fun v h2 => FrK h h2 ∧ GdM T L (woR T L (.inr (tE T L p))) v h2 ∧ (v = true → StM T L (mkS (woH T L (sH S) (.inr (tE T L p))) (sC S) (sK S) (up (sD S) 3 1) (sPl S) (sE S)) h2)) := by
      intro fuel hf
      obtain ⟨g, rfl⟩ : ∃ g, fuel = (((g + 1) + 1) + 1) + 1 := ⟨fuel - 4, by omega⟩
      rw [Mo_readsWorths_b20]
      refine Wp_ifn (by decide) (Wp_ifp rfl ?_)
      unfold Mo_readsWorths_b47
      refine Wp_ck (by rw [k92 x2.1]) (numK (lo := 0) (hi := 99) hN x2 l2 hp2 il0 il99 (by omega) (by omega) (fun f h3 f3 en g3 g4 => ?_) (fun p3 h3 f3 x3 en l3 hp3 n3 b3 => ?_))
      · unfold woR
        rw [en]
        exact ⟨f2.tr f3.k, ⟨rfl, g3, g4⟩, fun z => by cases z⟩
      · have b1 : 0 ≤ wo1 T L (.inr (tE T L p)) ∧ wo1 T L (.inr (tE T L p)) ≤ 99 := b3
        refine Wp_ck (by rw [k92 x3.1]) (fldK (i := 18 + 4) x3.1 (by decide) (by omega) n3 ?_)
        have f4 : FrK h3 (wI h3 94 (18 + 4) (iv (numZ T L 0 99 (.inr (tE T L p))))) := FrK.rf.w (by omega)
        have t4 := (t2.y f3).w (k := 4) (v := numZ T L 0 99 (.inr (tE T L p))) (by omega) (by omega)
        have x4 := f4.tx x3
        have l4 : LexM T L p3 (wI h3 94 (18 + 4) (iv (numZ T L 0 99 (.inr (tE T L p))))) := l3.w (by omega)
        generalize (wI h3 94 (18 + 4) (iv (numZ T L 0 99 (.inr (tE T L p))))) = h4 at f4 t4 x4 l4 ⊢
        rw [Mo_readsWorths_b20]
        refine Wp_ifn (by decide) (Wp_ifn (by decide) (Wp_ck (by rw [k92 x4.1]) (Wp_bn (p92_10 x4.1) (Wp_ck (by rw [k94 x4.1]) (Wp_ck (by rw [k94 x4.1]; decide) ?_)))))
        have e4 : hI h4 94 (ix ((22 + (0 + 1)) - 1)) = iv (wo1 T L (.inr (tE T L p))) := t4.1 4 (by omega)
        rw [e4]
        unfold Mo_readsWorths_b47
        refine Wp_ck (by rw [k92 x4.1]) (numK (lo := 0) (hi := wo1 T L (.inr (tE T L p))) hN x4 l4 hp3 il0 rfl (by omega) (by omega) (fun f h5 f5 en2 g3 g4 => ?_) (fun p5 h5 f5 x5 en2 l5 hp5 n5 b5 => ?_))
        · unfold woR
          rw [en, en2]
          exact ⟨((f2.tr f3.k).tr f4).tr f5.k, ⟨rfl, g3, g4⟩, fun z => by cases z⟩
        · have z2 : numZ T L 0 (wo1 T L (.inr (tE T L p))) (.inr p3) = wo2 T L (.inr (tE T L p)) := by unfold wo2; rw [en]
          rw [z2] at n5 b5
          refine Wp_ck (by rw [k92 x5.1]) (fldK (i := 18 + 5) x5.1 (by decide) (by omega) n5 ?_)
          have f6 : FrK h5 (wI h5 94 (18 + 5) (iv (wo2 T L (.inr (tE T L p))))) := FrK.rf.w (by omega)
          have t6 := (t4.y f5).w (k := 5) (v := wo2 T L (.inr (tE T L p))) (by omega) (by omega)
          have x6 := f6.tx x5
          have l6 : LexM T L p5 (wI h5 94 (18 + 5) (iv (wo2 T L (.inr (tE T L p))))) := l5.w (by omega)
          generalize (wI h5 94 (18 + 5) (iv (wo2 T L (.inr (tE T L p))))) = h6 at f6 t6 x6 l6 ⊢
          rw [Mo_readsWorths_b20]
          refine Wp_ifn (by decide) (Wp_ifn (by decide) (Wp_ck (by rw [k92 x6.1]) (Wp_bn (p92_10 x6.1) (Wp_ck (by rw [k94 x6.1]) (Wp_ck (by rw [k94 x6.1]; decide) ?_)))))
          have e6 : hI h6 94 (ix ((22 + (0 + 1 + 1)) - 1)) = iv (wo2 T L (.inr (tE T L p))) := t6.1 5 (by omega)
          rw [e6]
          unfold Mo_readsWorths_b47
          refine Wp_ck (by rw [k92 x6.1]) (numK (lo := 0) (hi := wo2 T L (.inr (tE T L p))) hN x6 l6 hp5 il0 rfl (by omega) (by omega) (fun f h7 f7 en3 g3 g4 => ?_) (fun p7 h7 f7 x7 en3 l7 hp7 n7 b7 => ?_))
          · unfold woR
            rw [en, en2, en3]
            exact ⟨((((f2.tr f3.k).tr f4).tr f5.k).tr f6).tr f7.k, ⟨rfl, g3, g4⟩, fun z => by cases z⟩
          · have z3 : numZ T L 0 (wo2 T L (.inr (tE T L p))) (.inr p5) = wo3 T L (.inr (tE T L p)) := by unfold wo3; rw [en, en2]
            rw [z3] at n7 b7
            refine Wp_ck (by rw [k92 x7.1]) (fldK (i := 18 + 6) x7.1 (by decide) (by omega) n7 ?_)
            have f8 : FrK h7 (wI h7 94 (18 + 6) (iv (wo3 T L (.inr (tE T L p))))) := FrK.rf.w (by omega)
            have t8 := (t6.y f7).w (k := 6) (v := wo3 T L (.inr (tE T L p))) (by omega) (by omega)
            have x8 := f8.tx x7
            have l8 : LexM T L p7 (wI h7 94 (18 + 6) (iv (wo3 T L (.inr (tE T L p))))) := l7.w (by omega)
            generalize (wI h7 94 (18 + 6) (iv (wo3 T L (.inr (tE T L p))))) = h8 at f8 t8 x8 l8 ⊢
            rw [Mo_readsWorths_b20]
            refine Wp_ifp (by decide) (Wp_ck (by rw [k92 x8.1]) (closeK hN x8 l8 hp7 (fun v h9 f9 g9 => ⟨((((((f2.tr f3.k).tr f4).tr f5.k).tr f6).tr f7.k).tr f8).tr f9.k, ?_, fun _ => t8.y f9⟩)))
            unfold woR
            rw [en, en2, en3]
            exact g9
    exact key N (by omega)
