/-! THE PURE PROOFS, 51: the reference reads tests. -/
/-- < or = where none stood yet -/
theorem cmpOnM {N d fu p : Nat} {T : Nat → Int} {L : Nat} {cs : List Int} {h : PH} {Q : Bool → PH → Prop} (hN : 1100 ≤ N) (x : TxM T L h) (l : LexM T L p h) (hp : p ≤ L) (cd : CdM cs h) (hc : cs.length < 1000) (hd : d < 7) (sg : tKd T L p = 60 ∨ tKd T L p = 61) (nz : hZ h 102 d = false) (k : ∀ h2, FrN h h2 → LexM T L (tE T L p) h2 → CdM (cs ++ [if tKd T L p = 60 then 24 else 25]) h2 → hI h2 101 = hI h 101 → hZ h2 102 d = true → (∀ i, i < d → hZ h2 102 i = hZ h 102 i) → Wp (Mo_reads_b11 N fu 92 (iv d) 1 h2) Q) : Wp (Mo_reads_b11 N (fu + 1) 92 (iv d) 0 h) Q := by
  have s := x.1
  have b289 : ∀ v : Int, v = (if tKd T L p = 60 then 24 else 25) → Wp (Mo_reads_b289 N (Mo_reads_b11 N fu) 92 (iv v) 92 (iv d) h) Q := by
    rintro v ev
    unfold Mo_reads_b289
    refine Wp_ck (by rw [k92 s]) (Wp_bd2 (putsM s l cd hc) ?_)
    rintro - h1 ⟨f1, l1, c1, e1, z1⟩
    have s1 := (f1.tx x).1
    refine Wp_ck (by rw [k92 s1]) (Wp_bn (p92_20 s1) (Wp_ck (by rw [k102 s1]) (Wp_ck (by rw [k102 s1]; exact inb_iv (by omega) (by omega) (by omega)) (Wp_lt ?_))))
    rw [ix_nat (by omega)]
    have f3 : FrN h (wZ h1 102 d (tb 1)) := f1.tr ⟨FrS.rf.tr ⟨rfl, rfl, rfl, fun b hb => ⟨rfl, rfl, u2_ne (fun e => hb (Or.inr (Or.inr (Or.inr e))))⟩⟩, fun a ha => u2_ne ha, fun _ _ _ _ _ _ _ _ => rfl, fun _ _ => rfl, fun _ _ => rfl⟩
    have l3 : LexM T L p (wZ h1 102 d (tb 1)) := l1
    have c3 : CdM (cs ++ [v]) (wZ h1 102 d (tb 1)) := c1
    refine (onM (d := d) (x2 := 1) hN (f3.tx x) l3 hp ?_).2
    intro h2 f2 l2 e2 _
    refine k h2 (f3.tr f2.n) l2 (by rw [← ev]; exact c3.y f2) (e2.trans e1) ?_ (fun i hi => ?_)
    · rw [f2.2.1, hZ_wZ, if_pos ⟨rfl, rfl⟩]; rfl
    · rw [f2.2.1, hZ_wZ, if_neg (by omega), z1]
  have b263 : Wp (Mo_reads_b263 N (Mo_reads_b11 N fu) 92 (iv d) 0 h) Q := by
    unfold Mo_reads_b263
    refine Wp_ck (by rw [k92 s]) (Wp_bn (p92_20 s) (Wp_ck (by rw [k102 s]) (Wp_ck (by rw [k102 s]; exact inb_iv (by omega) (by omega) (by omega)) ?_)))
    rw [ix_nat (by omega), nz, show (60 : Int32) = iv 60 from iv_lit _]
    refine Wp_ifp rfl ?_
    by_cases c60 : tKd T L p = 60
    · exact Wp_bde (sgnOn x l 60 (by omega) c60) (Wp_ifn (by decide) (b289 24 (by rw [if_pos c60])))
    · exact Wp_bde (sgnOff x l 60 (by omega) c60) (Wp_ifp rfl (b289 25 (by rw [if_neg c60])))
  rw [Mo_reads_b11, show (43 : Int32) = iv 43 from iv_lit _, show (45 : Int32) = iv 45 from iv_lit _, show (42 : Int32) = iv 42 from iv_lit _, show (60 : Int32) = iv 60 from iv_lit _, show (61 : Int32) = iv 61 from iv_lit _]
  refine Wp_ifp rfl (Wp_ck (by rw [k92 s]) (Wp_bde (sgnOff x l 43 (by omega) (by omega)) (Wp_ifp rfl (Wp_ck (by rw [k92 s]) (Wp_bde (sgnOff x l 45 (by omega) (by omega)) (Wp_ifp rfl (Wp_ck (by rw [k92 s]) (Wp_bde (sgnOff x l 42 (by omega) (by omega)) (Wp_ifp rfl (Wp_ck (by rw [k92 s]) ?_))))))))))
  by_cases c60 : tKd T L p = 60
  · exact Wp_bde (sgnOn x l 60 (by omega) c60) (Wp_ifn (by decide) b263)
  refine Wp_bde (sgnOff x l 60 (by omega) c60) (Wp_ifp rfl (Wp_ck (by rw [k92 s]) ?_))
  exact Wp_bde (sgnOn x l 61 (by omega) (by omega)) (Wp_ifn (by decide) b263)
theorem exTestR {N : Nat} {T : Nat → Int} {L n d : Nat} (hN : 1100 ≤ N) (hd : d < 7) (ok : RLv N T L 2 d (smR T L (ptR T L n) d)) : RLv N T L 3 d (tsR T L (ptR T L n) d) := by
  intro p fuel h cs c Q x l hp cd hs hf nn nz kf kg
  have hL := x.2.1
  refine ok p fuel h cs c Q x l hp cd hs hf nn (fun z => by omega) ?_ ?_
  · intro f ef h2 f2 w2 fb
    exact kf f (by unfold tsR; rw [ef]; rfl) h2 f2 w2 fb
  · intro p1 e1 ee h1 fuel1 f1 l1 hp1 c1 hs1 hf1 ps1 kp1 kz1 kd1
    have x1 := f1.tx x
    have z1 : hZ h1 102 d = false := (kd1 (by omega)).trans (nz (by omega))
    by_cases k60 : tKd T L p1 = 60 ∨ tKd T L p1 = 61
    · obtain ⟨fu, rfl⟩ : ∃ g, fuel1 = g + 1 := ⟨fuel1 - 1, by omega⟩
      have tg := tE_gt (T := T) (L := L) (p := p1) (by omega) hp1
      have te := tE_le (T := T) hp1
      refine cmpOnM hN x1 l1 hp1 c1 (by omega) hd k60 z1 ?_
      intro h2 f2 l2 c2 e2 t2 kz2
      have ec : (if tKd T L p1 = 60 then 24 else 25) = kc (if tKd T L p1 = 60 then -9 else -10) := by
        by_cases z : tKd T L p1 = 60
        · rw [if_pos z, if_pos z]; rfl
        · rw [if_neg z, if_neg z]; rfl
      rw [ec] at c2
      generalize ek : (if tKd T L p1 = 60 then (-9 : Int) else -10) = k at c2
      have hcs : (cs ++ infx e1 ++ [kc k]).length + c ≤ tE T L p1 := by rw [List.length_append, List.length_singleton]; omega
      refine ok _ fu h2 _ c Q (f2.tx x1) l2 te c2 hcs (by omega) (nn_on nn (by rw [e2]; exact kp1 d (by omega))) (fun z => by omega) ?_ ?_
      · intro f ef h3 f3 w3 fb
        refine kf f ?_ h3 ((f1.tr f2).tr f3) w3 fb
        unfold tsR
        rw [ee]
        show (if tKd T L p1 = 60 ∨ tKd T L p1 = 61 then _ else _) = _
        rw [if_pos k60, ef]
        rfl
      · intro p2 e3 ee3 h3 fuel3 f3 l3 hp3 c3 hs3 hf3 ps3 kp3 kz3 kd3
        have ea : cs ++ infx (xop k e1 e3) = cs ++ infx e1 ++ [kc k] ++ infx e3 := by
          show cs ++ (infx e1 ++ kc k :: infx e3) = _
          simp
        refine kg p2 (xop k e1 e3) ?_ h3 fuel3 ((f1.tr f2).tr f3) l3 hp3 (by rw [ea]; exact c3) (by rw [ea]; exact hs3) hf3 ⟨ps3.1, fun _ => ps3.2.1 (by omega), fun _ _ => (kd3 (by omega)).trans t2, fun z => by omega⟩ (fun i hi => by rw [kp3 i hi, e2, kp1 i hi]) (fun i hi => by rw [kz3 i hi, kz2 i hi, kz1 i hi]) (fun z => by omega)
        unfold tsR
        rw [ee]
        show (if tKd T L p1 = 60 ∨ tKd T L p1 = 61 then _ else _) = _
        rw [if_pos k60, ee3, ek]
        rfl
    · refine kg p1 e1 ?_ h1 fuel1 f1 l1 hp1 c1 hs1 hf1 ⟨ps1.1, fun _ => ps1.2.1 (by omega), fun _ z => absurd z k60, fun z => by omega⟩ kp1 kz1 (fun z => by omega)
      unfold tsR
      rw [ee]
      show (if tKd T L p1 = 60 ∨ tKd T L p1 = 61 then _ else _) = _
      rw [if_neg k60]
