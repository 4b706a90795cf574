/-! THE PURE PROOFS, 52: the reference reads what and, or join. -/
theorem off5 {N d fu p : Nat} {T : Nat → Int} {L : Nat} {h : PH} {Q : Bool → PH → Prop} (x : TxM T L h) (l : LexM T L p h) (n1 : tKd T L p ≠ 43) (n2 : tKd T L p ≠ 45) (n3 : tKd T L p ≠ 42) (n4 : tKd T L p ≠ 60) (n5 : tKd T L p ≠ 61) (k : Wp (Mo_reads_b304 N (Mo_reads_b11 N fu) 92 (iv d) 0 h) Q) : Wp (Mo_reads_b11 N (fu + 1) 92 (iv d) 0 h) Q := by
  have s := x.1
  rw [Mo_reads_b11, show (43 : Int32) = iv 43 from iv_lit _, show (45 : Int32) = iv 45 from iv_lit _, show (42 : Int32) = iv 42 from iv_lit _, show (60 : Int32) = iv 60 from iv_lit _, show (61 : Int32) = iv 61 from iv_lit _]
  exact Wp_ifp rfl (Wp_ck (by rw [k92 s]) (Wp_bde (sgnOff x l 43 (by omega) n1) (Wp_ifp rfl (Wp_ck (by rw [k92 s]) (Wp_bde (sgnOff x l 45 (by omega) n2) (Wp_ifp rfl (Wp_ck (by rw [k92 s]) (Wp_bde (sgnOff x l 42 (by omega) n3) (Wp_ifp rfl (Wp_ck (by rw [k92 s]) (Wp_bde (sgnOff x l 60 (by omega) n4) (Wp_ifp rfl (Wp_ck (by rw [k92 s]) (Wp_bde (sgnOff x l 61 (by omega) n5) (Wp_ifp rfl k)))))))))))))))
theorem bthOnM {N d fu p : Nat} {T : Nat → Int} {L : Nat} {cs : List Int} {h : PH} {Q : Bool → PH → Prop} (hN : 1100 ≤ N) (x : TxM T L h) (l : LexM T L p h) (hp : p ≤ L) (cd : CdM cs h) (hc : cs.length < 1000) (hd : d < 7) (sg : tWx T L p = 21 ∨ tWx T L p = 22) (k : ∀ h2, FrN h h2 → LexM T L (tE T L p) h2 → CdM (cs ++ [if tWx T L p = 21 then 26 else 27]) h2 → hI h2 101 = hI h 101 → hZ h2 102 d = false → (∀ i, i < d → hZ h2 102 i = hZ h 102 i) → Wp (Mo_reads_b11 N fu 92 (iv d) 1 h2) Q) : Wp (Mo_reads_b11 N (fu + 1) 92 (iv d) 0 h) Q := by
  have s := x.1
  have k2 := tWx_kd (T := T) (L := L) (p := p) (by omega)
  have kl := K27_lits
  have w21 : Mo_isWord N 92 1111 h = some (decide (tWx T L p = (21 : Nat)), h) := isWordM (i := 21) x l (by omega) (by rw [kl.2.2.2.2.2.2.2.2.2.2.2.2.2.2.2.2.2.2.2.2.2.1]; exact jv_lit _)
  have w22 : Mo_isWord N 92 423 h = some (decide (tWx T L p = (22 : Nat)), h) := isWordM (i := 22) x l (by omega) (by rw [kl.2.2.2.2.2.2.2.2.2.2.2.2.2.2.2.2.2.2.2.2.2.2.1]; exact jv_lit _)
  have b342 : ∀ v : Int, v = (if tWx T L p = 21 then 26 else 27) → Wp (Mo_reads_b342 N (Mo_reads_b11 N fu) 92 (iv v) 92 (iv d) h) Q := by
    rintro v ev
    unfold Mo_reads_b342
    refine Wp_ck (by rw [k92 s]) (Wp_bd2 (putsM s l cd hc) ?_)
    rintro - h1 ⟨f1, l1, c1, e1, z1⟩
    have s1 := (f1.tx x).1
    refine Wp_ck (by rw [k92 s1]) (Wp_bn (p92_20 s1) (Wp_ck (by rw [k102 s1]) (Wp_ck (by rw [k102 s1]; exact inb_iv (by omega) (by omega) (by omega)) (Wp_lt ?_))))
    rw [ix_nat (by omega)]
    have f3 : FrN h (wZ h1 102 d (tb 0)) := f1.tr ⟨FrS.rf.tr ⟨rfl, rfl, rfl, fun b hb => ⟨rfl, rfl, u2_ne (fun e => hb (Or.inr (Or.inr (Or.inr e))))⟩⟩, fun a ha => u2_ne ha, fun _ _ _ _ _ _ _ _ => rfl, fun _ _ => rfl, fun _ _ => rfl⟩
    have l3 : LexM T L p (wZ h1 102 d (tb 0)) := l1
    have c3 : CdM (cs ++ [v]) (wZ h1 102 d (tb 0)) := c1
    refine (onM (d := d) (x2 := 1) hN (f3.tx x) l3 hp ?_).2
    intro h2 f2 l2 e2 _
    refine k h2 (f3.tr f2.n) l2 (by rw [← ev]; exact c3.y f2) (e2.trans e1) ?_ (fun i hi => ?_)
    · rw [f2.2.1, hZ_wZ, if_pos ⟨rfl, rfl⟩]; rfl
    · rw [f2.2.1, hZ_wZ, if_neg (by omega), z1]
  have b324 : Wp (Mo_reads_b324 N (Mo_reads_b11 N fu) 92 (iv d) h) Q := by
    unfold Mo_reads_b324
    refine Wp_ck (by rw [k92 s]) (Wp_bde w21 ?_)
    by_cases c : tWx T L p = (21 : Nat)
    · rw [decide_eq_true c]
      exact Wp_ifn (by decide) (b342 26 (by rw [if_pos (show tWx T L p = 21 from c)]))
    · rw [decide_eq_false c]
      exact Wp_ifp rfl (b342 27 (by rw [if_neg (show ¬ tWx T L p = 21 from c)]))
  refine off5 x l (by omega) (by omega) (by omega) (by omega) (by omega) ?_
  unfold Mo_reads_b304
  refine Wp_ck (by rw [k92 s]) (Wp_bde w21 ?_)
  by_cases c : tWx T L p = (21 : Nat)
  · rw [decide_eq_true c]
    exact Wp_ifn (by decide) b324
  · rw [decide_eq_false c]
    refine Wp_ifp rfl (Wp_ck (by rw [k92 s]) (Wp_bde w22 ?_))
    rw [decide_eq_true (show tWx T L p = (22 : Nat) by omega)]
    exact Wp_ifn (by decide) b324
theorem exOrR {N : Nat} {T : Nat → Int} {L n d : Nat} (hN : 1100 ≤ N) (hd : d < 7) (ok : RLv N T L 3 d (tsR T L (ptR T L n) d)) : RLv N T L 4 d (orR T L (ptR T L n) d) := by
  intro p fuel h cs c Q x l hp cd hs hf nn nz kf kg
  have hL := x.2.1
  have key : ∀ (m p1 fuel1 : Nat) (e1 : Ex) (h1 : PH), L ≤ p1 + m → FrN h h1 → LexM T L p1 h1 → p1 ≤ L → CdM (cs ++ infx e1) h1 → (cs ++ infx e1).length + c ≤ p1 → L + 2 ≤ fuel1 + p1 → (tKd T L p1 ≠ 42 ∧ tKd T L p1 ≠ 43 ∧ tKd T L p1 ≠ 45) → (tKd T L p1 = 60 ∨ tKd T L p1 = 61 → hZ h1 102 d = true) → (∀ i, i ≤ d → hI h1 101 i = hI h 101 i) → (∀ i, i < d → hZ h1 102 i = hZ h 102 i) → (∀ r, orL T L (ptR T L n) d m p1 e1 = r → orR T L (ptR T L n) d p = r) → Wp (Mo_reads_b11 N fuel1 92 (iv d) 0 h1) Q := by
    intro m
    induction m with
    | zero =>
      intro p1 fuel1 e1 h1 hm f1 l1 hp1 c1 hs1 hf1 n42 n60 kp kz er
      have k3 : tKd T L p1 = 3 := by
        have := (tB_le (T := T) hp1).1
        unfold tKd
        rw [if_pos (by omega)]
      have w3 : tWx T L p1 = -1 := by unfold tWx; rw [if_neg (by omega)]
      exact kg p1 e1 (er _ rfl) h1 fuel1 f1 l1 hp1 c1 hs1 hf1 ⟨n42.1, fun z => n42.2, fun z => n60, fun z => by omega⟩ kp kz (fun z => by omega)
    | succ m ih =>
      intro p1 fuel1 e1 h1 hm f1 l1 hp1 c1 hs1 hf1 n42 n60 kp kz er
      have x1 := f1.tx x
      by_cases k42 : tWx T L p1 = 21 ∨ tWx T L p1 = 22
      · obtain ⟨fu, rfl⟩ : ∃ g, fuel1 = g + 1 := ⟨fuel1 - 1, by omega⟩
        have k2 := tWx_kd (T := T) (L := L) (p := p1) (by omega)
        have tg := tE_gt (T := T) (L := L) (p := p1) (by omega) hp1
        have te := tE_le (T := T) hp1
        refine bthOnM hN x1 l1 hp1 c1 (by omega) hd k42 ?_
        intro h2 f2 l2 c2 e2 t2 kz2
        have ec : (if tWx T L p1 = 21 then 26 else 27) = kc (if tWx T L p1 = 21 then -7 else -8) := by
          by_cases z : tWx T L p1 = 21
          · rw [if_pos z, if_pos z]; rfl
          · rw [if_neg z, if_neg z]; rfl
        rw [ec] at c2
        generalize ek : (if tWx T L p1 = 21 then (-7 : Int) else -8) = k at c2
        have hcs : (cs ++ infx e1 ++ [kc k]).length + c ≤ tE T L p1 := by rw [List.length_append, List.length_singleton]; omega
        refine ok _ fu h2 _ (tE T L p1 - (cs ++ infx e1 ++ [kc k]).length) Q (f2.tx x1) l2 te c2 (by omega) (by omega) (nn_on nn (by rw [e2]; exact kp d (by omega))) (fun _ => t2) ?_ ?_
        · intro f ef h3 f3 w3 fb
          refine kf f (er _ ?_) h3 ((f1.tr f2).tr f3) w3 fb
          rw [orL, if_pos k42, ef]
          rfl
        · intro p2 e3 ee h3 fuel3 f3 l3 hp3 c3 hs3 hf3 ps3 kp3 kz3 kd3
          have ea : cs ++ infx (xop k e1 e3) = cs ++ infx e1 ++ [kc k] ++ infx e3 := by
            show cs ++ (infx e1 ++ kc k :: infx e3) = _
            simp
          have hs4 := hs3
          rw [List.length_append] at hs4
          refine ih p2 fuel3 (xop k e1 e3) h3 (by omega) ((f1.tr f2).tr f3) l3 hp3 (by rw [ea]; exact c3) (by rw [ea]; omega) hf3 ⟨ps3.1, ps3.2.1 (by omega)⟩ (ps3.2.2.1 (by omega)) (fun i hi => by rw [kp3 i hi, e2, kp i hi]) (fun i hi => by rw [kz3 i hi, kz2 i hi, kz i hi]) (fun r hr => er r ?_)
          rw [orL, if_pos k42, ee, ek]
          exact hr
      · exact kg p1 e1 (er _ (by rw [orL, if_neg k42])) h1 fuel1 f1 l1 hp1 c1 hs1 hf1 ⟨n42.1, fun _ => n42.2, fun _ => n60, fun _ => ⟨fun z => k42 (Or.inl z), fun z => k42 (Or.inr z)⟩⟩ kp kz (fun z => by omega)
  refine ok p fuel h cs c Q x l hp cd hs hf nn (fun _ => nz (by omega)) ?_ ?_
  · intro f ef h2 f2 w2 fb
    exact kf f (by unfold orR; rw [ef]; rfl) h2 f2 w2 fb
  · intro p2 e ee h2 fuel2 f2 l2 hp2 c2 hs2 hf2 ps2 kp2 kz2 kd2
    exact key 1000 p2 fuel2 e h2 (by omega) f2 l2 hp2 c2 hs2 hf2 ⟨ps2.1, ps2.2.1 (by omega)⟩ (ps2.2.2.1 (by omega)) kp2 kz2 (fun r hr => by unfold orR; rw [ee]; exact hr)
