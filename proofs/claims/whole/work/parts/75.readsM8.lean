/-! THE PURE PROOFS, 53: the reference reads how much a guest gets, brackets and all. -/
theorem to304 {N d fu p : Nat} {T : Nat → Int} {L : Nat} {h : PH} {Q : Bool → PH → Prop} (x : TxM T L h) (l : LexM T L p h) (hd : d < 7) (n42 : tKd T L p ≠ 42) (n43 : tKd T L p ≠ 43 ∧ tKd T L p ≠ 45) (n60 : tKd T L p = 60 ∨ tKd T L p = 61 → hZ h 102 d = true) (k : Wp (Mo_reads_b304 N (Mo_reads_b11 N fu) 92 (iv d) 0 h) Q) : Wp (Mo_reads_b11 N (fu + 1) 92 (iv d) 0 h) Q := by
  have s := x.1
  by_cases c : tKd T L p = 60 ∨ tKd T L p = 61
  · have b263 : Wp (Mo_reads_b263 N (Mo_reads_b11 N fu) 92 (iv d) 0 h) Q := by
      unfold Mo_reads_b263
      refine Wp_ck (by rw [k92 s]) (Wp_bn (p92_20 s) (Wp_ck (by rw [k102 s]) (Wp_ck (by rw [k102 s]; exact inb_iv (by omega) (by omega) (by omega)) ?_)))
      rw [ix_nat (by omega), n60 c]
      exact Wp_ifn (by decide) k
    rw [Mo_reads_b11, show (43 : Int32) = iv 43 from iv_lit _, show (45 : Int32) = iv 45 from iv_lit _, show (42 : Int32) = iv 42 from iv_lit _, show (60 : Int32) = iv 60 from iv_lit _, show (61 : Int32) = iv 61 from iv_lit _]
    refine Wp_ifp rfl (Wp_ck (by rw [k92 s]) (Wp_bde (sgnOff x l 43 (by omega) (by omega)) (Wp_ifp rfl (Wp_ck (by rw [k92 s]) (Wp_bde (sgnOff x l 45 (by omega) (by omega)) (Wp_ifp rfl (Wp_ck (by rw [k92 s]) (Wp_bde (sgnOff x l 42 (by omega) (by omega)) (Wp_ifp rfl (Wp_ck (by rw [k92 s]) ?_))))))))))
    by_cases c60 : tKd T L p = 60
    · exact Wp_bde (sgnOn x l 60 (by omega) c60) (Wp_ifn (by decide) b263)
    refine Wp_bde (sgnOff x l 60 (by omega) c60) (Wp_ifp rfl (Wp_ck (by rw [k92 s]) ?_))
    exact Wp_bde (sgnOn x l 61 (by omega) (by omega)) (Wp_ifn (by decide) b263)
  · exact off5 x l n43.1 n43.2 n42 (fun z => c (Or.inl z)) (fun z => c (Or.inr z)) k
/-- what stands behind all, neither and nor or -/
theorem b304M {N d fu p : Nat} {T : Nat → Int} {L : Nat} {h : PH} {Q : Bool → PH → Prop} (x : TxM T L h) (l : LexM T L p h) (n1 : tWx T L p ≠ 21) (n2 : tWx T L p ≠ 22) (yes : tKd T L p = 41 → Wp (if iv d ≤ 0 then Mo_reads_b399 N 92 (iv d) h else ck ((hK h 92).1 = 11) <| bd (Mo_puts N 92 29 h) fun _ h19 => Mo_reads_b379 N (Mo_reads_b11 N fu) N 92 (iv d + (-1)) 0 h19) Q) (no : tKd T L p ≠ 41 → Wp (Mo_reads_b399 N 92 (iv d) h) Q) : Wp (Mo_reads_b304 N (Mo_reads_b11 N fu) 92 (iv d) 0 h) Q := by
  have s := x.1
  have kl := K27_lits
  have w21 : Mo_isWord N 92 1111 h = some (decide (tWx T L p = (21 : Nat)), h) := isWordM (i := 21) x l (by omega) (by rw [kl.2.2.2.2.2.2.2.2.2.2.2.2.2.2.2.2.2.2.2.2.2.1]; exact jv_lit _)
  have w22 : Mo_isWord N 92 423 h = some (decide (tWx T L p = (22 : Nat)), h) := isWordM (i := 22) x l (by omega) (by rw [kl.2.2.2.2.2.2.2.2.2.2.2.2.2.2.2.2.2.2.2.2.2.2.1]; exact jv_lit _)
  unfold Mo_reads_b304
  rw [show (41 : Int32) = iv 41 from iv_lit _]
  refine Wp_ck (by rw [k92 s]) (Wp_bde w21 ?_)
  rw [decide_eq_false (show ¬ tWx T L p = ((21 : Nat) : Int) from n1)]
  refine Wp_ifp rfl (Wp_ck (by rw [k92 s]) (Wp_bde w22 ?_))
  rw [decide_eq_false (show ¬ tWx T L p = ((22 : Nat) : Int) from n2)]
  refine Wp_ifp rfl (Wp_ck (by rw [k92 s]) ?_)
  by_cases c : tKd T L p = 41
  · exact Wp_bde (sgnOn x l 41 (by omega) c) (Wp_ifn (by decide) (yes c))
  · exact Wp_bde (sgnOff x l 41 (by omega) c) (Wp_ifp rfl (no c))
theorem allPartR {N : Nat} {T : Nat → Int} {L : Nat} (hN : 1100 ≤ N) : ∀ n d : Nat, 6 ≤ n + d → 1 ≤ n → d ≤ 5 → RPt N T L n d := by
  intro n
  induction n with
  | zero => intro d _ h; omega
  | succ n ih =>
    intro d hnd _ hd
    have rp : d < 5 → RPt N T L n (d + 1) := fun h5 => ih (d + 1) (by omega) (by omega) (by omega)
    refine partR hN hd rp ?_
    intro p fuel h cs c Q h5 k40 x l hp cd hs hf kf kg
    have hL := x.2.1
    have w40 : tWx T L p = -1 := by unfold tWx; rw [if_neg (by omega)]
    have tg := tE_gt (T := T) (L := L) (p := p) (by omega) hp
    have te := tE_le (T := T) hp
    have er : ptR T L (n + 1) d p = pbd (orR T L (ptR T L n) (d + 1) (tE T L p)) fun p2 e => if tKd T L p2 = 41 then .inr (tE T L p2, xpar e) else .inl (1 + 16 * (tB T L p2 : Nat)) := by
      rw [ptR, if_neg (by omega), if_neg (by omega), if_neg (by omega), if_neg (by omega), if_neg (by omega)]
    have ei := exOrR hN (d := d + 1) (by omega) (exTestR hN (by omega) (exSumR hN (productR hN (rp h5))))
    refine openR hN x l hp cd (by omega) (by omega) ?_
    intro h2 f2 x2 l2 c2 o2 z2 kp
    rw [if_pos rfl] at c2 o2
    have o2' : ¬ hI h2 101 (d + 1) = 1 := by rw [o2]; decide
    refine ei _ fuel h2 (cs ++ [28]) (c + 0) Q x2 l2 te c2 (by rw [List.length_append, List.length_singleton]; omega) (by omega) (Or.inr o2') (fun _ => z2) ?_ ?_
    · intro f ef h3 f3 w3 fb
      exact kf f (by rw [er, ef]; rfl) h3 (f2.tr f3) w3 fb
    · intro p2 e ee h3 fuel3 f3 l3 hp3 c3 hs3 hf3 ps3 kp3 kz3 _
      have x3 := f3.tx x2
      obtain ⟨fu, rfl⟩ : ∃ g, fuel3 = g + 1 := ⟨fuel3 - 1, by omega⟩
      have e3 : ptR T L (n + 1) d p = if tKd T L p2 = 41 then .inr (tE T L p2, xpar e) else .inl (1 + 16 * (tB T L p2 : Nat)) := by rw [er, ee]; rfl
      refine to304 x3 l3 (by omega) ps3.1 (ps3.2.1 (by omega)) (ps3.2.2.1 (by omega)) (b304M x3 l3 (ps3.2.2.2 (by omega)).1 (ps3.2.2.2 (by omega)).2 (fun k41 => ?_) (fun n41 => ?_))
      · rw [if_pos k41] at e3
        have tg3 := tE_gt (T := T) (L := L) (p := p2) (by omega) hp3
        have te3 := tE_le (T := T) hp3
        have ed : iv ((d + 1 : Nat) : Int) + (-1) = iv (d : Nat) := by rw [show (-1 : Int32) = iv (-1) from by decide, iv_add]; congr 1; omega
        rw [ed]
        refine Wp_ifn (by rw [il0, iv_le (by omega) (by omega) (by omega) (by omega)]; omega) (Wp_ck (by rw [k92 x3.1]) ?_)
        rw [show (29 : Int32) = iv 29 from iv_lit _]
        refine Wp_bd2 (putsM x3.1 l3 c3 (by omega)) ?_
        rintro - h4 ⟨f4, l4, c4, e4, z4⟩
        have x4 := f4.tx x3
        refine (popM (x2 := 0) hN x4 l4 hp3 d N (by omega) (by omega) ?_).2
        intro h5' f5 l5 e5
        have pe : pdn (hI h4 101) d = pdn (hI h 101) d := pdn_ext d (fun i hi => by rw [e4, kp3 i (by omega), (kp i hi).1])
        rw [pe]
        have ea : cs ++ infx (xpar e) = cs ++ [28] ++ infx e ++ [29] := by
          show cs ++ 28 :: (infx e ++ [29]) = _
          simp
        have hs4 := hs3
        refine kg _ (xpar e) e3 h5' fu ((f2.tr f3).tr (f4.tr f5.n)) l5 te3 (by rw [ea]; exact c4.y f5) (by rw [ea, List.length_append, List.length_singleton]; omega) (by omega) (fun i hi => ⟨by rw [e5, e4, kp3 i (by omega), (kp i hi).1], by rw [f5.2.1, z4, kz3 i (by omega), (kp i hi).2]⟩)
      · rw [if_neg n41] at e3
        unfold Mo_reads_b399 Mo_reads_b418
        refine Wp_ifn (by rw [il0, iv_eq (by omega) (by omega) (by omega) (by omega)]; omega) (Wp_ck (by rw [k92 x3.1]) ?_)
        rw [show (1 : Int32) = iv 1 from iv_lit _]
        refine Wp_bde (failM x3 l3) (Wp_ret ?_)
        exact kf _ e3 _ ((f2.tr f3).tr (FrY.rf.w (by omega)).n) (by rw [hI_wI, if_pos ⟨rfl, rfl⟩]) (flt_b hp3 hL (by omega))
