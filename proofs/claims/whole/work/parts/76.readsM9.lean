/-! THE PURE PROOFS, 54: how much a guest gets, to its semicolon. -/
def habR (T : Nat → Int) (L p : Nat) : Int ⊕ (Nat × Ex) := pbd (orR T L (ptR T L 7) 0 p) fun p2 e => if tKd T L p2 = 59 then .inr (tE T L p2, e) else .inl (1 + 16 * (tB T L p2 : Nat))
theorem readsTop {N : Nat} {T : Nat → Int} {L p : Nat} {cs : List Int} {c : Nat} {h : PH} (hN : 1100 ≤ N) (x : TxM T L h) (l : LexM T L p h) (hp : p ≤ L) (cd : CdM cs h) (hs : cs.length + c ≤ p) : Wp (Mo_reads N 92 h) (fun v h2 => FrN h h2 ∧ match habR T L p with
    | .inl f => v = false ∧ hI h2 92 9 = iv f ∧ 0 < f ∧ f < 1048576
    | .inr (p2, e) => v = true ∧ LexM T L p2 h2 ∧ p2 ≤ L ∧ CdM (cs ++ infx e) h2 ∧ (cs ++ infx e).length + c ≤ p2) := by
  have s := x.1
  have hL := x.2.1
  unfold Mo_reads
  refine Wp_ck (by rw [k92 s]) (Wp_bn (p92_20 s) (Wp_ck (by rw [k102 s]) (Wp_ck (by rw [k102 s]; decide) (Wp_lt ?_))))
  rw [show ix 0 = 0 from rfl]
  have f1 : FrN h (wZ h 102 0 (tb 0)) := ⟨FrS.rf.tr ⟨rfl, rfl, rfl, fun b hb => ⟨rfl, rfl, u2_ne (fun e => hb (Or.inr (Or.inr (Or.inr e))))⟩⟩, fun a ha => u2_ne ha, fun _ _ _ _ _ _ _ _ => rfl, fun _ _ => rfl, fun _ _ => rfl⟩
  have l1 : LexM T L p (wZ h 102 0 (tb 0)) := l
  have c1 : CdM cs (wZ h 102 0 (tb 0)) := cd
  have x1 := f1.tx x
  have z1 : hZ (wZ h 102 0 (tb 0)) 102 0 = false := by rw [hZ_wZ, if_pos ⟨rfl, rfl⟩]; rfl
  generalize (wZ h 102 0 (tb 0)) = h1 at f1 l1 c1 x1 z1 ⊢
  have ei := exOrR hN (d := 0) (by omega) (exTestR hN (by omega) (exSumR hN (productR hN (allPartR (T := T) (L := L) hN 7 0 (by omega) (by omega) (by omega)))))
  refine ei p N h1 cs c _ x1 l1 hp c1 hs (by omega) (Or.inl rfl) (fun _ => z1) ?_ ?_
  · intro f ef h3 f3 w3 fb
    unfold habR
    rw [ef]
    exact ⟨f1.tr f3, rfl, w3, fb⟩
  · intro p2 e ee h3 fuel3 f3 l3 hp3 c3 hs3 hf3 ps3 _ _ _
    have x3 := f3.tx x1
    obtain ⟨fu, rfl⟩ : ∃ g, fuel3 = g + 1 := ⟨fuel3 - 1, by omega⟩
    unfold habR
    rw [ee]
    show Wp _ (fun v h2 => FrN h h2 ∧ match (if tKd T L p2 = 59 then (Sum.inr (tE T L p2, e) : Int ⊕ (Nat × Ex)) else .inl (1 + 16 * (tB T L p2 : Nat))) with
      | .inl f => v = false ∧ hI h2 92 9 = iv f ∧ 0 < f ∧ f < 1048576
      | .inr (p2, e) => v = true ∧ LexM T L p2 h2 ∧ p2 ≤ L ∧ CdM (cs ++ infx e) h2 ∧ (cs ++ infx e).length + c ≤ p2)
    have b399 : Wp (Mo_reads_b399 N 92 (iv ((0 : Nat) : Int)) h3) (fun v h2 => FrN h h2 ∧ match (if tKd T L p2 = 59 then (Sum.inr (tE T L p2, e) : Int ⊕ (Nat × Ex)) else .inl (1 + 16 * (tB T L p2 : Nat))) with
      | .inl f => v = false ∧ hI h2 92 9 = iv f ∧ 0 < f ∧ f < 1048576
      | .inr (p2, e) => v = true ∧ LexM T L p2 h2 ∧ p2 ≤ L ∧ CdM (cs ++ infx e) h2 ∧ (cs ++ infx e).length + c ≤ p2) := by
      unfold Mo_reads_b399 Mo_reads_b418
      rw [show (59 : Int32) = iv 59 from iv_lit _]
      refine Wp_ifp (by decide) (Wp_ck (by rw [k92 x3.1]) ?_)
      by_cases k59 : tKd T L p2 = 59
      · rw [if_pos k59]
        have tg3 := tE_gt (T := T) (L := L) (p := p2) (by omega) hp3
        refine Wp_bde (sgnOn x3 l3 59 (by omega) k59) (Wp_ifn (by decide) (Wp_ck (by rw [k92 x3.1]) (Wp_bd2 (nextR hN x3 l3 hp3) ?_)))
        rintro - h4 ⟨f4, l4⟩
        exact Wp_ret ⟨(f1.tr f3).tr f4.y.n, rfl, l4, tE_le hp3, c3.y f4.y, by omega⟩
      · rw [if_neg k59]
        refine Wp_bde (sgnOff x3 l3 59 (by omega) k59) (Wp_ifp rfl (Wp_ck (by rw [k92 x3.1]) ?_))
        rw [show (1 : Int32) = iv 1 from iv_lit _]
        refine Wp_bde (failM x3 l3) (Wp_ret ⟨(f1.tr f3).tr (FrY.rf.w (by omega)).n, rfl, ?_, flt_b hp3 hL (by omega)⟩)
        rw [hI_wI, if_pos ⟨rfl, rfl⟩]
    exact to304 x3 l3 (by omega) ps3.1 (ps3.2.1 (by omega)) (ps3.2.2.1 (by omega)) (b304M x3 l3 (ps3.2.2.2 (by omega)).1 (ps3.2.2.2 (by omega)).2 (fun _ => Wp_ifp (by decide) b399) (fun _ => b399))
