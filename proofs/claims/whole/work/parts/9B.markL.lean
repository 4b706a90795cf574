/-! THE PURE PROOFS, 79: the class: marks; an evening; a house. -/
theorem scCopyG {N a b : Nat} {v : Ev} {h : PH} (hN : 100 ≤ N) (hab : a + 2 < b ∨ b + 2 < a) (ka : hK h a = (6, 0)) (kb : hK h b = (6, 0)) (ka1 : hK h (a + 1) = (20, 60)) (ka2 : hK h (a + 2) = (20, 60)) (kb1 : hK h (b + 1) = (20, 60)) (kb2 : hK h (b + 2) = (20, 60)) (pa1 : hR h a 0 = some (a + 1)) (pa2 : hR h a 1 = some (a + 2)) (pb1 : hR h b 0 = some (b + 1)) (pb2 : hR h b 1 = some (b + 2)) (x : EvAt b v h) (hv : v.1 ≤ 60) : Wp (Sc_copy N a (some b) h) (fun _ h2 => FrI (fun c => c = a ∨ c = a + 1 ∨ c = a + 2) h h2 ∧ EvAt a v h2) := by
  have g : ∀ {h2}, FrI (fun c => c = a ∨ c = a + 1 ∨ c = a + 2) h h2 → hK h2 = hK h ∧ hR h2 = hR h := fun f => ⟨f.2.1, f.2.2.1⟩
  unfold Sc_copy
  refine Wp_bn rfl (Wp_ck (by rw [kb]) (Wp_ck (by rw [ka]) (Wp_lt ?_)))
  rw [x.1]
  have f1 : FrI (fun c => c = a ∨ c = a + 1 ∨ c = a + 2) h (wI h a 2 (iv v.1)) := FrI.rf.w (Or.inl rfl)
  rw [(g f1).2, pa1, pb1, show hI (wI h a 2 (iv v.1)) a 2 = iv v.1 from by rw [hI_wI, if_pos ⟨rfl, rfl⟩]]
  refine Wp_bd2 (copyRowL (n := v.1) (la := 60) (lb := 60) (by omega) (by omega) (by rw [(g f1).1]; exact ka1) (by rw [(g f1).1]; exact kb1) (by omega) (by omega) hv hv) ?_
  rintro - h2 ⟨f2, a2⟩
  have f12 := f1.tr (f2.up (T := fun c => c = a ∨ c = a + 1 ∨ c = a + 2) (fun b e => Or.inr (Or.inl e)))
  refine Wp_ck (by rw [(g f12).1, ka]) (Wp_ck (by rw [(g f12).1, kb]) ?_)
  have e2 : hI h2 a 2 = iv v.1 := by rw [f2.I (by omega), hI_wI, if_pos ⟨rfl, rfl⟩]
  rw [(g f12).2, pa2, pb2, e2]
  refine Wp_bd2 (copyRowL (n := v.1) (la := 60) (lb := 60) (by omega) (by omega) (by rw [(g f12).1]; exact ka2) (by rw [(g f12).1]; exact kb2) (by omega) (by omega) hv hv) ?_
  rintro - h3 ⟨f3, a3⟩
  refine Wp_ret ⟨f12.tr (f3.up (fun b e => Or.inr (Or.inr e))), by rw [f3.I (by omega)]; exact e2, fun i hi => ⟨?_, ?_⟩⟩
  · rw [f3.I (by omega), a2, if_pos hi, f1.I (by omega)]
    exact (x.2 i hi).1
  · rw [a3, if_pos hi, f2.I (by omega), f1.I (by omega)]
    exact (x.2 i hi).2
theorem mkP {h : PH} (s : Shp h) : ∀ i, i < 4 → hK h (73 + 5 * i) = (3, 0) ∧ hK h (74 + 5 * i) = (6, 0) ∧ hK h (74 + 5 * i + 1) = (20, 60) ∧ hK h (74 + 5 * i + 2) = (20, 60) ∧ hR h (72 + 5 * i) 0 = some (73 + 5 * i) ∧ hR h (72 + 5 * i) 1 = some (74 + 5 * i) ∧ hR h (74 + 5 * i) 0 = some (74 + 5 * i + 1) ∧ hR h (74 + 5 * i) 1 = some (74 + 5 * i + 2) := by
  intro i hi
  have c : i = 0 ∨ i = 1 ∨ i = 2 ∨ i = 3 := by omega
  rcases c with rfl | rfl | rfl | rfl
  · exact ⟨k73 s, k74 s, k75 s, k76 s, p72_0 s, p72_1 s, p74_0 s, p74_1 s⟩
  · exact ⟨k78 s, k79 s, k80 s, k81 s, p77_0 s, p77_1 s, p79_0 s, p79_1 s⟩
  · exact ⟨k83 s, k84 s, k85 s, k86 s, p82_0 s, p82_1 s, p84_0 s, p84_1 s⟩
  · exact ⟨k88 s, k89 s, k90 s, k91 s, p87_0 s, p87_1 s, p89_0 s, p89_1 s⟩
def layMk (mk : Mk) (z : Nat) (n : Nat → Int) (v : Ev) : Mk := (fun i => if i = z then true else mk.1 i, upN mk.2.1 z n, upN mk.2.2 z v)
abbrev cMark (g : Gs) (z w : Int) : Prop := (0 ≤ z ∧ z ≤ 3) ∧ (w = 1 → (gsM g).1 z.toNat = true)
def gMark (g : Gs) (z w : Int) : Gs := if cMark g z w then (if w = 1 then mkG (gsT g) (gsL g) (gsH g) (gsC g) (gsE g) ((gsM g).2.1 z.toNat) ((gsM g).2.2 z.toNat) (0, (gsU g).2) (gsM g) else mkG (gsT g) (gsL g) (gsH g) (gsC g) (gsE g) (gsN g) (gsV g) (gsU g) (layMk (gsM g) z.toNat (gsN g) (gsV g))) else g
section
variable {N c : Nat} {g : Gs} {h : PH}
theorem leMarkL {z w : Int} (hN : 100 ≤ N) (x : LeI c g h) (k : GOK g) (hz : -2147483648 ≤ z ∧ z < 2147483648) (hw : w = 0 ∨ w = 1) : Wp (Le_mark N 6 (iv z) (iv w) h) (fun v h2 => v = decide (cMark g z w) ∧ LeI (c + 64) (gMark g z w) h2 ∧ CFr h h2) := by
  have s := x.s
  have no : ¬ cMark g z w → Wp (some (false, h)) (fun v h2 => v = decide (cMark g z w) ∧ LeI (c + 64) (gMark g z w) h2 ∧ CFr h h2) := by
    intro e
    refine Wp_ret ⟨by rw [decide_eq_false e], ?_, CFr.rf⟩
    unfold gMark
    rw [if_neg e]
    exact x.mono (by omega)
  unfold Le_mark
  rw [il0]
  refine Wp_if (fun e => ?_) (fun e => ?_)
  · rw [iv_lt (by omega) (by omega) (by omega) (by omega)] at e
    exact no (fun y => by have := y.1; omega)
  rw [iv_lt (by omega) (by omega) (by omega) (by omega)] at e
  refine Wp_ck (by rw [k6 s]) (Wp_bn (p6_11 s) (Wp_ck (by rw [k35 s]) ?_))
  rw [k35 s, ofN]
  refine Wp_if (fun e2 => ?_) (fun e2 => ?_)
  · rw [iv_lt (by omega) (by omega) (by omega) (by omega)] at e2
    obtain ⟨i, rfl⟩ : ∃ i : Nat, z = (i : Int) := ⟨z.toNat, by omega⟩
    have hi : i < 4 := by omega
    obtain ⟨m1, m2, m3, m4, m5, m6, m7, m8⟩ := mkP s i hi
    have mk := x.1.2.2.2.2.2.2 i hi
    have zt : ((i : Int)).toNat = i := by omega
    refine Wp_ck (inb_iv (by omega) (by omega) (by omega)) ?_
    rw [ix_nat (by omega), p35M s i hi]
    refine Wp_ifn (by simp) ?_
    rcases hw with rfl | rfl
    · have o : cMark g i 0 := ⟨by omega, fun y => absurd y (by decide)⟩
      refine Wp_ifp rfl ?_
      unfold Le_mark_b39
      refine Wp_ifp rfl (Wp_bn rfl (Wp_ck (by rw [kM s i hi]) (Wp_ck (by rw [k6 s]) (Wp_bn m5 (Wp_ck (by rw [m1]) ?_)))))
      rw [p6_6 s]
      refine Wp_bd2 (copyL m1 (k32 s) (by omega) x.nt) ?_
      rintro - h1 ⟨f1, n1⟩
      have s1 := f1.shp s
      obtain ⟨q1, q2, q3, q4, q5, q6, q7, q8⟩ := mkP s1 i hi
      have ev1 : EvAt 22 (gsV g) h1 := x.1.2.2.2.2.1.cg (f1.2.2.2 22 (by omega)).1 (f1.2.2.2 23 (by omega)).1 (f1.2.2.2 24 (by omega)).1
      refine Wp_ck (by rw [kM s1 i hi]) (Wp_ck (by rw [k6 s1]) (Wp_bn q6 (Wp_ck (by rw [q2]) ?_)))
      rw [p6_3 s1]
      refine Wp_bd2 (scCopyG (a := 74 + 5 * i) (b := 22) hN (by omega) q2 (k22 s1) q3 q4 (k23 s1) (k24 s1) q7 q8 (p22_0 s1) (p22_1 s1) ev1 k.2.2.2.1.1) ?_
      rintro - h2 ⟨f2, n2⟩
      have s2 := f2.shp s1
      refine Wp_ck (by rw [kM s2 i hi]) (Wp_lt ?_)
      have f3 : FrS (fun b => 72 + 5 * i ≤ b ∧ b ≤ 76 + 5 * i) h (wZ h2 (72 + 5 * i) 2 (tb (iv 1))) := ((f1.up (fun b e => by omega)).tr (f2.s.up (fun b e => by omega))).aZ (by omega)
      have mk2 : MkL (layMk (gsM g) i (gsN g) (gsV g)) (wZ h2 (72 + 5 * i) 2 (tb (iv 1))) := by
        intro j hj
        unfold layMk
        show _ = (if j = i then true else (gsM g).1 j) ∧ ((if j = i then true else (gsM g).1 j) = true → NtL _ (upN (gsM g).2.1 i (gsN g) j) _ ∧ EvAt _ (upN (gsM g).2.2 i (gsV g) j) _)
        unfold upN
        by_cases c : j = i
        · rw [if_pos c, if_pos c, if_pos c, c]
          refine ⟨by rw [hZ_wZ, if_pos ⟨rfl, rfl⟩]; rfl, fun _ => ⟨?_, n2⟩⟩
          exact (n1.fr f2.s (by omega)).cg rfl (by funext j; rw [hZ_wZ, if_neg (by omega)])
        · rw [if_neg c, if_neg c, if_neg c]
          have m := x.1.2.2.2.2.2.2 j hj
          have e1 : ∀ b, 72 + 5 * j ≤ b → b ≤ 76 + 5 * j → hI (wZ h2 (72 + 5 * i) 2 (tb (iv 1))) b = hI h b ∧ hZ (wZ h2 (72 + 5 * i) 2 (tb (iv 1))) b = hZ h b := fun b b1 b2 => ⟨(f3.2.2.2 b (by omega)).1, (f3.2.2.2 b (by omega)).2.2⟩
          exact ⟨by rw [(e1 (72 + 5 * j) (by omega) (by omega)).2]; exact m.1, fun t => ⟨(m.2 t).1.cg (e1 _ (by omega) (by omega)).1 (e1 _ (by omega) (by omega)).2, (m.2 t).2.cg (e1 _ (by omega) (by omega)).1 (e1 _ (by omega) (by omega)).1 (e1 _ (by omega) (by omega)).1⟩⟩
      obtain ⟨y, fy⟩ := x.chg (g2 := mkG (gsT g) (gsL g) (gsH g) (gsC g) (gsE g) (gsN g) (gsV g) (gsU g) (layMk (gsM g) i (gsN g) (gsV g))) f3 (fun b e => by omega) rfl rfl rfl rfl rfl (x.nt.fr f3 (by omega)) (x.1.2.2.2.2.1.cg (f3.2.2.2 22 (by omega)).1 (f3.2.2.2 23 (by omega)).1 (f3.2.2.2 24 (by omega)).1) (x.1.2.2.2.2.2.1.cg (f3.2.2.2 6 (by omega)).1 (fun b _ _ => ⟨(f3.2.2.2 b (by omega)).1, (f3.2.2.2 b (by omega)).2.2⟩)) mk2
      refine Wp_ret ⟨by rw [decide_eq_true o], ?_, fy⟩
      unfold gMark
      rw [if_pos o, if_neg (show ¬ (0 : Int) = 1 by omega), zt]
      exact y.mono (by omega)
    · refine Wp_ifn (by decide) (Wp_bn rfl (Wp_ck (by rw [kM s i hi]) ?_))
      rw [mk.1]
      by_cases d : (gsM g).1 i = true
      · have o : cMark g i 1 := ⟨by omega, fun _ => by rw [zt]; exact d⟩
        rw [d]
        refine Wp_ifn (by decide) ?_
        unfold Le_mark_b39
        refine Wp_ifn (by decide) (Wp_ck (by rw [k6 s]) (Wp_bn rfl (Wp_ck (by rw [kM s i hi]) (Wp_bn (p6_6 s) (Wp_ck (by rw [k32 s]) ?_)))))
        rw [m5]
        refine Wp_bd2 (copyL (k32 s) m1 (by omega) (mk.2 d).1) ?_
        rintro - h1 ⟨f1, n1⟩
        have s1 := f1.shp s
        obtain ⟨q1, q2, q3, q4, q5, q6, q7, q8⟩ := mkP s1 i hi
        have ev1 : EvAt (74 + 5 * i) ((gsM g).2.2 i) h1 := (mk.2 d).2.cg (f1.2.2.2 _ (by omega)).1 (f1.2.2.2 _ (by omega)).1 (f1.2.2.2 _ (by omega)).1
        refine Wp_ck (by rw [k6 s1]) (Wp_ck (by rw [kM s1 i hi]) (Wp_bn (p6_3 s1) (Wp_ck (by rw [k22 s1]) ?_)))
        rw [q6]
        refine Wp_bd2 (scCopyG (a := 22) (b := 74 + 5 * i) hN (by omega) (k22 s1) q2 (k23 s1) (k24 s1) q3 q4 (p22_0 s1) (p22_1 s1) q7 q8 ev1 (k.2.2.2.2.2 i hi d).2.1) ?_
        rintro - h2 ⟨f2, n2⟩
        have s2 := f2.shp s1
        unfold Le_forgetPast
        refine Wp_ck (by rw [k6 s2]) (Wp_bd2 (P := fun _ h3 => h3 = wI (wI h2 6 9 (iv 0)) 6 10 (iv 0)) (Wp_ck (by rw [k6 s2]) (Wp_lt (Wp_ltr (by rw [il0])))) ?_)
        rintro - h3 rfl
        have f3 : FrS (fun b => b = 6 ∨ b = 32 ∨ (22 ≤ b ∧ b ≤ 24)) h (wI (wI h2 6 9 (iv 0)) 6 10 (iv 0)) := (((f1.up (fun b e => by omega)).tr (f2.s.up (fun b e => by omega))).aI (Or.inl rfl)).aI (Or.inl rfl)
        have g3 : FrS (fun b => b = 6) h2 (wI (wI h2 6 9 (iv 0)) 6 10 (iv 0)) := FrS.rf.i1.i1
        obtain ⟨y, fy⟩ := x.chg (g2 := mkG (gsT g) (gsL g) (gsH g) (gsC g) (gsE g) ((gsM g).2.1 i) ((gsM g).2.2 i) (0, (gsU g).2) (gsM g)) f3 (fun b e => by omega) rfl rfl rfl rfl rfl ((n1.fr f2.s (by omega)).fr g3 (by omega)) (n2.cg (g3.2.2.2 22 (by omega)).1 (g3.2.2.2 23 (by omega)).1 (g3.2.2.2 24 (by omega)).1) ⟨0, by omega, by rw [hI_wI, if_neg (by omega), hI_wI, if_pos ⟨rfl, rfl⟩]; rfl, by rw [hI_wI, if_pos ⟨rfl, rfl⟩]; rfl, fun i hi => absurd hi (Nat.not_lt_zero i)⟩ (x.1.2.2.2.2.2.2.cg (fun b _ _ => ⟨(f3.2.2.2 b (by omega)).1, (f3.2.2.2 b (by omega)).2.2⟩))
        refine Wp_ret ⟨by rw [decide_eq_true o], ?_, fy⟩
        unfold gMark
        rw [if_pos o, if_pos rfl, zt]
        exact y.mono (by omega)
      · rw [Bool.eq_false_iff.mpr d]
        exact Wp_ifp rfl (no (fun y => d (by have := y.2 rfl; rw [zt] at this; exact this)))
  · rw [iv_lt (by omega) (by omega) (by omega) (by omega)] at e2
    exact no (fun y => by have := y.1; omega)
/-! ### an evening -/
theorem upOK {k : Nat} {A B : Nat → Int} {a b : Int} (o : ∀ i, i < k → (16 ≤ A i ∧ A i ≤ 19) ∧ (0 ≤ B i ∧ B i ≤ 4)) (ha : 16 ≤ a ∧ a ≤ 19) (hb : 0 ≤ b ∧ b ≤ 4) : ∀ i, i < k + 1 → (16 ≤ up1 A k a i ∧ up1 A k a i ≤ 19) ∧ (0 ≤ up1 B k b i ∧ up1 B k b i ≤ 4) := by
  intro i hi
  unfold up1
  by_cases c : i = k
  · rw [if_pos c, if_pos c]; exact ⟨ha, hb⟩
  · rw [if_neg c, if_neg c]; exact o i (by omega)
theorem evR_ok {T : Nat → Int} {L : Nat} : ∀ (m k : Nat) (A B : Nat → Int) (p : Nat) (r : Nat × (Nat → Int) × (Nat → Int)), k ≤ 60 → (∀ i, i < k → (16 ≤ A i ∧ A i ≤ 19) ∧ (0 ≤ B i ∧ B i ≤ 4)) → evR T L m k A B p = .inr r → EvOK r := by
  intro m
  induction m with
  | zero =>
    intro k A B p r hk o e
    unfold evR at e
    first
      | cases e
      | (cases e; exact ⟨hk, o⟩)
  | succ m ih =>
    intro k A B p r hk o e
    rw [evR] at e
    split at e
    · cases e
      exact ⟨hk, o⟩
    · cases el : evL T L k p with
      | inl f => rw [el] at e; cases e
      | inr p2 =>
        rw [el] at e
        have kk : k + 1 ≤ 60 ∧ 16 ≤ tWx T L p ∧ tWx T L p ≤ 19 := by
          unfold evL at el
          split at el
          · cases el
          · split at el
            · cases el
            · omega
        refine ih (k + 1) _ _ p2 r kk.1 (upOK o kk.2 ?_) e
        unfold evZ
        split
        · have := numZ_b (T := T) (L := L) (r := .inr (tE T L p)) (lo := 0) (hi := 4)
          omega
        · omega
def gEve (g : Gs) : Gs := match evR (gsT g) (gsL g) 61 0 (fun _ => 0) (fun _ => 0) 0 with
  | .inl _ => mkG (gsT g) 0 (gsH g) (gsC g) (gsE g) (gsN g) (gsV g) (gsU g) (gsM g)
  | .inr r => mkG (gsT g) 0 (gsH g) (gsC g) (gsE g) (gsN g) r (gsU g) (gsM g)
def fEve (g : Gs) : Int := match evR (gsT g) (gsL g) 61 0 (fun _ => 0) (fun _ => 0) 0 with
  | .inl f => f
  | .inr _ => 0
theorem TxL.zero {T : Nat → Int} {L : Nat} {S : Nat → Prop} {h h2 : PH} (x : TxL T L h) (f : FrS S h h2) (n3 : ¬ S 3) (n4 : ¬ S 4) (n9 : ¬ S 9) (e : hI h2 7 1 = iv 0) : TxL T 0 h2 := ⟨f.shp x.1, x.2.1.fr f n3 n4, Nat.zero_le _, fun k hk => absurd hk (Nat.not_lt_zero k), e, fun k hk => absurd hk (Nat.not_lt_zero k), fun i hi => (f.J n9 i).trans (x.2.2.2.2.2.2 i hi)⟩
theorem leEvenL (hN : 1100 ≤ N) (x : LeI c g h) : Wp (Le_evening N 6 h) (fun v h2 => v = iv (fEve g) ∧ LeI (c + 64) (gEve g) h2 ∧ CFr h h2) := by
  refine Wp_mono (leEveL hN x.1.1) ?_
  rintro v h2 ⟨f, e71, r⟩
  obtain ⟨a, b, d, nt, ev, un, mk⟩ := x.1
  have cf := f.cf x.2.1 (fun b z => by omega)
  have rest : ∀ v2 : Ev, EvAt 22 v2 h2 → LeI (c + 64) (mkG (gsT g) 0 (gsH g) (gsC g) (gsE g) (gsN g) v2 (gsU g) (gsM g)) h2 := fun v2 e2 => ⟨⟨a.zero f (by omega) (by omega) (by omega) e71, by rw [f.I (by omega)]; exact b, d.cg (fun b _ _ => (f.2.2.2 b (by omega)).1), nt.fr f (by omega), e2, un.cg (f.2.2.2 6 (by omega)).1 (fun b _ _ => ⟨(f.2.2.2 b (by omega)).1, (f.2.2.2 b (by omega)).2.2⟩), mk.cg (fun b _ _ => ⟨(f.2.2.2 b (by omega)).1, (f.2.2.2 b (by omega)).2.2⟩)⟩, (x.2.frS f (fun b z => by omega)).mono (by omega)⟩
  unfold fEve gEve
  cases e : evR (gsT g) (gsL g) 61 0 (fun _ => 0) (fun _ => 0) 0 with
  | inl f0 =>
    rw [e] at r
    obtain ⟨rfl, -, -, r3⟩ := r
    exact ⟨rfl, rest _ (ev.cg (r3 22 (Or.inl rfl)) (r3 23 (Or.inr (Or.inl rfl))) (r3 24 (Or.inr (Or.inr rfl)))), cf⟩
  | inr t =>
    obtain ⟨n, A, B⟩ := t
    rw [e] at r
    obtain ⟨rfl, r2, -⟩ := r
    exact ⟨rfl, rest (n, A, B) r2, cf⟩
/-! ### a house -/
def gHou (g : Gs) : Gs := match hoR (gsT g) (gsL g) with
  | .inl _ => mkG (gsT g) 0 (gsH g) (gsC g) (gsE g) (gsN g) (gsV g) (gsU g) (gsM g)
  | .inr S => mkG (gsT g) 0 (sH S) (sC S) (sE S) (begM (sH S)) (0, (gsV g).2) (0, (gsU g).2) (fun _ => false, (gsM g).2)
def fHou (g : Gs) : Int := match hoR (gsT g) (gsL g) with
  | .inl f => f
  | .inr _ => 0
theorem VaP.moved {a0 g0 : Nat} {wet mute : Int} {H C H2 C2 : Nat → Int} {tb len : Nat} {ff : Int} {h h2 : PH} {S : Nat → Prop} (p : VaP a0 g0 wet mute H C tb len ff h) (f : FrS S h h2) (eZ : hZ h2 a0 = hZ h a0) (e5 : hI h2 a0 5 = iv (H2 0)) (h0 : 0 ≤ H2 0) : VaP a0 g0 wet mute H2 C2 tb len (H2 0) h2 := by
  obtain ⟨v, -, -, -, -, t, l, a, b, n⟩ := p
  have hN : hN h2 = hN h := by unfold hN; rw [f.1]
  refine ⟨?_, ⟨h0, Int.le_refl _⟩, e5, fun z => absurd z (by omega), fun q t a w b0 b1 b2 => absurd b2 (by omega), by rw [hN]; exact t, l, a, b, by rw [hN]; exact n⟩
  unfold VaS at v ⊢
  rw [f.2.1, f.2.2.1, eZ]
  exact v
theorem VaP.stay {a0 g0 : Nat} {wet mute : Int} {H C : Nat → Int} {tb len : Nat} {ff : Int} {h h2 : PH} {S : Nat → Prop} (p : VaP a0 g0 wet mute H C tb len ff h) (f : FrS S h h2) (eZ : hZ h2 a0 = hZ h a0) (e5 : hI h2 a0 5 = hI h a0 5) (eT : hI h2 tb = hI h tb) : VaP a0 g0 wet mute H C tb len ff h2 := by
  obtain ⟨v, b, i5, z, x, t, l, a, b2, n⟩ := p
  have hN : hN h2 = hN h := by unfold hN; rw [f.1]
  refine ⟨?_, b, e5.trans i5, z, fun q t a w b0 b1 b2 b3 b4 b5 b6 b7 => by rw [eT]; exact x q t a w b0 b1 b2 b3 b4 b5 b6 b7, by rw [hN]; exact t, l, a, b2, by rw [hN]; exact n⟩
  unfold VaS at v ⊢
  rw [f.2.1, f.2.2.1, eZ]
  exact v
theorem leHouseL (hN : 1100 ≤ N) (x : LeI c g h) : Wp (Le_house N 6 h) (fun v h2 => v = iv (fHou g) ∧ LeI (c + 64) (gHou g) h2 ∧ CFr h h2) := by
  refine Wp_mono (leHouL hN x.1.1 x.1.2.1) ?_
  rintro v h2 ⟨f, e71, e17, r⟩
  obtain ⟨a, b, d, nt, ev, un, mk⟩ := x.1
  have cf := f.cf x.2.1 (fun b z => by unfold SMv at z; omega)
  have tx : TxL (gsT g) 0 h2 := a.zero f (by unfold SMv; omega) (by unfold SMv; omega) (by unfold SMv; omega) e71
  unfold fHou gHou
  cases e : hoR (gsT g) (gsL g) with
  | inl f0 =>
    rw [e] at r
    obtain ⟨rfl, -, -, r3⟩ := r
    have sm : ∀ b, b = 6 ∨ (10 ≤ b ∧ b ≤ 15) ∨ (22 ≤ b ∧ b ≤ 24) ∨ (32 ≤ b ∧ b ≤ 91) → hI h2 b = hI h b ∧ hZ h2 b = hZ h b := by
      intro b hb
      by_cases z : SMv b
      · exact r3 b z
      · exact ⟨(f.2.2.2 b (by unfold SMv at z; unfold SMv; omega)).1, (f.2.2.2 b (by unfold SMv at z; unfold SMv; omega)).2.2⟩
    obtain ⟨hn, dd, len, ff, rd, ⟨v0, v1, v2, m, rr, sp, aa, bb⟩, r1, r2, r4⟩ := x.2
    have nd : ∀ i, i < 7 → ¬ (dd i = 7 ∨ (16 ≤ dd i ∧ dd i ≤ 21) ∨ (28 ≤ dd i ∧ dd i ≤ 31) ∨ SMv (dd i)) := fun i hi z => by
      have w := (aa i hi).1
      unfold Dyn at w
      unfold SMv at z
      omega
    refine ⟨rfl, ⟨⟨tx, e17, d.cg (fun b _ _ => (sm b (by omega)).1), nt.cg (sm 32 (by omega)).1 (sm 32 (by omega)).2, ev.cg (sm 22 (by omega)).1 (sm 23 (by omega)).1 (sm 24 (by omega)).1, un.cg (sm 6 (by omega)).1 (fun b _ _ => sm b (by omega)), mk.cg (fun b _ _ => sm b (by omega))⟩, ?_⟩, cf⟩
    refine DyL.mono (c := c) ?_ (by omega)
    have eN : h2.1 = h.1 := f.1
    refine ⟨by show 127 ≤ h2.1.1; rw [eN]; exact hn, dd, len, ff, rd, ⟨v0.stay f (sm 36 (by omega)).2 (by rw [(sm 36 (by omega)).1]) (f.2.2.2 _ (nd 0 (by omega))).1, v1.stay f (sm 39 (by omega)).2 (by rw [(sm 39 (by omega)).1]) (f.2.2.2 _ (nd 1 (by omega))).1, v2.stay f (sm 42 (by omega)).2 (by rw [(sm 42 (by omega)).1]) (f.2.2.2 _ (nd 2 (by omega))).1, m.frH f.h (by unfold SMv; omega) (nd 3 (by omega)) (nd 4 (by omega)), rr.frH f.h (by unfold SMv; omega), sp.frH f.h hn (by unfold SMv; omega), fun i hi => ⟨(aa i hi).1, by show dd i < h2.1.1; rw [eN]; exact (aa i hi).2⟩, bb⟩, ?_, r2, ?_⟩
    · show h2.1.1 + h2.1.2.2 ≤ _
      rw [eN]; exact r1
    · show h2.1.2.1 ≤ _
      rw [eN]; exact r4
  | inr S =>
    rw [e] at r
    obtain ⟨rfl, ok, hl, rz, mv⟩ := r
    obtain ⟨m1, m2, m3, m4, m5, m6, m7, m8, m9, m10, m11⟩ := mv
    obtain ⟨hn, dd, len, ff, rd, ⟨v0, v1, v2, m, rr, sp, aa, bb⟩, r1, r2, r4⟩ := x.2
    have h0 : 0 ≤ sH S 0 := by have := ok.1.1; omega
    have nd : ∀ i, i < 7 → ¬ (dd i = 7 ∨ (16 ≤ dd i ∧ dd i ≤ 21) ∨ (28 ≤ dd i ∧ dd i ≤ 31) ∨ SMv (dd i)) := fun i hi z => by
      have w := (aa i hi).1
      unfold Dyn at w
      unfold SMv at z
      omega
    refine ⟨rfl, ⟨⟨tx, e17, ⟨m1, m2, m3⟩, m4, ⟨m5, fun i hi => absurd hi (Nat.not_lt_zero i)⟩, ⟨0, by omega, m6, m7, fun i hi => absurd hi (Nat.not_lt_zero i)⟩, fun i hi => ⟨m8 i hi, fun z => Bool.noConfusion z⟩⟩, ?_⟩, cf⟩
    refine DyL.mono (c := c) ?_ (by omega)
    have eN : h2.1 = h.1 := f.1
    refine ⟨by show 127 ≤ h2.1.1; rw [eN]; exact hn, dd, len, fun _ => sH S 0, rd, ⟨v0.moved f (rz 36 (by omega)) m9 h0, v1.moved f (rz 39 (by omega)) m10 h0, v2.moved f (rz 42 (by omega)) m11 h0, m.frH f.h (by unfold SMv; omega) (nd 3 (by omega)) (nd 4 (by omega)), rr.frH f.h (by unfold SMv; omega), sp.frH f.h hn (by unfold SMv; omega), fun i hi => ⟨(aa i hi).1, by show dd i < h2.1.1; rw [eN]; exact (aa i hi).2⟩, bb⟩, ?_, r2, ?_⟩
    · show h2.1.1 + h2.1.2.2 ≤ _
      rw [eN]; exact r1
    · show h2.1.2.1 ≤ _
      rw [eN]; exact r4
end
