/-! THE PURE PROOFS, 69: the reference reads a house: its lines of calls. -/
theorem calledM {N : Nat} {T : Nat → Int} {L p : Nat} {S : Sta} {h : PH} {a : Int} (x : TxM T L h) (l : LexM T L p h) (st : StM T L S h) (k1 : tKd T L p = 1) (hb : tNm T L p ≤ 23) : ∀ (m : Nat) (j : Int), j + m = tNm T L p + 1 → 0 ≤ j → ∀ fuel, m < fuel → Mo_readsCalls_b88 N fuel 92 (iv a) (iv j) h = if anK (sK S) j (tNm T L p + 1).toNat = true then some (false, wI h 92 9 (iv (3 + 16 * (tB T L p : Nat)))) else Mo_readsCalls_b120 N 92 (iv a) h
  | m, j, hj, j0, fuel, hf => by
    obtain ⟨fu, rfl⟩ : ∃ g, fuel = g + 1 := ⟨fuel - 1, by omega⟩
    have nb := tNm_b k1
    rw [Mo_readsCalls_b88]
    dsimp only
    rw [ck_p (by rw [k92 x.1]), l.2.2.2.2 k1]
    simp only [show (iv (tNm T L p) < iv j) ↔ tNm T L p < j from iv_lt (by omega) (by omega) (by omega) (by omega)]
    by_cases c : tNm T L p < j
    · rw [if_pos c, if_neg]
      intro z
      obtain ⟨i, h1, h2, -⟩ := (anK_iff _).mp z
      omega
    · rw [if_neg c, p92_12 x.1, bn_s, ck_p (by rw [k96 x.1]), k96 x.1, show (24 : Int32) = iv 24 from iv_lit _, iv_add, ck_p (inb_iv (by omega) (by omega) (by omega)), ix_iv (by omega) (by omega), show (24 + j).toNat = 24 + j.toNat from by omega, st.2.2.1 _ (by omega)]
      simp only [bI_0]
      by_cases d : sK S j.toNat = 1
      · rw [decide_eq_true d, if_neg (by decide), if_pos ((anK_iff _).mpr ⟨j.toNat, by omega, by omega, d⟩), il3, failM x l, bd_s]
      · rw [decide_eq_false d, if_pos rfl, il1, iv_add]
        obtain ⟨m2, rfl⟩ : ∃ g, m = g + 1 := ⟨m - 1, by omega⟩
        rw [calledM x l st k1 hb m2 (j + 1) (by omega) (by omega) fu (by omega)]
        have e : anK (sK S) (j + 1) (tNm T L p + 1).toNat = anK (sK S) j (tNm T L p + 1).toNat := by
          rw [Bool.eq_iff_iff, anK_iff, anK_iff]
          constructor
          · rintro ⟨i, h1, h2, h3⟩
            exact ⟨i, h1, by omega, h3⟩
          · rintro ⟨i, h1, h2, h3⟩
            by_cases e : (i : Int) = j
            · exact absurd h3 (by rw [show i = j.toNat from by omega]; exact d)
            · exact ⟨i, h1, by omega, h3⟩
        rw [e]
theorem StM.c {T : Nat → Int} {L : Nat} {H C D K G : Nat → Int} {P : Nat → Nat} {E : Nat → Ex} {h h2 : PH} (x : StM T L (mkS H C K G P E) h) (f : FrI (fun c => c = 95) h h2) (e : ∀ i, i < 96 → hI h2 95 (96 + i) = iv (D i)) : StM T L (mkS H D K G P E) h2 := by
  obtain ⟨a, b, c, d, g, i, j⟩ := x
  exact ⟨fun k hk => (f.I (by omega) _).trans (a k hk), e, fun k hk => (f.s.Z (by omega) _).trans (c k hk), (f.I (by omega) 18).trans d, fun k hk => (f.s.J (by omega) k).trans (g k hk), ⟨(f.I (by omega) _).trans i.1, fun k hk => (f.I (by omega) _).trans (i.2 k hk)⟩, fun k hk => ⟨(f.I (by omega) _).trans (j k hk).1, (f.I (by omega) _).trans (j k hk).2⟩⟩
theorem FrI.k95 {h h2 : PH} (f : FrI (fun c => c = 95) h h2) (e : ∀ i, i < 96 → hI h2 95 i = hI h 95 i) : FrK h h2 := ⟨f.s.up (fun b e => by omega), fun j _ => f.I (by omega) j, fun j _ => f.I (by omega) j, e, fun j _ => ⟨f.I (by omega) j, f.I (by omega) j⟩, fun j _ => f.I (by omega) j⟩
theorem LexM.cg {T : Nat → Int} {L p : Nat} {h h2 : PH} (x : LexM T L p h) (e1 : hI h2 92 = hI h 92) (e2 : hJ h2 92 = hJ h 92) : LexM T L p h2 := by
  unfold LexM at x ⊢
  rw [e1, e2]
  exact x
theorem setCM {N : Nat} {C : Nat → Int} {h0 : PH} {a b v : Int} {k : Nat} {x3 : Int32} {self : Nat → Int32 → Int32 → Int32 → Int32 → PH → Option (Bool × PH)} {Q : Bool → PH → Prop} (hk : k < 4) (ha : 0 ≤ a ∧ a ≤ 23) (hb : 0 ≤ b ∧ b ≤ 23) (s0 : Shp h0) (ev : hI h0 92 31 = iv v)
    (next : ∀ h2, FrI (fun c => c = 95) h0 h2 → (∀ i, i < 96 → hI h2 95 i = hI h0 95 i) → (∀ i, i < 96 → hI h2 95 (96 + i) = iv (setC C a b k v i)) → Wp (self 92 (iv a) (iv b) x3 (iv (k : Nat) + 1) h2) Q) : ∀ (m : Nat) (j : Int) (h : PH), j + m = b + 1 ∨ (j = a ∧ b < a) → a ≤ j → FrI (fun c => c = 95) h0 h → (∀ i, i < 96 → hI h 95 i = hI h0 95 i) → (∀ i, i < 96 → hI h 95 (96 + i) = iv (setC C a (j - 1) k v i)) → ∀ fuel, m < fuel → Wp (Mo_readsCalls_b203 N self fuel 92 (iv a) (iv b) x3 (iv (k : Nat)) (iv j) h) Q
  | m, j, h, hj, aj, f, el, e, fuel, hf => by
    obtain ⟨fu, rfl⟩ : ∃ g, fuel = g + 1 := ⟨fuel - 1, by omega⟩
    have s := f.shp s0
    rw [Mo_readsCalls_b203]
    refine Wp_if (fun c => ?_) (fun c => ?_)
    · rw [iv_lt (by omega) (by omega) (by omega) (by omega)] at c
      refine next h f el (fun i hi => ?_)
      rw [e i hi]
      unfold setC
      congr 1
      by_cases d : a ≤ ((i / 4 : Nat) : Int) ∧ ((i / 4 : Nat) : Int) ≤ b ∧ i % 4 = k
      · rw [if_pos d, if_pos (by omega)]
      · rw [if_neg d, if_neg (by omega)]
    · rw [iv_lt (by omega) (by omega) (by omega) (by omega)] at c
      rw [il4, il1, iv_mul, show (96 : Int32) = iv 96 from iv_lit _, iv_add, iv_add, iv_add, show hI h 92 31 = iv v from by rw [f.I (by omega)]; exact ev]
      refine Wp_ck (by rw [k92 s]) (Wp_bn (p92_11 s) (Wp_ck (by rw [k95 s]) (Wp_ck (by rw [k95 s]; exact inb_iv (by omega) (by omega) (by omega)) (Wp_lt ?_))))
      rw [ix_iv (by omega) (by omega)]
      obtain ⟨m2, rfl⟩ : ∃ g, m = g + 1 := ⟨m - 1, by omega⟩
      refine setCM hk ha hb s0 ev next m2 (j + 1) _ (by omega) (by omega) (f.w rfl) (fun i hi => ?_) (fun i hi => ?_) fu (by omega)
      · rw [hI_wI, if_neg (by omega)]
        exact el i hi
      · rw [hI_wI]
        unfold setC
        by_cases d : i = (4 * j + k).toNat
        · rw [if_pos ⟨rfl, by omega⟩, if_pos (by omega)]
        · rw [if_neg (by omega), e i hi]
          unfold setC
          congr 1
          by_cases z : a ≤ ((i / 4 : Nat) : Int) ∧ ((i / 4 : Nat) : Int) ≤ j - 1 ∧ i % 4 = k
          · rw [if_pos z, if_pos (by omega)]
          · rw [if_neg z, if_neg (by omega)]
theorem cstepM {N : Nat} {T : Nat → Int} {L p : Nat} {H C K G : Nat → Int} {P : Nat → Nat} {E : Nat → Ex} {h : PH} {a b x3 lo hi : Int} {k : Nat} {lo' hi' : Int32} {self : Nat → Int32 → Int32 → Int32 → Int32 → PH → Option (Bool × PH)} {Q : Bool → PH → Prop} (hN : 1100 ≤ N) (x : TxM T L h) (l : LexM T L p h) (hp : p ≤ L) (st : StM T L (mkS H C K G P E) h) (hk : k < 4) (ha : 0 ≤ a ∧ a ≤ 23) (hb : 0 ≤ b ∧ b ≤ 23) (e1 : lo' = iv lo) (e2 : hi' = iv hi) (hl : -100000 ≤ lo ∧ lo ≤ 100000) (hh : -100000 ≤ hi ∧ hi ≤ 100000)
    (bad : ∀ f h2, FrK h h2 → numP T L lo hi (.inr p) = .inl f → hI h2 92 9 = iv f → 0 < f ∧ f < 1048576 → Q false h2)
    (good : ∀ p2 h2, FrK h h2 → TxM T L h2 → numP T L lo hi (.inr p) = .inr p2 → LexM T L p2 h2 → p2 ≤ L → StM T L (mkS H (setC C a b k (numZ T L lo hi (.inr p))) K G P E) h2 → lo ≤ numZ T L lo hi (.inr p) ∧ numZ T L lo hi (.inr p) ≤ hi → Wp (self 92 (iv a) (iv b) (iv (x3 + numZ T L lo hi (.inr p))) (iv ((k + 1 : Nat) : Int)) h2) Q) : Wp (Mo_readsCalls_b185 N self 92 lo' hi' 92 (iv a) (iv b) (iv x3) (iv (k : Nat)) h) Q := by
  unfold Mo_readsCalls_b185
  refine Wp_ck (by rw [k92 x.1]) (numK hN x l hp e1 e2 hl hh (fun f h2 f2 en g3 g4 => bad f h2 f2.k en g3 g4) (fun p2 h2 f2 x2 en l2 hp2 n2 b2 => ?_))
  have t2 := st.y f2
  refine Wp_ck (by rw [k92 x2.1]) ?_
  rw [n2, iv_add]
  refine setCM (C := C) hk ha hb x2.1 n2 (fun h3 f3 el e3 => ?_) (b + 1 - a).toNat a h2 (by omega) (by omega) FrI.rf (fun _ _ => rfl) (fun i hi => ?_) N (by omega)
  · have k3 := f3.k95 el
    rw [il1, iv_add]
    have n := good p2 h3 (f2.k.tr k3) (k3.tx x2) en (l2.cg (f3.2.2.2.2.2 92 (by omega)) (by rw [f3.2.2.2.2.1])) hp2 (t2.c f3 e3) b2
    rw [show ((k + 1 : Nat) : Int) = (k : Int) + 1 from by omega] at n
    exact n
  · rw [t2.2.1 i hi]
    unfold setC
    congr 1
    rw [if_neg (by omega)]
    rfl
theorem markCM {N : Nat} {T : Nat → Int} {L p : Nat} {H C K G : Nat → Int} {P : Nat → Nat} {E : Nat → Ex} {h0 : PH} {a b : Int} {Q : Bool → PH → Prop} (hN : 1100 ≤ N) (x : TxM T L h0) (l : LexM T L p h0) (hp : p ≤ L) (st : StM T L (mkS H C K G P E) h0) (ha : 0 ≤ a ∧ a ≤ 23) (hb : 0 ≤ b ∧ b ≤ 23)
    (fin : ∀ v h2, FrK h0 h2 → GdM T L (sgnR T L 59 (.inr p)) v h2 → StM T L (mkS (up H 17 (H 17 + 1)) C (setK K a b) G P E) h2 → Q v h2) : ∀ (m : Nat) (j : Int) (h : PH), j + m = b + 1 ∨ (j = a ∧ b < a) → a ≤ j → FrK h0 h → hI h = hI h0 → hJ h = hJ h0 → (∀ q, q < 24 → hZ h 96 (24 + q) = decide (setK K a (j - 1) q = 1)) → ∀ fuel, m < fuel → Wp (Mo_readsCalls_b243 N fuel 92 (iv b) (iv j) h) Q
  | m, j, h, hj, aj, f, eI, eJ, eZ, fuel, hf => by
    obtain ⟨fu, rfl⟩ : ∃ g, fuel = g + 1 := ⟨fuel - 1, by omega⟩
    have x1 := f.tx x
    have s := x1.1
    rw [Mo_readsCalls_b243]
    refine Wp_if (fun c => ?_) (fun c => ?_)
    · rw [iv_lt (by omega) (by omega) (by omega) (by omega)] at c
      have t1 : StM T L (mkS H C (setK K a b) G P E) h := by
        obtain ⟨a1, b1, c1, d1, g1, i1, j1⟩ := st
        refine ⟨fun k hk => by rw [eI]; exact a1 k hk, fun k hk => by rw [eI]; exact b1 k hk, fun q hq => ?_, by rw [eI]; exact d1, fun k hk => by rw [eJ]; exact g1 k hk, ⟨by rw [eI]; exact i1.1, fun k hk => by rw [eI]; exact i1.2 k hk⟩, fun k hk => by rw [eI]; exact j1 k hk⟩
        rw [eZ q hq]
        show _ = decide (setK K a b q = 1)
        unfold setK
        congr 1
        by_cases d : a ≤ (q : Int) ∧ (q : Int) ≤ b
        · rw [if_pos d, if_pos (by omega)]
        · rw [if_neg d, if_neg (by omega)]
      have e35 : hI h 94 35 = iv (H 17) := t1.1 17 (by omega)
      refine Wp_ck (by rw [k92 s]) (Wp_bn (p92_10 s) (Wp_ck (by rw [k94 s]) (Wp_ck (by rw [k94 s]; decide) (Wp_ck (by rw [k94 s]; decide) (Wp_lt ?_)))))
      rw [show ix 35 = 18 + 17 from rfl, e35, il1, iv_add]
      have f2 : FrK h (wI h 94 (18 + 17) (iv (H 17 + 1))) := FrK.rf.w (by omega)
      have t2 := t1.w (k := 17) (v := H 17 + 1) (by omega) (by omega)
      have l1 : LexM T L p h := l.cg (by rw [eI]) (by rw [eJ])
      exact closeK hN (f2.tx x1) (l1.w (by omega)) hp (fun v h3 f3 g3 => fin v h3 ((f.tr f2).tr f3.k) g3 (t2.y f3))
    · rw [iv_lt (by omega) (by omega) (by omega) (by omega)] at c
      refine Wp_ck (by rw [k92 s]) (Wp_bn (p92_12 s) (Wp_ck (by rw [k96 s]) ?_))
      rw [k96 s, show (24 : Int32) = iv 24 from iv_lit _, iv_add]
      refine Wp_ck (inb_iv (by omega) (by omega) (by omega)) (Wp_lt ?_)
      rw [ix_iv (by omega) (by omega), tb_1, il1, iv_add]
      obtain ⟨m2, rfl⟩ : ∃ g, m = g + 1 := ⟨m - 1, by omega⟩
      refine markCM hN x l hp st ha hb fin m2 (j + 1) _ (by omega) (by omega) f.z eI eJ (fun q hq => ?_) fu (by omega)
      rw [hZ_wZ]
      unfold setK
      by_cases d : (q : Int) = j
      · rw [if_pos ⟨rfl, by omega⟩, if_pos (by omega), decide_eq_true rfl]
      · rw [if_neg (by omega), eZ q hq]
        unfold setK
        congr 1
        by_cases z : a ≤ (q : Int) ∧ (q : Int) ≤ j - 1
        · rw [if_pos z, if_pos (by omega)]
        · rw [if_neg z, if_neg (by omega)]
theorem chancesM {N : Nat} {T : Nat → Int} {L p : Nat} {H C K G : Nat → Int} {P : Nat → Nat} {E : Nat → Ex} {h : PH} {a b : Int} (hN : 1100 ≤ N) (x : TxM T L h) (l : LexM T L p h) (hp : p ≤ L) (st : StM T L (mkS H C K G P E) h) (ha : 0 ≤ a ∧ a ≤ 23) (hb : 0 ≤ b ∧ b ≤ 23) : Wp (Mo_readsCalls_b149 N N 92 (iv a) (iv b) 0 0 h) (fun v h2 => FrK h h2 ∧ GdM T L (ccR T L (.inr p)) v h2 ∧ (v = true → StM T L (mkS (up H 17 (H 17 + 1)) (setC (setC (setC (setC C a b 0 (cc0 T L (.inr p))) a b 1 (cc1 T L (.inr p))) a b 2 (cc2 T L (.inr p))) a b 3 (cc3 T L (.inr p))) (setK K a b) G P E) h2)) := by
  have key : ∀ fuel, 5 ≤ fuel → Wp (Mo_readsCalls_b149 N fuel 92 (iv a) (iv b) (iv 0) (iv ((0 : Nat) : Int)) h) (fun v h2 => FrK h h2 ∧ GdM T L (ccR T L (.inr p)) v h2 ∧ (v = true → StM T L (mkS (up H 17 (H 17 + 1)) (setC (setC (setC (setC C a b 0 (cc0 T L (.inr p))) a b 1 (cc1 T L (.inr p))) a b 2 (cc2 T L (.inr p))) a b 3 (cc3 T L (.inr p))) (setK K a b) G P E) h2)) := by
    intro fuel hf
    obtain ⟨g, rfl⟩ : ∃ g, fuel = ((((g + 1) + 1) + 1) + 1) + 1 := ⟨fuel - 5, by omega⟩
    rw [Mo_readsCalls_b149]
    refine Wp_ifn (by decide) (Wp_ifn (by decide) ?_)
    unfold Mo_readsCalls_b170
    refine Wp_ifn (by decide) (cstepM (k := 0) (lo := 0) (hi := 10) hN x l hp st (by omega) ha hb il0 (iv_lit 10) (by omega) (by omega) (fun f h1 f1 en g1 g2 => ?_) (fun p1 h1 f1 x1 en1 l1 hp1 t1 b1 => ?_))
    · unfold ccR ccr
      rw [en]
      exact ⟨f1, ⟨rfl, g1, g2⟩, fun z => by cases z⟩
    rw [Mo_readsCalls_b149]
    refine Wp_ifn (by decide) (Wp_ifn (by decide) ?_)
    unfold Mo_readsCalls_b170
    refine Wp_ifn (by decide) (cstepM (k := 1) (lo := 0) (hi := 10) hN x1 l1 hp1 t1 (by omega) ha hb il0 (iv_lit 10) (by omega) (by omega) (fun f h2 f2 en g1 g2 => ?_) (fun p2 h2 f2 x2 en2 l2 hp2 t2 b2 => ?_))
    · unfold ccR ccr
      rw [en1, en]
      exact ⟨f1.tr f2, ⟨rfl, g1, g2⟩, fun z => by cases z⟩
    rw [Mo_readsCalls_b149]
    refine Wp_ifn (by decide) (Wp_ifn (by decide) ?_)
    unfold Mo_readsCalls_b170
    refine Wp_ifn (by decide) (cstepM (k := 2) (lo := 0) (hi := 10) hN x2 l2 hp2 t2 (by omega) ha hb il0 (iv_lit 10) (by omega) (by omega) (fun f h3 f3 en g1 g2 => ?_) (fun p3 h3 f3 x3 en3 l3 hp3 t3 b3 => ?_))
    · unfold ccR ccr
      rw [en1, en2, en]
      exact ⟨(f1.tr f2).tr f3, ⟨rfl, g1, g2⟩, fun z => by cases z⟩
    have z1 : numZ T L 0 10 (.inr p1) = cc1 T L (.inr p) := by unfold cc1; rw [en1]
    have z2 : numZ T L 0 10 (.inr p2) = cc2 T L (.inr p) := by unfold cc2; rw [en1, en2]
    have er : ccr T L (.inr p) = .inr p3 := by unfold ccr; rw [en1, en2, en3]
    have es : 0 + numZ T L 0 10 (.inr p) + numZ T L 0 10 (.inr p1) + numZ T L 0 10 (.inr p2) = ccs T L (.inr p) := by
      rw [z1, z2]
      unfold ccs cc0
      omega
    rw [Mo_readsCalls_b149]
    refine Wp_ifn (by decide) (Wp_ifp (by decide) ?_)
    unfold Mo_readsCalls_b170
    rw [show (10 : Int32) = iv 10 from iv_lit _, iv_sub, es]
    rw [z1] at t3 b2
    rw [z2] at t3 b3
    have sb : ccs T L (.inr p) = cc0 T L (.inr p) + cc1 T L (.inr p) + cc2 T L (.inr p) := rfl
    have b1' : 0 ≤ cc0 T L (.inr p) ∧ cc0 T L (.inr p) ≤ 10 := b1
    refine Wp_ifp (by decide) (cstepM (k := 3) (lo := 10 - ccs T L (.inr p)) (hi := 10 - ccs T L (.inr p)) hN x3 l3 hp3 t3 (by omega) ha hb rfl rfl (by omega) (by omega) (fun f h4 f4 en g1 g2 => ?_) (fun p4 h4 f4 x4 en4 l4 hp4 t4 b4 => ?_))
    · unfold ccR
      rw [er, en]
      exact ⟨((f1.tr f2).tr f3).tr f4, ⟨rfl, g1, g2⟩, fun z => by cases z⟩
    have z3 : numZ T L (10 - ccs T L (.inr p)) (10 - ccs T L (.inr p)) (.inr p3) = cc3 T L (.inr p) := by unfold cc3; rw [er]
    rw [Mo_readsCalls_b149]
    rw [z3] at t4
    refine Wp_ifp (by decide) (markCM hN x4 l4 hp4 t4 ha hb (fun v h5 f5 g5 t5 => ⟨(((f1.tr f2).tr f3).tr f4).tr f5, ?_, fun _ => t5⟩) (b + 1 - a).toNat a h4 (by omega) (by omega) FrK.rf rfl rfl (fun q hq => ?_) N (by omega))
    · rw [t4.2.2.1 q hq]
      unfold setK
      congr 1
      rw [if_neg (by omega)]
      rfl
    · unfold ccR
      rw [er, en4]
      exact g5
  exact key N (by omega)
theorem readsCallsM {N : Nat} {T : Nat → Int} {L p : Nat} {S : Sta} {h : PH} (hN : 1100 ≤ N) (x : TxM T L h) (l : LexM T L p h) (hp : p ≤ L) (st : StM T L S h) (h0 : 1 ≤ sH S 0 ∧ sH S 0 ≤ 24) (h17 : 0 ≤ sH S 17 ∧ sH S 17 ≤ 8) (e : tWx T L p = (11 : Nat)) : Wp (Mo_readsCalls N 92 h) (LnK T L p S h) := by
  have kl := K27_lits
  have eR : hlR T L S p = if sH S 17 = 8 then .inl (5 + 16 * (tB T L p : Nat)) else ccR T L (caQ T L (sK S) (sH S 0) (.inr (tE T L p))) := by
    unfold hlR
    rw [if_pos (by omega)]
  have eS : hlS T L S p = mkS (up (sH S) 17 (sH S 17 + 1)) (caC T L (sC S) (sK S) (sH S 0) (.inr (tE T L p))) (setK (sK S) (caA T L (sH S 0) (.inr (tE T L p))) (caB T L (sK S) (sH S 0) (.inr (tE T L p)))) (sD S) (sPl S) (sE S) := by
    unfold hlS
    rw [if_pos (by omega)]
  have e35 : hI h 94 35 = iv (sH S 17) := st.1 17 (by omega)
  unfold Mo_readsCalls LnK
  rw [eR, eS]
  refine Wp_ck (by rw [k92 x.1]) (Wp_bn (p92_10 x.1) (Wp_ck (by rw [k94 x.1]) (Wp_ck (by rw [k94 x.1]; decide) ?_)))
  rw [show ix 35 = 35 from rfl, e35, il8]
  refine Wp_if (fun c => ?_) (fun c => ?_)
  · rw [iv_eq (by omega) (by omega) (by omega) (by omega)] at c
    rw [if_pos c, show (5 : Int32) = iv 5 from iv_lit _]
    refine Wp_bde (failM x l) (Wp_ret ⟨FrK.rf.w (by omega), ⟨rfl, ?_, flt_b hp x.2.1 (by omega)⟩, fun z => by cases z⟩)
    rw [hI_wI, if_pos ⟨rfl, rfl⟩]
  · rw [iv_eq (by omega) (by omega) (by omega) (by omega)] at c
    rw [if_neg c]
    refine Wp_bd2 (nextR hN x l hp) ?_
    rintro - h1 ⟨f1, l1⟩
    have x1 := f1.tx x
    have t1 := st.y f1.y
    have hp1 := tE_le (T := T) hp
    have e0 : ∀ k, StM T L S k → hI k 94 18 = iv (sH S 0) := fun k t => t.1 0 (by omega)
    generalize tE T L p = p1 at l1 hp1 ⊢
    have a := caA_b (T := T) (L := L) (r := .inr p1) h0
    have b := caB_b (T := T) (L := L) (K := sK S) (r := .inr p1) h0
    refine Wp_ck (by rw [k92 x1.1]) (Wp_bn (p92_10 x1.1) (Wp_ck (by rw [k94 x1.1]) (Wp_ck (by rw [k94 x1.1]; decide) ?_)))
    rw [show ix 18 = 18 from rfl, e0 h1 t1]
    refine numK (lo := 0) (hi := sH S 0 - 1) hN x1 l1 hp1 il0 (by rw [il1, iv_sub]) (by omega) (by omega) (fun f h2 f2 en g1 g2 => ?_) (fun p2 h2 f2 x2 en2 l2 hp2 n2 b2 => ?_)
    · unfold caQ caP
      rw [en]
      exact ⟨f1.y.k.tr f2.k, ⟨rfl, g1, g2⟩, fun z => by cases z⟩
    have n2' : hI h2 92 31 = iv (caA T L (sH S 0) (.inr p1)) := n2
    have t2 := t1.y f2
    refine Wp_ck (by rw [k92 x2.1]) (wordK (i := 15) hN x2 l2 hp2 (by omega) (by rw [kl.2.2.2.2.2.2.2.2.2.2.2.2.2.2.2.1]; exact jv_lit _) (fun f h3 f3 en g1 g2 => ?_) (fun p3 h3 f3 x3 en3 l3 hp3 n3 => ?_))
    · have en' : keyR T L 15 (.inr p2) = .inl f := en
      unfold caQ caP
      rw [en2, en']
      exact ⟨(f1.y.k.tr f2.k).tr f3.k, ⟨rfl, g1, g2⟩, fun z => by cases z⟩
    have en3' : keyR T L 15 (.inr p2) = .inr p3 := en3
    have t3 := t2.y f3
    have f03 : FrK h h3 := (f1.y.k.tr f2.k).tr f3.k
    have cb := tCd_b (T := T) (L := L) (p := p3)
    have ci := (tCd_iff (T := T) (L := L) (p := p3)).2.2.1
    have ep : caP T L (sK S) (sH S 0) (.inr p1) = if tKd T L p3 = 1 ∧ caA T L (sH S 0) (.inr p1) ≤ tNm T L p3 ∧ tNm T L p3 ≤ sH S 0 - 1 ∧ anK (sK S) (caA T L (sH S 0) (.inr p1)) (tNm T L p3 + 1).toNat = true then .inl (3 + 16 * (tB T L p3 : Nat)) else .inr p3 := by
      unfold caP
      rw [en2, en3']
      rfl
    have fin : caP T L (sK S) (sH S 0) (.inr p1) = .inr p3 → Wp (Mo_readsCalls_b120 N 92 (iv (caA T L (sH S 0) (.inr p1))) h3) (fun v h2 => FrK h h2 ∧ GdM T L (ccR T L (caQ T L (sK S) (sH S 0) (.inr p1))) v h2 ∧ (v = true → StM T L (mkS (up (sH S) 17 (sH S 17 + 1)) (caC T L (sC S) (sK S) (sH S 0) (.inr p1)) (setK (sK S) (caA T L (sH S 0) (.inr p1)) (caB T L (sK S) (sH S 0) (.inr p1))) (sD S) (sPl S) (sE S)) h2)) := by
      intro ep2
      have eq : caQ T L (sK S) (sH S 0) (.inr p1) = numP T L (caA T L (sH S 0) (.inr p1)) (sH S 0 - 1) (.inr p3) := by unfold caQ; rw [ep2]
      have eb : numZ T L (caA T L (sH S 0) (.inr p1)) (sH S 0 - 1) (.inr p3) = caB T L (sK S) (sH S 0) (.inr p1) := by unfold caB; rw [ep2]
      unfold Mo_readsCalls_b120
      refine Wp_ck (by rw [k92 x3.1]) (Wp_bn (p92_10 x3.1) (Wp_ck (by rw [k94 x3.1]) (Wp_ck (by rw [k94 x3.1]; decide) ?_)))
      rw [show ix 18 = 18 from rfl, e0 h3 t3]
      refine numK (lo := caA T L (sH S 0) (.inr p1)) (hi := sH S 0 - 1) hN x3 l3 hp3 rfl (by rw [il1, iv_sub]) (by omega) (by omega) (fun f h4 f4 en g1 g2 => ?_) (fun p4 h4 f4 x4 en4 l4 hp4 n4 b4 => ?_)
      · rw [eq, en]
        exact ⟨f03.tr f4.k, ⟨rfl, g1, g2⟩, fun z => by cases z⟩
      · rw [eb] at n4
        refine Wp_ck (by rw [k92 x4.1]) ?_
        rw [n4]
        have t4 : StM T L (mkS (sH S) (sC S) (sK S) (sD S) (sPl S) (sE S)) h4 := t3.y f4
        refine Wp_mono (chancesM (b := caB T L (sK S) (sH S 0) (.inr p1)) hN x4 l4 hp4 t4 a b) ?_
        rintro v h5 ⟨f5, g5, t5⟩
        refine ⟨(f03.tr f4.k).tr f5, ?_, fun z => ?_⟩
        · rw [eq, en4]; exact g5
        · unfold caC
          rw [eq, en4]
          exact t5 z
    refine Wp_ck (by rw [k92 x3.1]) ?_
    rw [l3.2.2.1, il2, n2']
    refine Wp_if (fun c2 => ?_) (fun c2 => ?_)
    · rw [iv_eq (by omega) (by omega) (by omega) (by omega)] at c2
      have k1 := ci.mp c2
      have nb := tNm_b k1
      refine Wp_bn (p92_10 x3.1) (Wp_ck (by rw [k94 x3.1]) (Wp_ck (by rw [k94 x3.1]; decide) ?_))
      rw [e0 h3 t3, l3.2.2.2.2 k1, il1, iv_sub]
      refine Wp_bde (within_eq (by omega) (by omega) (by omega)) ?_
      simp only [bI_0]
      by_cases d : caA T L (sH S 0) (.inr p1) ≤ tNm T L p3 ∧ tNm T L p3 ≤ sH S 0 - 1
      · rw [decide_eq_true d]
        refine Wp_ifn (by decide) ?_
        rw [calledM x3 l3 t3 k1 (by omega) (tNm T L p3 + 1 - caA T L (sH S 0) (.inr p1)).toNat _ (by omega) (by omega) N (by omega)]
        by_cases z : anK (sK S) (caA T L (sH S 0) (.inr p1)) (tNm T L p3 + 1).toNat = true
        · rw [if_pos z]
          rw [if_pos ⟨k1, d.1, d.2, z⟩] at ep
          unfold caQ
          rw [ep]
          refine Wp_ret ⟨f03.tr (FrK.rf.w (by omega)), ⟨rfl, ?_, flt_b hp3 x3.2.1 (by omega)⟩, fun z => by cases z⟩
          rw [hI_wI, if_pos ⟨rfl, rfl⟩]
        · rw [if_neg z]
          rw [if_neg (fun y => z y.2.2.2)] at ep
          exact fin ep
      · rw [decide_eq_false d]
        rw [if_neg (fun y => d ⟨y.2.1, y.2.2.1⟩)] at ep
        exact Wp_ifp rfl (fin ep)
    · rw [iv_eq (by omega) (by omega) (by omega) (by omega)] at c2
      rw [if_neg (fun y => c2 (ci.mpr y.1))] at ep
      exact fin ep
