/-! THE PURE PROOFS, 42: the reference works its codes out: what joins parts. -/
theorem kept.rf {l d : Nat} {h : PH} : kept l d h h := fun _ _ _ => rfl
theorem kept.tr {l d : Nat} {h h1 h2 : PH} (a : kept l d h h1) (b : kept l d h1 h2) : kept l d h h2 := fun c x y => (b c x y).trans (a c x y)
theorem kept.dn {l l2 d : Nat} {h h2 : PH} (a : kept l d h h2) (g : l ≤ l2) : kept l2 d h h2 := fun c x y => a c x (by omega)
theorem kept.w {l d a i : Nat} {v : Int32} {h0 h : PH} (k : kept l d h0 h) (ha : 111 - 2 * l ≤ a) : kept l d h0 (wI h a i v) := fun b x y => by rw [hI_wI, if_neg (by omega)]; exact k b x y
theorem FrMd.kp {l d : Nat} {h h2 : PH} (f : FrMd (d + 1) h h2) : kept l d h h2 := fun b x y => f.2 b d x (by omega) (by omega)
theorem ej1 {N n : Nat} {e : Ex} (x : EvI0 N n e) : EvJ N 1 n e := by
  have x1 := x.1
  have x2 := x.2.1
  refine ⟨x1, x2, fun xb en d j fuel h Q m hd st le nt bg kk => x.2.2 xb en d j fuel h Q m hd st le ?_⟩
  intro h2 fl f2 hfl
  have he := m.2.2.1
  have e11 : hI h2 111 d = hI h 111 d := f2.2 111 d (by omega) (by omega) (by omega)
  have e10 : hI h2 110 d = 0 := by rw [f2.2 110 d (by omega) (by omega) (by omega)]; exact bg.1
  refine operM (f2.ma m) (by omega) (by rw [e11]; exact nt) (by omega) ?_ (by omega)
  rw [if_pos e10, show j + (infx e).length - 1 + 1 = j + (infx e).length from by omega]
  refine kk _ ((f2.lo (by omega)).w (by omega) (by omega)) (by rw [hI_wI, if_neg (by omega), e11]) (f2.kp.w (by omega)) ⟨fun _ => by rw [hI_wI, if_pos ⟨rfl, rfl⟩], fun z => by omega, fun z => by omega, fun z => by omega⟩
theorem ejMul {N n : Nat} {a b : Ex} (x : EvJ N 1 n a) (y : EvI0 N n b) : EvJ N 1 n (xop (-13) a b) := by
  have pi : infx (xop (-13) a b) = infx a ++ 22 :: infx b := rfl
  have pl : (infx (xop (-13) a b)).length = (infx a).length + ((infx b).length + 1) := by rw [pi, List.length_append]; rfl
  have x1 := x.1
  have x2 := x.2.1
  have y2 := y.2.1
  refine ⟨x1, by omega, fun xb en d j fuel h Q m hd st le nt bg kk => ?_⟩
  have he := m.2.2.1
  rw [pi] at st
  rw [pl] at le kk ⊢
  have st2 := st.app
  rw [show fuel + ((infx a).length + ((infx b).length + 1)) = ((fuel + (infx b).length) + 1) + (infx a).length from by omega]
  refine x.2.2 xb en d j _ h Q m hd st2.1 (by omega) nt bg ?_
  intro h1 f1 e1 k1 g1
  have m1 := f1.ma m
  refine wk22 m1 (by omega) (by rw [f1.1.I (by omega)]; exact st2.2.cons.1) ⟨rfl, by omega⟩ ?_
  unfold Mo_worked_b329
  rw [il1, iv_add]
  have f2 : FrMd d h (wI h1 110 d (iv 22)) := f1.w (by omega) (by omega)
  have k2 : kept 1 d h (wI h1 110 d (iv 22)) := k1.w (by omega)
  have e2 : hI (wI h1 110 d (iv 22)) 111 d = hI h 111 d := by rw [hI_wI, if_neg (by omega), e1]
  have v2 : hI (wI h1 110 d (iv 22)) 109 d = vlu a (hI h 112) := by rw [hI_wI, if_neg (by omega)]; exact g1.1 rfl
  have t2 : ¬ hI (wI h1 110 d (iv 22)) 110 d = 0 := by rw [hI_wI, if_pos ⟨rfl, rfl⟩]; decide
  generalize (wI h1 110 d (iv 22)) = h2 at f2 k2 e2 v2 t2 ⊢
  refine y.2.2 xb en d (j + (infx a).length + 1) fuel h2 Q (f2.ma m) hd (st2.2.cons.2.fr f2) (by omega) ?_
  intro h3 fl f3 hfl
  have e3 : hI h3 111 d = hI h 111 d := by rw [f3.2 111 d (by omega) (by omega) (by omega), e2]
  have t3 : ¬ hI h3 110 d = 0 := by rw [f3.2 110 d (by omega) (by omega) (by omega)]; exact t2
  have v3 : hI h3 109 d = vlu a (hI h 112) := by rw [f3.2 109 d (by omega) (by omega) (by omega), v2]
  have f13 := f2.tr (f3.lo (by omega))
  refine operM (f13.ma m) (by omega) (by rw [e3]; exact nt) (by omega) ?_ (by omega)
  rw [if_neg t3, v3, f2.fa, show j + (infx a).length + 1 + (infx b).length - 1 + 1 = j + ((infx a).length + ((infx b).length + 1)) from by omega]
  refine kk _ (f13.w (by omega) (by omega)) (by rw [hI_wI, if_neg (by omega), e3]) ((k2.tr f3.kp).w (by omega)) ⟨fun _ => by rw [hI_wI, if_pos ⟨rfl, rfl⟩]; rfl, fun z => by omega, fun z => by omega, fun z => by omega⟩
theorem ej2 {N n : Nat} {e : Ex} (x : EvJ N 1 n e) : EvJ N 2 n e := by
  refine ⟨x.1, x.2.1, fun xb en d j fuel h Q m hd st le nt bg kk => x.2.2 xb en d j fuel h Q m hd st le nt ⟨bg.1, fun z => by omega, fun z => by omega, fun z => by omega⟩ ?_⟩
  intro h2 f2 e2 k2 g2
  refine kk h2 f2 e2 (k2.dn (by omega)) ⟨fun z => by omega, fun _ => ?_, fun z => by omega, fun z => by omega⟩
  unfold SmS
  rw [k2 107 (by omega) (by omega), k2 108 (by omega) (by omega), (bg.2.1 (by omega)).1, (bg.2.1 (by omega)).2, if_neg (by decide), g2.1 rfl, Int32.zero_add]
theorem ej3 {N n : Nat} {e : Ex} (x : EvJ N 2 n e) : EvJ N 3 n e := by
  refine ⟨x.1, x.2.1, fun xb en d j fuel h Q m hd st le nt bg kk => x.2.2 xb en d j fuel h Q m hd st le nt ⟨bg.1, fun _ => bg.2.1 (by omega), fun z => by omega, fun z => by omega⟩ ?_⟩
  intro h2 f2 e2 k2 g2
  refine kk h2 f2 e2 (k2.dn (by omega)) ⟨fun z => by omega, fun z => by omega, fun _ => ?_, fun z => by omega⟩
  unfold TsS
  rw [k2 106 (by omega) (by omega), bg.2.2.1 (by omega), if_neg (by decide), if_neg (by decide), g2.2.1 rfl]
theorem ej4 {N n : Nat} {e : Ex} (x : EvJ N 3 n e) : EvJ N 4 n e := by
  refine ⟨x.1, x.2.1, fun xb en d j fuel h Q m hd st le nt bg kk => x.2.2 xb en d j fuel h Q m hd st le nt ⟨bg.1, fun _ => bg.2.1 (by omega), fun _ => bg.2.2.1 (by omega), fun z => by omega⟩ ?_⟩
  intro h2 f2 e2 k2 g2
  refine kk h2 f2 e2 (k2.dn (by omega)) ⟨fun z => by omega, fun z => by omega, fun z => by omega, fun _ => ?_⟩
  unfold OrS orS
  rw [k2 104 (by omega) (by omega), bg.2.2.2 (by omega), if_neg (by decide), if_neg (by decide), g2.2.2.1 rfl]
theorem ejAdd {N n : Nat} {k : Int} {a b : Ex} (hk : k = -11 ∨ k = -12) (x : EvJ N 2 n a) (y : EvJ N 1 n b) : EvJ N 2 n (xop k a b) := by
  have pi : infx (xop k a b) = infx a ++ kc k :: infx b := rfl
  have pl : (infx (xop k a b)).length = (infx a).length + ((infx b).length + 1) := by rw [pi, List.length_append]; rfl
  have x1 := x.1
  have x2 := x.2.1
  have y2 := y.2.1
  refine ⟨x1, by omega, fun xb en d j fuel h Q m hd st le nt bg kk => ?_⟩
  have he := m.2.2.1
  rw [pi] at st
  rw [pl] at le kk ⊢
  have st2 := st.app
  rw [show fuel + ((infx a).length + ((infx b).length + 1)) = ((fuel + (infx b).length) + 1) + (infx a).length from by omega]
  refine x.2.2 xb en d j _ h Q m hd st2.1 (by omega) nt bg ?_
  intro h1 f1 e1 k1 g1
  have m1 := f1.ma m
  have b89 : Wp (Mo_worked_b89 N (Mo_worked_b14 N (fuel + (infx b).length)) 92 (iv xb) (iv d) (iv ((j + (infx a).length : Nat) : Int)) (iv (kc k)) h1) Q := by
    unfold Mo_worked_b89
    refine Wp_ck (by rw [k92 m1.1]) (Wp_bd2 (sumsM (Q := fun _ h3 => h3 = wI (wI h1 107 d (SmS d h1)) 110 d 0) m1.1 (by omega) rfl) ?_)
    rintro - h3 rfl
    have f3 : FrMd d h (wI (wI h1 107 d (SmS d h1)) 110 d 0) := (f1.w (by omega) (by omega)).w (by omega) (by omega)
    have s3 := f3.1.shp m.1
    refine Wp_ck (by rw [k92 s3]) (Wp_bn (p92_26 s3) (Wp_ck (by rw [k108 s3]) (Wp_ck (by rw [k108 s3]; exact inb_iv (by omega) (by omega) (by omega)) (Wp_lt ?_))))
    rw [ix_nat (by omega)]
    unfold Mo_worked_b329
    rw [il1, iv_add]
    have f4 : FrMd d h (wI (wI (wI h1 107 d (SmS d h1)) 110 d 0) 108 d (iv (kc k))) := f3.w (by omega) (by omega)
    have k4 : kept 2 d h (wI (wI (wI h1 107 d (SmS d h1)) 110 d 0) 108 d (iv (kc k))) := ((k1.w (by omega)).w (by omega)).w (by omega)
    have e4 : hI (wI (wI (wI h1 107 d (SmS d h1)) 110 d 0) 108 d (iv (kc k))) 111 d = hI h 111 d := by simp [hI_wI, e1]
    have v4 : hI (wI (wI (wI h1 107 d (SmS d h1)) 110 d 0) 108 d (iv (kc k))) 107 d = vlu a (hI h 112) := by rw [← g1.2.1 rfl]; simp [hI_wI]
    have c4 : hI (wI (wI (wI h1 107 d (SmS d h1)) 110 d 0) 108 d (iv (kc k))) 108 d = iv (kc k) := by simp [hI_wI]
    have t4 : hI (wI (wI (wI h1 107 d (SmS d h1)) 110 d 0) 108 d (iv (kc k))) 110 d = 0 := by simp [hI_wI]
    generalize (wI (wI (wI h1 107 d (SmS d h1)) 110 d 0) 108 d (iv (kc k))) = h4 at f4 k4 e4 v4 c4 t4 ⊢
    refine y.2.2 xb en d (j + (infx a).length + 1) fuel h4 Q (f4.ma m) hd (st2.2.cons.2.fr f4) (by omega) (by rw [e4]; exact nt) ⟨t4, fun z => by omega, fun z => by omega, fun z => by omega⟩ ?_
    intro h5 f5 e5 k5 g5
    have r := kk h5 (f4.tr f5) (e5.trans e4) (k4.tr (k5.dn (by omega))) ⟨fun z => by omega, fun _ => ?_, fun z => by omega, fun z => by omega⟩
    · rw [show j + (infx a).length + 1 + (infx b).length = j + ((infx a).length + ((infx b).length + 1)) from by omega]
      exact r
    · unfold SmS
      rw [k5 107 (by omega) (by omega), k5 108 (by omega) (by omega), v4, c4, g5.1 rfl, f4.fa]
      show _ = jn k (vlu a (hI h 112)) (vlu b (hI h 112))
      rcases hk with rfl | rfl
      · rw [if_neg (by decide)]; rfl
      · rw [if_pos (by decide)]; rfl
  have hc : hI h1 100 (j + (infx a).length) = iv (kc k) := by rw [f1.1.I (by omega)]; exact st2.2.cons.1
  rcases hk with rfl | rfl
  · exact wk20 m1 (by omega) hc rfl b89
  · exact wk21 m1 (by omega) hc rfl b89
