/-! THE PURE PROOFS, 43: the reference works its codes out, to the end. -/
theorem ejCmp {N n : Nat} {k : Int} {a b : Ex} (hk : k = -9 ∨ k = -10) (x : EvJ N 2 n a) (y : EvJ N 2 n b) : EvJ N 3 n (xop k a b) := by
  have pi : infx (xop k a b) = infx a ++ kc k :: infx b := rfl
  have pl : (infx (xop k a b)).length = (infx a).length + ((infx b).length + 1) := by rw [pi, List.length_append]; rfl
  have x1 := x.1
  have x2 := x.2.1
  have y2 := y.2.1
  refine ⟨x1, by omega, fun xb en d j fuel h Q m hd st le nt bg kk => ?_⟩
  have he := m.2.2.1
  rw [pi] at st
  rw [pl] at le kk ⊢
  have st2 := st.app
  rw [show fuel + ((infx a).length + ((infx b).length + 1)) = ((fuel + (infx b).length) + 1) + (infx a).length from by omega]
  refine x.2.2 xb en d j _ h Q m hd st2.1 (by omega) nt ⟨bg.1, fun _ => bg.2.1 (by omega), fun z => by omega, fun z => by omega⟩ ?_
  intro h1 f1 e1 k1 g1
  have m1 := f1.ma m
  have b137 : Wp (Mo_worked_b137 N (Mo_worked_b14 N (fuel + (infx b).length)) 92 (iv xb) (iv d) (iv ((j + (infx a).length : Nat) : Int)) (iv (kc k)) h1) Q := by
    unfold Mo_worked_b137
    refine Wp_ck (by rw [k92 m1.1]) (Wp_bd2 (sumsM (Q := fun _ h3 => h3 = wI (wI h1 107 d (SmS d h1)) 110 d 0) m1.1 (by omega) rfl) ?_)
    rintro - h3 rfl
    have f3 : FrMd d h (wI (wI h1 107 d (SmS d h1)) 110 d 0) := (f1.w (by omega) (by omega)).w (by omega) (by omega)
    have s3 := f3.1.shp m.1
    have k3 : kept 3 d h (wI (wI h1 107 d (SmS d h1)) 110 d 0) := ((k1.dn (by omega)).w (by omega)).w (by omega)
    have v3 : hI (wI (wI h1 107 d (SmS d h1)) 110 d 0) 107 d = vlu a (hI h 112) := by rw [← g1.2.1 rfl]; simp [hI_wI]
    have t3 : hI (wI (wI h1 107 d (SmS d h1)) 110 d 0) 110 d = 0 := by simp [hI_wI]
    have e3 : hI (wI (wI h1 107 d (SmS d h1)) 110 d 0) 111 d = hI h 111 d := by simp [hI_wI, e1]
    generalize (wI (wI h1 107 d (SmS d h1)) 110 d 0) = h3 at f3 s3 k3 v3 t3 e3 ⊢
    refine Wp_ck (by rw [k92 s3]) (Wp_bn (p92_25 s3) (Wp_ck (by rw [k107 s3]) (Wp_ck (by rw [k107 s3]; exact inb_iv (by omega) (by omega) (by omega)) (Wp_bn (p92_23 s3) (Wp_ck (by rw [k105 s3]) (Wp_ck (by rw [k105 s3]; exact inb_iv (by omega) (by omega) (by omega)) (Wp_lt ?_)))))))
    rw [ix_nat (by omega), v3]
    have f4 := f3.w (a := 105) (i := d) (v := vlu a (hI h 112)) (by omega) (by omega)
    have s4 := f4.1.shp m.1
    refine Wp_bn (p92_24 s4) (Wp_ck (by rw [k106 s4]) (Wp_ck (by rw [k106 s4]; exact inb_iv (by omega) (by omega) (by omega)) (Wp_lt ?_)))
    have f5 := f4.w (a := 106) (i := d) (v := iv (kc k)) (by omega) (by omega)
    have s5 := f5.1.shp m.1
    refine Wp_bn (p92_25 s5) (Wp_ck (by rw [k107 s5]) (Wp_ck (by rw [k107 s5]; exact inb_iv (by omega) (by omega) (by omega)) (Wp_lt ?_)))
    have f6 := f5.w (a := 107) (i := d) (v := 0) (by omega) (by omega)
    have s6 := f6.1.shp m.1
    refine Wp_bn (p92_26 s6) (Wp_ck (by rw [k108 s6]) (Wp_ck (by rw [k108 s6]; exact inb_iv (by omega) (by omega) (by omega)) (Wp_lt ?_)))
    have f7 := f6.w (a := 108) (i := d) (v := 20) (by omega) (by omega)
    have k7 : kept 3 d h (wI (wI (wI (wI h3 105 d (vlu a (hI h 112))) 106 d (iv (kc k))) 107 d 0) 108 d 20) := (((k3.w (by omega)).w (by omega)).w (by omega)).w (by omega)
    have e7 : hI (wI (wI (wI (wI h3 105 d (vlu a (hI h 112))) 106 d (iv (kc k))) 107 d 0) 108 d 20) 111 d = hI h 111 d := by simp [hI_wI, e3]
    have c5 : hI (wI (wI (wI (wI h3 105 d (vlu a (hI h 112))) 106 d (iv (kc k))) 107 d 0) 108 d 20) 105 d = vlu a (hI h 112) := by simp [hI_wI]
    have c6 : hI (wI (wI (wI (wI h3 105 d (vlu a (hI h 112))) 106 d (iv (kc k))) 107 d 0) 108 d 20) 106 d = iv (kc k) := by simp [hI_wI]
    have c7 : hI (wI (wI (wI (wI h3 105 d (vlu a (hI h 112))) 106 d (iv (kc k))) 107 d 0) 108 d 20) 107 d = 0 := by simp [hI_wI]
    have c8 : hI (wI (wI (wI (wI h3 105 d (vlu a (hI h 112))) 106 d (iv (kc k))) 107 d 0) 108 d 20) 108 d = 20 := by simp [hI_wI]
    have c10 : hI (wI (wI (wI (wI h3 105 d (vlu a (hI h 112))) 106 d (iv (kc k))) 107 d 0) 108 d 20) 110 d = 0 := by simp [hI_wI, t3]
    unfold Mo_worked_b329
    rw [il1, iv_add]
    generalize (wI (wI (wI (wI h3 105 d (vlu a (hI h 112))) 106 d (iv (kc k))) 107 d 0) 108 d 20) = h7 at f7 k7 e7 c5 c6 c7 c8 c10 ⊢
    refine y.2.2 xb en d (j + (infx a).length + 1) fuel h7 Q (f7.ma m) hd (st2.2.cons.2.fr f7) (by omega) (by rw [e7]; exact nt) ⟨c10, fun _ => ⟨c7, c8⟩, fun z => by omega, fun z => by omega⟩ ?_
    intro h8 f8 e8 k8 g8
    have r := kk h8 (f7.tr f8) (e8.trans e7) (k7.tr (k8.dn (by omega))) ⟨fun z => by omega, fun z => by omega, fun _ => ?_, fun z => by omega⟩
    · rw [show j + (infx a).length + 1 + (infx b).length = j + ((infx a).length + ((infx b).length + 1)) from by omega]
      exact r
    · unfold TsS
      rw [k8 106 (by omega) (by omega), k8 105 (by omega) (by omega), c5, c6, g8.2.1 rfl, f7.fa]
      show _ = jn k (vlu a (hI h 112)) (vlu b (hI h 112))
      generalize vlu a (hI h 112) = u
      generalize vlu b (hI h 112) = v
      rcases hk with rfl | rfl
      · rw [if_pos (by decide)]
        show _ = tf (u < v)
        unfold tf
        by_cases z : v ≤ u
        · rw [if_pos z, if_neg (Int32.not_lt.mpr z)]
        · rw [if_neg z, if_pos (Int32.not_le.mp z)]
      · rw [if_neg (by decide), if_pos (by decide)]
        rfl
  have hc : hI h1 100 (j + (infx a).length) = iv (kc k) := by rw [f1.1.I (by omega)]; exact st2.2.cons.1
  rcases hk with rfl | rfl
  · exact wk24 m1 (by omega) hc rfl b137
  · exact wk25 m1 (by omega) hc rfl b137
theorem ejBth {N n : Nat} {k : Int} {a b : Ex} (hk : k = -7 ∨ k = -8) (x : EvJ N 4 n a) (y : EvJ N 3 n b) : EvJ N 4 n (xop k a b) := by
  have pi : infx (xop k a b) = infx a ++ kc k :: infx b := rfl
  have pl : (infx (xop k a b)).length = (infx a).length + ((infx b).length + 1) := by rw [pi, List.length_append]; rfl
  have x1 := x.1
  have x2 := x.2.1
  have y2 := y.2.1
  refine ⟨x1, by omega, fun xb en d j fuel h Q m hd st le nt bg kk => ?_⟩
  have he := m.2.2.1
  rw [pi] at st
  rw [pl] at le kk ⊢
  have st2 := st.app
  rw [show fuel + ((infx a).length + ((infx b).length + 1)) = ((fuel + (infx b).length) + 1) + (infx a).length from by omega]
  refine x.2.2 xb en d j _ h Q m hd st2.1 (by omega) nt bg ?_
  intro h1 f1 e1 k1 g1
  have m1 := f1.ma m
  have b194 : Wp (Mo_worked_b194 N (Mo_worked_b14 N (fuel + (infx b).length)) 92 (iv xb) (iv d) (iv ((j + (infx a).length : Nat) : Int)) (iv (kc k)) h1) Q := by
    unfold Mo_worked_b194
    refine Wp_ck (by rw [k92 m1.1]) (Wp_bd2 (testsM (d := d) (Q := fun _ h3 => FrMd d h1 h3 ∧ hI h3 103 d = OrS d h1 ∧ hI h3 106 d = 0 ∧ hI h3 107 d = 0 ∧ hI h3 108 d = 20 ∧ hI h3 110 d = 0 ∧ hI h3 111 = hI h1 111) m1.1 (by omega) (fun h3 f3 v3 c6 c7 c8 c10 _ c11 => ⟨f3, v3, c6, c7, c8, c10, c11⟩)) ?_)
    rintro - h3 ⟨f3', v3, c6, c7, c8, c10, c11⟩
    have f3 := f1.tr f3'
    have s3 := f3.1.shp m.1
    refine Wp_ck (by rw [k92 s3]) (Wp_bn (p92_22 s3) (Wp_ck (by rw [k104 s3]) (Wp_ck (by rw [k104 s3]; exact inb_iv (by omega) (by omega) (by omega)) (Wp_lt ?_))))
    rw [ix_nat (by omega)]
    unfold Mo_worked_b329
    rw [il1, iv_add]
    have f4 : FrMd d h (wI h3 104 d (iv (kc k))) := f3.w (by omega) (by omega)
    have e4 : hI (wI h3 104 d (iv (kc k))) 111 d = hI h 111 d := by rw [hI_wI, if_neg (by omega), c11, e1]
    have w3 : hI (wI h3 104 d (iv (kc k))) 103 d = vlu a (hI h 112) := by rw [hI_wI, if_neg (by omega), v3, g1.2.2.2 rfl]
    have w4 : hI (wI h3 104 d (iv (kc k))) 104 d = iv (kc k) := by rw [hI_wI, if_pos ⟨rfl, rfl⟩]
    have w6 : hI (wI h3 104 d (iv (kc k))) 106 d = 0 := by rw [hI_wI, if_neg (by omega), c6]
    have w7 : hI (wI h3 104 d (iv (kc k))) 107 d = 0 := by rw [hI_wI, if_neg (by omega), c7]
    have w8 : hI (wI h3 104 d (iv (kc k))) 108 d = 20 := by rw [hI_wI, if_neg (by omega), c8]
    have w10 : hI (wI h3 104 d (iv (kc k))) 110 d = 0 := by rw [hI_wI, if_neg (by omega), c10]
    generalize (wI h3 104 d (iv (kc k))) = h4 at f4 e4 w3 w4 w6 w7 w8 w10 ⊢
    refine y.2.2 xb en d (j + (infx a).length + 1) fuel h4 Q (f4.ma m) hd (st2.2.cons.2.fr f4) (by omega) (by rw [e4]; exact nt) ⟨w10, fun _ => ⟨w7, w8⟩, fun _ => w6, fun z => by omega⟩ ?_
    intro h5 f5 e5 k5 g5
    have r := kk h5 (f4.tr f5) (e5.trans e4) (fun b y z => by omega) ⟨fun z => by omega, fun z => by omega, fun z => by omega, fun _ => ?_⟩
    · rw [show j + (infx a).length + 1 + (infx b).length = j + ((infx a).length + ((infx b).length + 1)) from by omega]
      exact r
    · unfold OrS
      rw [k5 104 (by omega) (by omega), k5 103 (by omega) (by omega), w3, w4, g5.2.2.1 rfl, f4.fa]
      show _ = jn k (vlu a (hI h 112)) (vlu b (hI h 112))
      generalize vlu a (hI h 112) = u
      generalize vlu b (hI h 112) = v
      unfold orS
      rcases hk with rfl | rfl
      · rw [if_pos (by decide)]
        show _ = tf (¬ u = 0 ∧ ¬ v = 0)
        unfold tf
        by_cases z : u = 0
        · rw [if_pos z, if_neg (fun w => w.1 z)]
        · rw [if_neg z]
          by_cases z2 : v = 0
          · rw [if_pos z2, if_neg (fun w => w.2 z2)]
          · rw [if_neg z2, if_pos ⟨z, z2⟩]
      · rw [if_neg (by decide), if_pos (by decide)]
        show _ = tf (¬ (u = 0 ∧ v = 0))
        unfold tf
        by_cases z : u = 0
        · rw [if_pos z]
          by_cases z2 : v = 0
          · rw [if_pos z2, if_neg (fun w => w ⟨z, z2⟩)]
          · rw [if_neg z2, if_pos (fun w => z2 w.2)]
        · rw [if_neg z, if_pos (fun w => z w.1)]
  have hc : hI h1 100 (j + (infx a).length) = iv (kc k) := by rw [f1.1.I (by omega)]; exact st2.2.cons.1
  rcases hk with rfl | rfl
  · exact wk26 m1 (by omega) hc rfl b194
  · exact wk27 m1 (by omega) hc rfl b194
def EvP (N : Nat) : Nat → Nat → Ex → Prop
  | 0, n, e => EvI0 N n e
  | l + 1, n, e => EvJ N (l + 1) n e
theorem evClM {N : Nat} (hN : 100 ≤ N) : ClP (EvP N) := by
  refine ⟨fun n v h0 h9 => eiNum hN h0 h9, fun n i h1 h5 => eiFct hN h1 h5, fun n e x => eiNo x, fun n e x => eiPar hN x, fun l n e hl x => ?_, fun n a b x y => ejMul x y, fun n a b k hk x y => ejAdd hk x y, fun n a b k hk x y => ejCmp hk x y, fun n a b k hk x y => ejBth hk x y⟩
  obtain rfl | rfl | rfl | rfl : l = 0 ∨ l = 1 ∨ l = 2 ∨ l = 3 := by omega
  · exact ej1 x
  · exact ej2 x
  · exact ej3 x
  · exact ej4 x
def SmV (e : Ex) : Prop := ∀ F G : Nat → Int32, (∀ i, 1 ≤ i → i ≤ 5 → F i = G i) → vlu e F = vlu e G
theorem vluClP : ClP (fun _ _ e => SmV e) := by
  have op : ∀ k a b, SmV a → SmV b → SmV (xop k a b) := by
    intro k a b x y F G fg
    show jn k _ _ = jn k _ _
    rw [x F G fg, y F G fg]
  refine ⟨fun n v _ _ F G _ => rfl, fun n i h1 h5 F G fg => fg i.toNat (by omega) (by omega), fun n e x F G fg => ?_, fun n e x F G fg => x F G fg, fun l n e _ x => x, fun n a b x y => op _ a b x y, fun n a b k _ x y => op _ a b x y, fun n a b k _ x y => op _ a b x y, fun n a b k _ x y => op _ a b x y⟩
  show tf (vlu e F = 0) = tf (vlu e G = 0)
  rw [x F G fg]
/-- how much a guest gets -/
def clp (v : Int32) : Int := if v < 0 then 0 else if 4 < v then 4 else v.toInt
theorem clp_b (v : Int32) : 0 ≤ clp v ∧ clp v ≤ 4 := by
  unfold clp
  split
  · omega
  · next c =>
    split
    · omega
    · next d =>
      rw [Int32.lt_iff_toInt_lt, show (0 : Int32).toInt = 0 from by decide] at c
      rw [Int32.lt_iff_toInt_lt, show (4 : Int32).toInt = 4 from by decide] at d
      omega
