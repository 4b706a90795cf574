/-! THE PURE PROOFS, 82: the reference is asked. -/
section
variable {N : Nat} {g : Gs} {h : PH}
theorem ixA0 : ix (iv 0) = 0 := by decide
theorem ixA1 : ix (iv 1) = 1 := by decide
theorem RestM.s (x : RestM g h) : Shp h := x.1.1
theorem RestM.hs (x : RestM g h) : HsM (gsH g) (gsC g) h := x.2.1.1
theorem RestM.nt (x : RestM g h) : NtM (gsN g) h := x.2.2.1
theorem RestM.frR {h2 : PH} (x : RestM g h) (f : FrS SR h h2) (z : ∀ b, b ≠ 92 → hZ h2 b = hZ h b) (e : ∀ j, j ≠ 41 → j ≠ 42 → j ≠ 43 → j ≠ 47 → hI h2 92 j = hI h 92 j) : RestM g h2 ∧ MFr h h2 ∧ hI h2 92 0 = hI h 92 0 := ⟨x.cg (f.shp x.1.1) (fun b hb => by
  unfold LowM at hb
  exact ⟨(f.2.2.2 b (by unfold SR; omega)).1, z b (by omega)⟩) (e 1 (by omega) (by omega) (by omega) (by omega)) (e 40 (by omega) (by omega) (by omega) (by omega)), f.up (fun b eb => by unfold SR at eb; show 92 ≤ b ∧ b ≤ 125; omega), e 0 (by omega) (by omega) (by omega) (by omega)⟩
theorem RestM.frW {h2 : PH} (x : RestM g h) (f : FrW h h2) : RestM g h2 ∧ MFr h h2 ∧ hI h2 92 0 = hI h 92 0 := x.frR (f.1.up (fun b e => by unfold SV at e; unfold SR; omega)) f.2.2.1 f.2.2.2
theorem RestM.frV {h2 : PH} (x : RestM g h) (f : FrV h h2) : RestM g h2 ∧ MFr h h2 ∧ hI h2 92 0 = hI h 92 0 := x.frW f.ww
theorem isOnM (x : RestM g h) (k : GOK g) : Mo_isOn N 92 h = some (decide (opn g), h) := by
  have s := x.s
  have b := n_b k
  unfold Mo_isOn
  rw [ck_p (by rw [k92 s]), overM s k.1 x.hs x.nt k.2.2.1, bd_s]
  by_cases o : gsN g 0 = gsH g 0
  · rw [decide_eq_true o, if_neg (by decide), decide_eq_false (show ¬ opn g from fun y => y.1 o)]
  · rw [decide_eq_false o, if_pos (by decide), ck_p (by rw [k92 s]), p92_35 s, bn_s, ck_p (by rw [k116 s]), ck_p (by rw [k116 s]; decide), ix_l 6 (by omega), x.nt 6 (by omega), il0]
    simp only [show (iv (gsN g 6) = iv 0) ↔ gsN g 6 = 0 from iv_eq (by omega) (by omega) (by omega) (by omega)]
    by_cases d : gsN g 6 = 0
    · rw [if_pos d, decide_eq_true (show opn g from ⟨o, d⟩)]
    · rw [if_neg d, decide_eq_false (show ¬ opn g from fun y => d y.2)]
theorem isHabM {z : Int} (x : RestM g h) (k : GOK g) (hz : -2147483648 ≤ z ∧ z < 2147483648) : Mo_isHabit N 92 (iv z) h = some (decide (hbt g z), h) := by
  have s := x.s
  have b := n_b k
  unfold Mo_isHabit
  rw [il0]
  by_cases c : z < 0
  · rw [if_pos (by rw [iv_lt (by omega) (by omega) (by omega) (by omega)]; exact c), decide_eq_false (show ¬ hbt g z by omega)]
  · rw [if_neg (by rw [iv_lt (by omega) (by omega) (by omega) (by omega)]; exact c), ck_p (by rw [k92 s]), p92_10 s, bn_s, ck_p (by rw [k94 s]), ck_p (by rw [k94 s]; decide), ix_l 15 (by omega), x.hs.1 15 (by omega)]
    simp only [show (iv (gsH g 15) ≤ iv z) ↔ gsH g 15 ≤ z from iv_le (by omega) (by omega) (by omega) (by omega)]
    by_cases d : gsH g 15 ≤ z
    · rw [if_pos d, decide_eq_false (show ¬ hbt g z by omega)]
    · rw [if_neg d, decide_eq_true (show hbt g z by omega)]
theorem laysR {wet mute : Int} (hN : 3000 ≤ N) (x : RestM g h) (k : GOK g) (hwet : wet = 0 ∨ wet = 1) (hm : mute = 0 ∨ mute = 1) : Wp (Mo_laysValues N 92 (iv wet) (iv mute) h) (fun _ h2 => RestM g h2 ∧ MFr h h2 ∧ hI h2 92 0 = hI h 92 0 ∧ FlM wet mute h2 ∧ AboveF (gsH g) (Vq (gsH g) (gsC g) wet mute) (-1) h2) := by
  refine Wp_mono (laysV (by omega) x.s k.1 x.hs hwet hm) ?_
  rintro v h2 ⟨f, fl, ab⟩
  have y := x.frW f
  exact ⟨y.1, y.2.1, y.2.2, fl, ab⟩
theorem nowByR {wet mute : Int} (hN : 3000 ≤ N) (x : RestM g h) (k : GOK g) (hwet : wet = 0 ∨ wet = 1) (hm : mute = 0 ∨ mute = 1) : Wp (Mo_nowBy N 92 (iv wet) (iv mute) h) (fun v h2 => v = iv (Vq (gsH g) (gsC g) wet mute (gsN g 0) (gsN g 1) (gsN g 2) (if mute = 0 then gsN g 7 else 0)) ∧ RestM g h2 ∧ MFr h h2 ∧ hI h2 92 0 = hI h 92 0) := by
  have b := n_b k
  have s := x.s
  unfold Mo_nowBy
  refine Wp_ck (by rw [k92 s]) (Wp_bd2 (laysR hN x k hwet hm) ?_)
  rintro - h2 ⟨y, f, e0, fl, ab⟩
  have s2 := y.s
  have nt := y.nt
  have fin : ∀ w : Int, (w = 0 ∨ w = 1) → Wp (Mo_nowBy_b43 N (some 121) (iv (gsN g 0)) (iv (gsN g 1)) (iv (gsN g 2)) (iv w) h2) (fun v h3 => v = iv (Vq (gsH g) (gsC g) wet mute (gsN g 0) (gsN g 1) (gsN g 2) w) ∧ RestM g h3 ∧ MFr h h3 ∧ hI h3 92 0 = hI h 92 0) := by
    intro w hw
    have pb := plM_b (q := gsN g 0) (t := gsN g 1) (a := gsN g 2) (w := w) (by omega) (by omega) (by omega) (by omega)
    unfold Mo_nowBy_b43
    refine Wp_bde atM (Wp_bn rfl (Wp_ck (by rw [k121 s2]) (Wp_ck (by rw [k121 s2]; exact inb_iv pb.1 pb.2 (by omega)) (Wp_ret ⟨?_, y, f, e0⟩))))
    rw [ix_iv pb.1 (by omega)]
    exact ab (gsN g 0) (by omega) (by omega) _ _ _ (by omega) (by omega) (by omega) (by omega) hw
  refine Wp_ck (by rw [k92 s2]) (Wp_bn (p92_35 s2) (Wp_ck (by rw [k116 s2]) (Wp_ck (by rw [k116 s2]; decide) (Wp_ck (by rw [k116 s2]; decide) (Wp_ck (by rw [k116 s2]; decide) ?_)))))
  rw [p92_44 s2, ix_l 0 (by omega), ix_l 1 (by omega), ix_l 2 (by omega), ix_l 7 (by omega), nt 0 (by omega), nt 1 (by omega), nt 2 (by omega), nt 7 (by omega), il0]
  refine Wp_if (fun c => ?_) (fun c => ?_)
  · rw [iv_eq (by omega) (by omega) (by omega) (by omega)] at c
    rw [if_pos c]
    exact Wp_ck (by rw [k116 s2]; decide) (fin _ b.2.2.2.1)
  · rw [iv_eq (by omega) (by omega) (by omega) (by omega)] at c
    rw [if_neg c]
    exact fin 0 (Or.inl rfl)
theorem ThrM.no {h0 : PH} {ok : Prop} {w : Int} {v : Int32} (x : RestM g h) (f : MFr h0 h) (e : hI h 92 0 = iv 1) (no : ¬ ok) : Wp (some (v, h)) (ThrM g h0 ok w) := Wp_ret ⟨Or.inr ⟨no, e⟩, x, f⟩
theorem moCallsM {q m : Int} (x : RestM g h) (k : GOK g) (hq : -2147483648 ≤ q ∧ q < 2147483648) (hm : -2147483648 ≤ m ∧ m < 2147483648) : Wp (Mo_calls N 92 (iv q) (iv m) h) (AnsM g h (fCalls g q m)) := by
  have s0 := x.s
  have b := n_b k
  unfold Mo_calls fCalls
  rw [im1, il0, il3]
  refine Wp_ck (by rw [k92 s0]) (Wp_lt ?_)
  have x1 := x.t0 (v := iv 0)
  have f1 : MFr h (wI h 92 0 (iv 0)) := t0F
  have s := x1.1.1
  generalize wI h 92 0 (iv 0) = h1 at x1 f1 s ⊢
  refine Wp_bn (p92_10 s) (Wp_ck (by rw [k94 s]) (Wp_ck (by rw [k94 s]; decide) ?_))
  rw [ixA0, x1.hs.1 0 (by omega), il1, iv_sub]
  refine Wp_bde (within_eq (by omega) (by omega) (by omega)) ?_
  by_cases o : 0 ≤ q ∧ q ≤ gsH g 0 - 1
  · rw [decide_eq_true o]
    refine Wp_ifn (by decide) (Wp_bde (within_eq (by omega) (by omega) (by omega)) ?_)
    by_cases o2 : 0 ≤ m ∧ m ≤ 3
    · rw [decide_eq_true o2, if_pos (show (0 ≤ q ∧ q < gsH g 0) ∧ 0 ≤ m ∧ m ≤ 3 by omega)]
      refine Wp_ifn (by decide) ?_
      rw [show (4 : Int32) = iv 4 from iv_lit _, iv_mul, iv_add]
      refine Wp_ck (by rw [k92 s]) (Wp_bn (p92_11 s) (Wp_ck (by rw [k95 s]) (Wp_ck (by rw [k95 s]; exact inb_iv (by omega) (by omega) (by omega)) (Wp_ret ⟨?_, x1, f1⟩))))
      rw [ix_iv (by omega) (by omega), x1.hs.2 _ (by omega)]
      unfold cw ch
      rw [if_pos rfl]
    · rw [decide_eq_false o2]
      exact Wp_ifp (by decide) (AnsM.no x1 f1 (if_neg (fun y => o2 y.2)))
  · rw [decide_eq_false o]
    exact Wp_ifp (by decide) (AnsM.no x1 f1 (if_neg (by omega)))
theorem moBestM {z : Int} (hN : 3000 ≤ N) (x : RestM g h) (k : GOK g) (hz : -2147483648 ≤ z ∧ z < 2147483648) : Wp (Mo_best N 92 (iv z) h) (AnsM g h (fBest g z)) := by
  have s0 := x.s
  have b := n_b k
  unfold Mo_best fBest
  rw [im1, il0, il1, show (4 : Int32) = iv 4 from iv_lit _]
  refine Wp_ck (by rw [k92 s0]) (Wp_lt ?_)
  have x1 := x.t0 (v := iv 0)
  have f1 : MFr h (wI h 92 0 (iv 0)) := t0F
  generalize wI h 92 0 (iv 0) = h1 at x1 f1 ⊢
  refine Wp_bde (isOnM x1 k) ?_
  by_cases o : opn g
  · rw [decide_eq_true o]
    refine Wp_ifn (by decide) (Wp_bde (within_eq (by omega) (by omega) (by omega)) ?_)
    by_cases o2 : 1 ≤ z ∧ z ≤ 4
    · rw [decide_eq_true o2, if_pos (show opn g ∧ 1 ≤ z ∧ z ≤ 4 from ⟨o, o2⟩)]
      refine Wp_ifn (by decide) (Wp_ck (by rw [k92 x1.s]) (Wp_bd2 (laysR hN x1 k (Or.inl rfl) (Or.inl rfl)) ?_))
      rintro - h2 ⟨y, f, e0, fl, ab⟩
      have s2 := y.s
      have o1 := o.1
      refine Wp_ck (by rw [k92 s2]) (Wp_bn (p92_35 s2) (Wp_ck (by rw [k116 s2]) (Wp_ck (by rw [k116 s2]; decide) (Wp_ck (by rw [k116 s2]; decide) (Wp_ck (by rw [k116 s2]; decide) ?_)))))
      rw [ixA0, ixA1, ix_l 2 (by omega), y.nt 0 (by omega), y.nt 1 (by omega), y.nt 2 (by omega)]
      refine Wp_bd2 (greatM (by omega) k.1 s2 y.hs fl (Or.inl rfl) (ab (gsN g 0 + 1) (by omega) (by omega)) (Vq_bd k.1 0 0 (by omega)) (by omega) b.2.1 b.2.2.1 (by omega)) ?_
      rintro v h3 ⟨-, f3, -, e47⟩
      have y3 := y.frV f3
      exact Wp_ck (by rw [k92 y3.1.s]) (Wp_ret ⟨e47 (by omega), y3.1, (f1.tr f).tr y3.2.1⟩)
    · rw [decide_eq_false o2]
      exact Wp_ifp (by decide) (AnsM.no x1 f1 (if_neg (fun y => o2 y.2)))
  · rw [decide_eq_false o]
    exact Wp_ifp (by decide) (AnsM.no x1 f1 (if_neg (fun y => o y.1)))
theorem moStayM (hN : 3000 ≤ N) (x : RestM g h) (k : GOK g) : Wp (Mo_stay N 92 h) (AnsM g h (fStay g)) := by
  have s0 := x.s
  have b := n_b k
  unfold Mo_stay fStay
  rw [im1, il0, il1]
  refine Wp_ck (by rw [k92 s0]) (Wp_lt ?_)
  have x1 := x.t0 (v := iv 0)
  have f1 : MFr h (wI h 92 0 (iv 0)) := t0F
  generalize wI h 92 0 (iv 0) = h1 at x1 f1 ⊢
  refine Wp_bde (isOnM x1 k) ?_
  by_cases o : opn g
  · rw [decide_eq_true o, if_pos o]
    refine Wp_ifn (by decide) (Wp_ck (by rw [k92 x1.s]) (Wp_bd2 (laysR hN x1 k (Or.inl rfl) (Or.inl rfl)) ?_))
    rintro - h2 ⟨y, f, e0, fl, ab⟩
    have s2 := y.s
    have o1 := o.1
    refine Wp_ck (by rw [k92 s2]) (Wp_bn (p92_35 s2) (Wp_ck (by rw [k116 s2]) (Wp_ck (by rw [k116 s2]; decide) (Wp_ck (by rw [k116 s2]; decide) (Wp_ck (by rw [k116 s2]; decide) (Wp_ck (by rw [k116 s2]; decide) ?_))))))
    rw [ixA0, ixA1, ix_l 2 (by omega), ix_l 7 (by omega), y.nt 0 (by omega), y.nt 1 (by omega), y.nt 2 (by omega), y.nt 7 (by omega)]
    refine Wp_bd2 (openM (by omega) k.1 s2 y.hs fl (Or.inl rfl) (Or.inl rfl) (ab (gsN g 0 + 1) (by omega) (by omega)) (Vq_bd k.1 0 0 (by omega)) (by omega) b.2.1 b.2.2.1 b.2.2.2.1) ?_
    rintro v h3 ⟨rfl, f3, -⟩
    have y3 := y.frV f3
    have s3 := y3.1.s
    refine Wp_ck (by rw [k92 s3]) (Wp_bn (p92_35 s3) (Wp_ck (by rw [k116 s3]) (Wp_ck (by rw [k116 s3]; decide) (Wp_ck (by rw [k116 s3]; decide) ?_))))
    rw [y3.1.nt 0 (by omega), y3.1.nt 1 (by omega)]
    refine Wp_bde (closedM s3 y3.1.hs) ?_
    have lb := lit_n k o
    have ob := off0_b k.1 (q := gsN g 0) (t := gsN g 1) (by omega) (by omega)
    refine Wp_if (fun c => ?_) (fun c => ?_)
    · rw [iv_lt (by omega) (by omega) (by omega) (by omega)] at c
      rw [if_pos c]
      exact Wp_ret ⟨rfl, y3.1, (f1.tr f).tr y3.2.1⟩
    · rw [iv_lt (by omega) (by omega) (by omega) (by omega)] at c
      rw [if_neg c]
      exact Wp_ret ⟨rfl, y3.1, (f1.tr f).tr y3.2.1⟩
  · rw [decide_eq_false o]
    exact Wp_ifp (by decide) (AnsM.no x1 f1 (if_neg o))
theorem moValueM {q t a w : Int} (hN : 3000 ≤ N) (x : RestM g h) (k : GOK g) (hq : -2147483648 ≤ q ∧ q < 2147483648) (ht : -2147483648 ≤ t ∧ t < 2147483648) (ha : -2147483648 ≤ a ∧ a < 2147483648) (hw : w = 0 ∨ w = 1) : Wp (Mo_value N 92 (iv q) (iv t) (iv a) (iv w) h) (ThrM g h (okValue g q t a) (Vq (gsH g) (gsC g) 0 0 q t a w)) := by
  have s := x.s
  have b := n_b k
  have no : ¬ okValue g q t a → Wp (Mo_value_b47 N 92 92 (iv q) (iv t) (iv a) (iv w) h) (ThrM g h (okValue g q t a) (Vq (gsH g) (gsC g) 0 0 q t a w)) := by
    intro no
    unfold Mo_value_b47 Mo_value_b48
    refine Wp_ck (by rw [k92 s]) (Wp_lt (Wp_ck (by rw [hK_wI, k92 s]) (Wp_ifp (by rw [hI_wI, if_pos ⟨rfl, rfl⟩]) ?_)))
    exact ThrM.no x.t0 t0F (by rw [hI_wI, if_pos ⟨rfl, rfl⟩]; decide) no
  unfold Mo_value
  rw [il0]
  refine Wp_ck (by rw [k92 s]) (Wp_bn (p92_10 s) (Wp_ck (by rw [k94 s]) (Wp_ck (by rw [k94 s]; decide) ?_)))
  rw [ixA0, x.hs.1 0 (by omega)]
  refine Wp_bde (within_eq (by omega) (by omega) (by omega)) ?_
  by_cases o : 0 ≤ q ∧ q ≤ gsH g 0
  · rw [decide_eq_true o]
    refine Wp_ifn (by decide) (Wp_ck (by rw [k92 s]) (Wp_bn (p92_10 s) (Wp_ck (by rw [k94 s]) (Wp_ck (by rw [k94 s]; decide) ?_))))
    rw [ix_l 1 (by omega), x.hs.1 1 (by omega)]
    refine Wp_bde (within_eq (by omega) (by omega) (by omega)) ?_
    by_cases o2 : 0 ≤ t ∧ t ≤ gsH g 1
    · rw [decide_eq_true o2]
      refine Wp_ifn (by decide) (Wp_ck (by rw [k92 s]) (Wp_bn (p92_10 s) (Wp_ck (by rw [k94 s]) (Wp_ck (by rw [k94 s]; decide) ?_))))
      rw [ix_l 2 (by omega), x.hs.1 2 (by omega)]
      refine Wp_bde (within_eq (by omega) (by omega) (by omega)) ?_
      by_cases o3 : 0 ≤ a ∧ a ≤ gsH g 2
      · rw [decide_eq_true o3]
        refine Wp_ifn (by decide) ?_
        unfold Mo_value_b48
        rw [il0]
        refine Wp_ck (by rw [k92 s]) (Wp_lt ?_)
        have x1 := x.t0 (v := iv 0)
        have f1 : MFr h (wI h 92 0 (iv 0)) := t0F
        have z0 : hI (wI h 92 0 (iv 0)) 92 0 = iv 0 := by rw [hI_wI, if_pos ⟨rfl, rfl⟩]
        generalize wI h 92 0 (iv 0) = h1 at x1 f1 z0 ⊢
        refine Wp_ck (by rw [k92 x1.s]) (Wp_ifn (by rw [z0]; decide) (Wp_bd2 (laysR hN x1 k (Or.inl rfl) (Or.inl rfl)) ?_))
        rintro - h2 ⟨y, f, e0, fl, ab⟩
        have s2 := y.s
        have fin : ∀ w2 : Int, (w2 = w) → Wp (Mo_value_b84 N (hR h2 92 44) (iv q) (iv t) (iv a) (iv w2) h2) (ThrM g h (okValue g q t a) (Vq (gsH g) (gsC g) 0 0 q t a w)) := by
          rintro w2 rfl
          have pb := plM_b (q := q) (t := t) (a := a) (w := w2) (by omega) (by omega) (by omega) (by omega)
          unfold Mo_value_b84
          rw [p92_44 s2]
          refine Wp_bde atM (Wp_bn rfl (Wp_ck (by rw [k121 s2]) (Wp_ck (by rw [k121 s2]; exact inb_iv pb.1 pb.2 (by omega)) (Wp_ret ⟨Or.inl ⟨⟨o, o2, o3⟩, ?_, e0.trans z0⟩, y, f1.tr f⟩))))
          rw [ix_iv pb.1 (by omega)]
          exact ab q (by omega) (by omega) _ _ _ (by omega) (by omega) (by omega) (by omega) hw
        refine Wp_ck (by rw [k92 s2]) ?_
        rcases hw with rfl | rfl
        · exact Wp_ifp rfl (fin 0 rfl)
        · exact Wp_ifn (by decide) (fin 1 rfl)
      · rw [decide_eq_false o3]
        exact Wp_ifp (by decide) (no (fun y => o3 y.2.2))
    · rw [decide_eq_false o2]
      exact Wp_ifp (by decide) (no (fun y => o2 y.2.1))
  · rw [decide_eq_false o]
    exact Wp_ifp (by decide) (no (fun y => o y.1))
theorem moMayM {z : Int} (hN : 3000 ≤ N) (x : RestM g h) (k : GOK g) (hz : -2147483648 ≤ z ∧ z < 2147483648) : Wp (Mo_may N 92 (iv z) h) (ThrM g h (opn g ∧ 0 ≤ z ∧ z ≤ 4) (gr (gsH g) 0 (Vq (gsH g) (gsC g) 0 0 (gsN g 0 + 1)) (gsN g 0) z (gsN g 1) (gsN g 2))) := by
  have s := x.s
  have b := n_b k
  have no : ¬ (opn g ∧ 0 ≤ z ∧ z ≤ 4) → Wp (Mo_may_b21 N 92 92 (iv z) h) (ThrM g h (opn g ∧ 0 ≤ z ∧ z ≤ 4) (gr (gsH g) 0 (Vq (gsH g) (gsC g) 0 0 (gsN g 0 + 1)) (gsN g 0) z (gsN g 1) (gsN g 2))) := by
    intro no
    unfold Mo_may_b21 Mo_may_b22
    refine Wp_ck (by rw [k92 s]) (Wp_lt (Wp_ck (by rw [hK_wI, k92 s]) (Wp_ifp (by rw [hI_wI, if_pos ⟨rfl, rfl⟩]) ?_)))
    exact ThrM.no x.t0 t0F (by rw [hI_wI, if_pos ⟨rfl, rfl⟩]; decide) no
  unfold Mo_may
  rw [il0, show (4 : Int32) = iv 4 from iv_lit _]
  refine Wp_ck (by rw [k92 s]) (Wp_bde (isOnM x k) ?_)
  by_cases o : opn g
  · rw [decide_eq_true o]
    refine Wp_ifn (by decide) (Wp_bde (within_eq (by omega) (by omega) (by omega)) ?_)
    by_cases o2 : 0 ≤ z ∧ z ≤ 4
    · rw [decide_eq_true o2]
      refine Wp_ifn (by decide) ?_
      unfold Mo_may_b22
      rw [il0]
      refine Wp_ck (by rw [k92 s]) (Wp_lt ?_)
      have x1 := x.t0 (v := iv 0)
      have f1 : MFr h (wI h 92 0 (iv 0)) := t0F
      have z0 : hI (wI h 92 0 (iv 0)) 92 0 = iv 0 := by rw [hI_wI, if_pos ⟨rfl, rfl⟩]
      generalize wI h 92 0 (iv 0) = h1 at x1 f1 z0 ⊢
      refine Wp_ck (by rw [k92 x1.s]) (Wp_ifn (by rw [z0]; decide) (Wp_bd2 (laysR hN x1 k (Or.inl rfl) (Or.inl rfl)) ?_))
      rintro - h2 ⟨y, f, e0, fl, ab⟩
      have s2 := y.s
      have o1 := o.1
      refine Wp_ck (by rw [k92 s2]) (Wp_bn (p92_35 s2) (Wp_ck (by rw [k116 s2]) (Wp_ck (by rw [k116 s2]; decide) (Wp_ck (by rw [k116 s2]; decide) (Wp_ck (by rw [k116 s2]; decide) ?_)))))
      rw [ixA0, ix_l 1 (by omega), ix_l 2 (by omega), y.nt 0 (by omega), y.nt 1 (by omega), y.nt 2 (by omega)]
      refine Wp_bd2 (greatM (by omega) k.1 s2 y.hs fl (Or.inl rfl) (ab (gsN g 0 + 1) (by omega) (by omega)) (Vq_bd k.1 0 0 (by omega)) (by omega) b.2.1 b.2.2.1 (by omega)) ?_
      rintro v h3 ⟨rfl, f3, -⟩
      have y3 := y.frV f3
      exact Wp_ret ⟨Or.inl ⟨⟨o, o2⟩, rfl, y3.2.2.trans (e0.trans z0)⟩, y3.1, (f1.tr f).tr y3.2.1⟩
    · rw [decide_eq_false o2]
      exact Wp_ifp (by decide) (no (fun y => o2 y.2))
  · rw [decide_eq_false o]
    exact Wp_ifp (by decide) (no (fun y => o y.1))
theorem moTalkM (hN : 3000 ≤ N) (x : RestM g h) (k : GOK g) : Wp (Mo_talk N 92 h) (ThrM g h (opn g) (Vq (gsH g) (gsC g) 0 0 (gsN g 0) (gsN g 1) (gsN g 2) (gsN g 7) - Vq (gsH g) (gsC g) 0 1 (gsN g 0) (gsN g 1) (gsN g 2) 0)) := by
  have s := x.s
  have b := n_b k
  unfold Mo_talk
  rw [il0]
  refine Wp_ck (by rw [k92 s]) (Wp_bde (isOnM x k) ?_)
  by_cases o : opn g
  · rw [decide_eq_true o]
    refine Wp_ifn (by decide) ?_
    unfold Mo_talk_b13
    rw [il0, il1]
    refine Wp_ck (by rw [k92 s]) (Wp_lt ?_)
    have x1 := x.t0 (v := iv 0)
    have f1 : MFr h (wI h 92 0 (iv 0)) := t0F
    have z0 : hI (wI h 92 0 (iv 0)) 92 0 = iv 0 := by rw [hI_wI, if_pos ⟨rfl, rfl⟩]
    generalize wI h 92 0 (iv 0) = h1 at x1 f1 z0 ⊢
    refine Wp_ck (by rw [k92 x1.s]) (Wp_ifn (by rw [z0]; decide) (Wp_bd2 (nowByR hN x1 k (Or.inl rfl) (Or.inl rfl)) ?_))
    rintro v h2 ⟨rfl, y, f, e0⟩
    refine Wp_ck (by rw [k92 y.s]) (Wp_bd2 (nowByR hN y k (Or.inl rfl) (Or.inr rfl)) ?_)
    rintro v h3 ⟨rfl, y3, f3, e3⟩
    rw [if_pos rfl, if_neg (by omega), iv_sub]
    exact Wp_ret ⟨Or.inl ⟨o, rfl, e3.trans (e0.trans z0)⟩, y3, (f1.tr f).tr f3⟩
  · rw [decide_eq_false o]
    refine Wp_ifp (by decide) ?_
    unfold Mo_talk_b13
    refine Wp_ck (by rw [k92 s]) (Wp_lt (Wp_ck (by rw [hK_wI, k92 s]) (Wp_ifp (by rw [hI_wI, if_pos ⟨rfl, rfl⟩]) ?_)))
    exact ThrM.no x.t0 t0F (by rw [hI_wI, if_pos ⟨rfl, rfl⟩]; decide) o
theorem moRainsM (x : RestM g h) : Wp (Mo_rains N 92 h) (AnsM g h (gsN g 13)) := by
  have s := (x.t0 (v := 0)).s
  unfold Mo_rains
  refine Wp_ck (by rw [k92 x.s]) (Wp_lt (Wp_bn (p92_35 s) (Wp_ck (by rw [k116 s]) (Wp_ck (by rw [k116 s]; decide) (Wp_ret ⟨?_, x.t0, t0F⟩)))))
  rw [ix_l 13 (by omega)]
  exact x.t0.nt 13 (by omega)
theorem moScoreM (x : RestM g h) : Wp (Mo_score N 92 h) (AnsM g h (gsN g 11)) := by
  have s := (x.t0 (v := 0)).s
  unfold Mo_score
  refine Wp_ck (by rw [k92 x.s]) (Wp_lt (Wp_bn (p92_35 s) (Wp_ck (by rw [k116 s]) (Wp_ck (by rw [k116 s]; decide) (Wp_ret ⟨?_, x.t0, t0F⟩)))))
  rw [ix_l 11 (by omega)]
  exact x.t0.nt 11 (by omega)
theorem ton_eq2 {a b p : Int} (ha : -30000000 ≤ a ∧ a ≤ 30000000) (hb : -30000000 ≤ b ∧ b ≤ 30000000) (hp : 0 ≤ p ∧ p ≤ 1000000) : Int64.toInt32 ((((Int32.toInt64 (iv p)) * (Int32.toInt64 (iv a))) + ((1000000 - (Int32.toInt64 (iv p))) * (Int32.toInt64 (iv b)))) / 1000000) = iv ((a * p + b * (1000000 - p)).tdiv 1000000) := by
  have m1 := mulB ha hp
  have m2 := mulB hb (p := 1000000 - p) (by omega)
  rw [jl1000000, iv_wide (by omega) (by omega), iv_wide (by omega) (by omega), iv_wide (by omega) (by omega), jv_sub, jv_mul, jv_mul, jv_add, Int.mul_comm p a, Int.mul_comm (1000000 - p) b, jv_div (by omega) (by omega) (by omega) (by omega), jv_narrow]
theorem moTonightM (hN : 3000 ≤ N) (x : RestM g h) (k : GOK g) : Wp (Mo_tonight N 92 h) (ThrM g h (opn g) (fTonight g)) := by
  have s := x.s
  have b := n_b k
  have r13 := k.2.2.1.2.2.2.2.2.2.2.2.2.1
  unfold Mo_tonight fTonight
  rw [il0]
  refine Wp_ck (by rw [k92 s]) (Wp_bde (isOnM x k) ?_)
  by_cases o : opn g
  · rw [decide_eq_true o]
    refine Wp_ifn (by decide) ?_
    unfold Mo_tonight_b13
    rw [il0, il1]
    refine Wp_ck (by rw [k92 s]) (Wp_lt ?_)
    have x1 := x.t0 (v := iv 0)
    have f1 : MFr h (wI h 92 0 (iv 0)) := t0F
    have z0 : hI (wI h 92 0 (iv 0)) 92 0 = iv 0 := by rw [hI_wI, if_pos ⟨rfl, rfl⟩]
    generalize wI h 92 0 (iv 0) = h1 at x1 f1 z0 ⊢
    refine Wp_ck (by rw [k92 x1.s]) (Wp_ifn (by rw [z0]; decide) (Wp_bd2 (nowByR hN x1 k (Or.inr rfl) (Or.inl rfl)) ?_))
    rintro v h2 ⟨rfl, y, f, e0⟩
    refine Wp_ck (by rw [k92 y.s]) (Wp_bd2 (nowByR hN y k (Or.inl rfl) (Or.inl rfl)) ?_)
    rintro v h3 ⟨rfl, y3, f3, e3⟩
    have s3 := y3.s
    rw [if_pos rfl]
    refine Wp_ck (by rw [k92 s3]) (Wp_bn (p92_35 s3) (Wp_ck (by rw [k116 s3]) (Wp_ck (by rw [k116 s3]; decide) (Wp_ck (by rw [k116 s3]; decide) (Wp_ck (by decide) ?_)))))
    rw [ix_l 13 (by omega), y3.nt 13 (by omega), ton_eq2 (Vq_n k 1 0 b.2.2.2.1) (Vq_n k 0 0 b.2.2.2.1) r13]
    exact Wp_ret ⟨Or.inl ⟨o, rfl, e3.trans (e0.trans z0)⟩, y3, (f1.tr f).tr f3⟩
  · rw [decide_eq_false o]
    refine Wp_ifp (by decide) ?_
    unfold Mo_tonight_b13
    refine Wp_ck (by rw [k92 s]) (Wp_lt (Wp_ck (by rw [hK_wI, k92 s]) (Wp_ifp (by rw [hI_wI, if_pos ⟨rfl, rfl⟩]) ?_)))
    exact ThrM.no x.t0 t0F (by rw [hI_wI, if_pos ⟨rfl, rfl⟩]; decide) o
end
