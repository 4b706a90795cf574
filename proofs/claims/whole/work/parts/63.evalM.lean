/-! THE PURE PROOFS, 41: the reference works its codes out: parts. -/
def AtMl (l : List Int) (j : Nat) (h : PH) : Prop := ∀ i, i < l.length → hI h 100 (j + i) = iv (l.getD i 0)
theorem AtMl.cons {c : Int} {l : List Int} {j : Nat} {h : PH} (x : AtMl (c :: l) j h) : hI h 100 j = iv c ∧ AtMl l (j + 1) h := by
  refine ⟨x 0 (by simp), fun i hi => ?_⟩
  have := x (i + 1) (by simp; omega)
  rw [show j + 1 + i = j + (i + 1) from by omega, this]
  rfl
theorem AtMl.app {l1 l2 : List Int} {j : Nat} {h : PH} (x : AtMl (l1 ++ l2) j h) : AtMl l1 j h ∧ AtMl l2 (j + l1.length) h := by
  refine ⟨fun i hi => ?_, fun i hi => ?_⟩
  · rw [x i (by rw [List.length_append]; omega), List.getD_eq_getElem?_getD, List.getD_eq_getElem?_getD, List.getElem?_append_left hi]
  · rw [show j + l1.length + i = j + (l1.length + i) from by omega, x _ (by rw [List.length_append]; omega), List.getD_eq_getElem?_getD, List.getD_eq_getElem?_getD, List.getElem?_append_right (by omega), show l1.length + i - l1.length = i from by omega]
theorem AtMl.fr {l : List Int} {j d : Nat} {h h2 : PH} (x : AtMl l j h) (f : FrMd d h h2) : AtMl l j h2 := fun i hi => (f.1.I (by omega) _).trans (x i hi)
theorem FrMd.fa {d : Nat} {h h2 : PH} (f : FrMd d h h2) : hI h2 112 = hI h 112 := f.1.2.2.2.2.2 112 (by omega)
/-- the codes of a part deliver its value at depth d -/
def EvI0 (N n : Nat) (e : Ex) : Prop := 1 ≤ n ∧ 0 < (infx e).length ∧ ∀ (xb en d j fuel : Nat) (h : PH) (Q : Int32 → PH → Prop), MaM xb en h → d + n ≤ 7 → AtMl (infx e) j h → j + (infx e).length ≤ en → (∀ h2 fl, FrMd (d + 1) h h2 → d + 1 ≤ fl → Wp (Mo_worked_b268 N (Mo_worked_b14 N fuel) fl 92 (iv xb) (iv d) (iv ((j + (infx e).length - 1 : Nat) : Int)) (vlu e (hI h 112)) h2) Q) → Wp (Mo_worked_b14 N (fuel + (infx e).length) 92 (iv xb) (iv d) (iv j) h) Q
def kept (l d : Nat) (h h2 : PH) : Prop := ∀ b, 103 ≤ b → b < 111 - 2 * l → hI h2 b d = hI h b d
def begun (l d : Nat) (h : PH) : Prop := hI h 110 d = 0 ∧ (2 ≤ l → hI h 107 d = 0 ∧ hI h 108 d = 20) ∧ (3 ≤ l → hI h 106 d = 0) ∧ (4 ≤ l → hI h 104 d = 0)
def ended (l d : Nat) (h : PH) (x : Int32) : Prop := (l = 1 → hI h 109 d = x) ∧ (l = 2 → SmS d h = x) ∧ (l = 3 → TsS d h = x) ∧ (l = 4 → OrS d h = x)
/-- the codes of a product, a sum, a test, all -/
def EvJ (N l n : Nat) (e : Ex) : Prop := 1 ≤ n ∧ 0 < (infx e).length ∧ ∀ (xb en d j fuel : Nat) (h : PH) (Q : Int32 → PH → Prop), MaM xb en h → d + n ≤ 7 → AtMl (infx e) j h → j + (infx e).length ≤ en → (d = 0 ∨ hI h 111 d = 0) → begun l d h → (∀ h2, FrMd d h h2 → hI h2 111 d = hI h 111 d → kept l d h h2 → ended l d h2 (vlu e (hI h 112)) → Wp (Mo_worked_b14 N fuel 92 (iv xb) (iv d) (iv ((j + (infx e).length : Nat) : Int)) h2) Q) → Wp (Mo_worked_b14 N (fuel + (infx e).length) 92 (iv xb) (iv d) (iv j) h) Q
theorem eiNum {N n : Nat} {v : Int} (hN : 100 ≤ N) (h0 : 0 ≤ v) (h9 : v ≤ 9999) : EvI0 N (n + 1) (xnum v) := by
  refine ⟨by omega, by show 0 < 1; omega, fun xb en d j fuel h Q m hd st le kk => ?_⟩
  have pl : (infx (xnum v)).length = 1 := rfl
  rw [pl] at le kk ⊢
  have sj := st.cons.1
  refine wkN m (by omega) sj ⟨by omega, by omega⟩ ?_
  unfold Mo_worked_b243
  refine Wp_ifn (by rw [show (29 : Int32) = iv 29 from iv_lit _, iv_eq (by omega) (by omega) (by omega) (by omega)]; omega) ?_
  have r := kk h N FrMd.rf (by omega)
  rw [show j + 1 - 1 = j from by omega, show vlu (xnum v) (hI h 112) = iv v from rfl] at r
  rw [show 100 + v - 100 = v from by omega]
  exact r
theorem eiFct {N n : Nat} {i : Int} (hN : 100 ≤ N) (h1 : 1 ≤ i) (h5 : i ≤ 5) : EvI0 N (n + 1) (xfct i) := by
  refine ⟨by omega, by show 0 < 1; omega, fun xb en d j fuel h Q m hd st le kk => ?_⟩
  have pl : (infx (xfct i)).length = 1 := rfl
  rw [pl] at le kk ⊢
  have sj := st.cons.1
  refine wkF m (by omega) sj ⟨h1, h5⟩ ?_
  unfold Mo_worked_b243
  refine Wp_ifn (by rw [show (29 : Int32) = iv 29 from iv_lit _, iv_eq (by omega) (by omega) (by omega) (by omega)]; omega) ?_
  have r := kk h N FrMd.rf (by omega)
  rw [show j + 1 - 1 = j from by omega] at r
  exact r
/-- going one deeper -/
theorem deepM {N xb en d j fuel : Nat} {c : Int} {z : Int32} {h : PH} {Q : Int32 → PH → Prop} (m : MaM xb en h) (hd : d + 1 < 7) (hj : j ≤ 2000) (hc : (c = 28 ∧ z = 0) ∨ (c = 30 ∧ z = 1)) (k : ∀ h2, FrMd (d + 1) h h2 → hI h2 111 (d + 1) = z → begun 4 (d + 1) h2 → Wp (Mo_worked_b14 N fuel 92 (iv xb) (iv ((d + 1 : Nat) : Int)) (iv ((j + 1 : Nat) : Int)) h2) Q) : Wp (Mo_worked_b46 N (Mo_worked_b14 N fuel) 92 (iv xb) (iv d) (iv j) (iv c) h) Q := by
  have s := m.1
  have b66 : Wp (Mo_worked_b66 N (Mo_worked_b14 N fuel) (some 111) (iv ((d + 1 : Nat) : Int)) z 92 (iv xb) (iv ((d + 1 : Nat) : Int)) (iv j) h) Q := by
    unfold Mo_worked_b66
    refine Wp_bn rfl (Wp_ck (by rw [k111 s]) (Wp_ck (by rw [k111 s]; exact inb_iv (by omega) (by omega) (by omega)) (Wp_lt ?_)))
    rw [ix_nat (by omega)]
    have f1 : FrMd (d + 1) h (wI h 111 (d + 1) z) := FrMd.rf.w (by omega) (by omega)
    have s1 := f1.1.shp s
    refine Wp_ck (by rw [k92 s1]) (Wp_bd2 (opensM (d := d + 1) (Q := fun _ h2 => FrMd (d + 1) h h2 ∧ hI h2 111 (d + 1) = z ∧ begun 4 (d + 1) h2) s1 (by omega) ?_) ?_)
    · intro h2 f2 e4 e6 e7 e8 e10 e11
      exact ⟨f1.tr f2, by rw [e11, hI_wI, if_pos ⟨rfl, rfl⟩], e10, fun _ => ⟨e7, e8⟩, fun _ => e6, fun _ => e4⟩
    · rintro - h2 ⟨f2, e2, g2⟩
      unfold Mo_worked_b329
      rw [il1, iv_add]
      exact k h2 f2 e2 g2
  unfold Mo_worked_b46
  have ed : iv (d : Int) + 1 = iv ((d + 1 : Nat) : Int) := by rw [il1, iv_add]; rfl
  refine Wp_ck (by rw [k92 s]) ?_
  rw [p92_29 s, ed]
  rcases hc with ⟨rfl, rfl⟩ | ⟨rfl, rfl⟩
  · exact Wp_ifn (by decide) b66
  · exact Wp_ifp (by decide) b66
theorem eiNo {N n : Nat} {e : Ex} (x : EvI0 N n e) : EvI0 N (n + 1) (xno e) := by
  have pi : infx (xno e) = 30 :: infx e := rfl
  have pl : (infx (xno e)).length = (infx e).length + 1 := by rw [pi]; rfl
  have x1 := x.1
  have x2 := x.2.1
  refine ⟨by omega, by omega, fun xb en d j fuel h Q m hd st le kk => ?_⟩
  have he := m.2.2.1
  rw [pi] at st
  rw [pl] at le kk ⊢
  rw [show fuel + ((infx e).length + 1) = (fuel + (infx e).length) + 1 from by omega]
  refine wk30 m (by omega) st.cons.1 rfl (deepM m (by omega) (by omega) (Or.inr ⟨rfl, rfl⟩) ?_)
  intro h1 f1 e11 _
  refine x.2.2 xb en (d + 1) (j + 1) fuel h1 Q (f1.ma m) (by omega) (st.cons.2.fr f1) (by omega) ?_
  intro h2 fl f2 hfl
  obtain ⟨fl, rfl⟩ : ∃ g, fl = g + 1 := ⟨fl - 1, by omega⟩
  have f12 := f1.tr (f2.lo (by omega))
  have s2 := f12.1.shp m.1
  have e112 : hI h2 111 (d + 1) = 1 := by rw [f2.2 111 (d + 1) (by omega) (by omega) (by omega), e11]
  rw [Mo_worked_b268]
  refine Wp_ifn (by rw [il0, iv_le (by omega) (by omega) (by omega) (by omega)]; omega) (Wp_ck (by rw [k92 s2]) (Wp_bn (p92_29 s2) (Wp_ck (by rw [k111 s2]) (Wp_ck (by rw [k111 s2]; exact inb_iv (by omega) (by omega) (by omega)) ?_))))
  rw [ix_nat (by omega), e112]
  have ed : iv ((d + 1 : Nat) : Int) + (-1) = iv (d : Nat) := by rw [show (-1 : Int32) = iv (-1) from by decide, iv_add]; congr 1; omega
  have r := kk h2 fl f12 (by omega)
  rw [show j + ((infx e).length + 1) - 1 = j + 1 + (infx e).length - 1 from by omega, show vlu (xno e) (hI h 112) = tf (vlu e (hI h1 112) = 0) from by rw [f1.fa]; rfl] at r
  refine Wp_ifp rfl ?_
  unfold Mo_worked_b292
  rw [ed]
  refine Wp_if (fun c => ?_) (fun c => ?_)
  · unfold tf at r
    rw [if_pos c] at r
    exact r
  · unfold tf at r
    rw [if_neg c] at r
    exact r
theorem eiPar {N n : Nat} {e : Ex} (hN : 100 ≤ N) (x : EvJ N 4 n e) : EvI0 N (n + 1) (xpar e) := by
  have pi : infx (xpar e) = 28 :: (infx e ++ [29]) := rfl
  have pl : (infx (xpar e)).length = (infx e).length + 2 := by rw [pi, List.length_cons, List.length_append]; rfl
  have x1 := x.1
  have x2 := x.2.1
  refine ⟨by omega, by omega, fun xb en d j fuel h Q m hd st le kk => ?_⟩
  have he := m.2.2.1
  rw [pi] at st
  rw [pl] at le kk ⊢
  rw [show fuel + ((infx e).length + 2) = ((fuel + 1) + (infx e).length) + 1 from by omega]
  refine wk28 m (by omega) st.cons.1 rfl (deepM m (by omega) (by omega) (Or.inl ⟨rfl, rfl⟩) ?_)
  intro h1 f1 e11 b1
  have st2 := st.cons.2.app
  refine x.2.2 xb en (d + 1) (j + 1) (fuel + 1) h1 Q (f1.ma m) (by omega) (st2.1.fr f1) (by omega) (Or.inr e11) b1 ?_
  intro h2 f2 e2 kp2 en2
  have f12 := f1.tr f2
  have m2 := f12.ma m
  refine wk29 m2 (by omega) (by rw [f12.1.I (by omega)]; exact st2.2.cons.1) rfl ?_
  unfold Mo_worked_b243
  refine Wp_ifp rfl (Wp_ck (by rw [k92 m2.1]) (Wp_bd2 (testsM (d := d + 1) (Q := fun _ h3 => FrMd (d + 1) h2 h3 ∧ hI h3 103 (d + 1) = OrS (d + 1) h2) m2.1 (by omega) (fun h3 f3 v3 _ _ _ _ _ _ => ⟨f3, v3⟩)) ?_))
  rintro - h3 ⟨f3, v3⟩
  have f13 := f12.tr f3
  have s3 := f13.1.shp m.1
  have ed : iv ((d + 1 : Nat) : Int) + (-1) = iv (d : Nat) := by rw [show (-1 : Int32) = iv (-1) from by decide, iv_add]; congr 1; omega
  refine Wp_ck (by rw [k92 s3]) (Wp_bn (p92_21 s3) (Wp_ck (by rw [k103 s3]) (Wp_ck (by rw [k103 s3]; exact inb_iv (by omega) (by omega) (by omega)) ?_)))
  rw [ix_nat (by omega), v3, en2.2.2.2 rfl, ed]
  have r := kk h3 N f13 (by omega)
  rw [show j + ((infx e).length + 2) - 1 = j + 1 + (infx e).length from by omega, show vlu (xpar e) (hI h 112) = vlu e (hI h1 112) from by rw [f1.fa]; rfl] at r
  exact r
