/-! THE PURE PROOFS, 59: the class reads a house: its lines of numbers. -/
def cf (H : Nat → Int) (f : Nat) : Int := if f = 0 then H 0 else if f = 1 then H 1 else if f = 2 then H 2 else if f = 3 then H 3 else if f = 4 then H 7 else if f = 5 then H 8 else if f = 6 then H 9 else if f = 7 then (if H 16 = 1 then H 10 else 24) else if f = 8 then H 11 else if f = 9 then H 12 else if f = 10 then H 13 else if f = 11 then H 14 else H 15
def FrHl (h h2 : PH) : Prop := FrS (fun b => b = 7 ∨ (16 ≤ b ∧ b ≤ 21) ∨ (28 ≤ b ∧ b ≤ 31)) h h2 ∧ hI h2 7 1 = hI h 7 1 ∧ hI h2 17 0 = hI h 17 0
theorem FrHl.rf {h : PH} : FrHl h h := ⟨FrS.rf, rfl, rfl⟩
theorem FrHl.tr {h h1 h2 : PH} (a : FrHl h h1) (b : FrHl h1 h2) : FrHl h h2 := ⟨a.1.tr b.1, b.2.1.trans a.2.1, b.2.2.trans a.2.2⟩
theorem Fr7.hl {h h2 : PH} (f : Fr7 h h2) : FrHl h h2 := ⟨f.1.up (fun b e => Or.inl e), f.2, f.1.I (by omega) 0⟩
theorem FrQ.hl {h h2 : PH} (f : FrQ h h2) : FrHl h h2 := ⟨f.1.up (fun b e => by omega), f.2.1, f.1.I (by omega) 0⟩
theorem FrHl.w {h0 h : PH} {a i : Nat} {v : Int32} (f : FrHl h0 h) (ha : ((16 ≤ a ∧ a ≤ 21) ∨ a = 28) ∧ (a = 17 → i ≠ 0)) : FrHl h0 (wI h a i v) := f.tr ⟨FrS.rf.aI (by omega), by rw [hI_wI, if_neg (by omega)], by rw [hI_wI, if_neg (by omega)]⟩
theorem FrHl.z {h0 h : PH} {a i : Nat} {v : Bool} (f : FrHl h0 h) (ha : a = 30 ∨ a = 31) : FrHl h0 (wZ h a i v) := f.tr ⟨FrS.rf.aZ (by omega), by rw [hI_wZ], by rw [hI_wZ]⟩
theorem FrHl.j {h0 h : PH} {i : Nat} {v : Int64} (f : FrHl h0 h) : FrHl h0 (wJ h 29 i v) := f.tr ⟨FrS.rf.aJ (by omega), by rw [hI_wJ], by rw [hI_wJ]⟩
theorem FrHl.tx {T : Nat → Int} {L : Nat} {h h2 : PH} (f : FrHl h h2) (x : TxL T L h) : TxL T L h2 := x.fr f.1 (by omega) (by omega) (by omega) (by omega) f.2.1
theorem RdS.cg {T : Nat → Int} {L : Nat} {r : Int ⊕ Nat} {h h2 : PH} (s : RdS T L r h) (e1 : hI h2 7 = hI h 7) (e2 : hJ h2 7 = hJ h 7) : RdS T L r h2 := by
  cases r with
  | inl f => exact ⟨s.1, by rw [e1]; exact s.2⟩
  | inr p => exact ⟨s.1.cg e1 e2, s.2⟩
/-- all but the worths -/
def StA (T : Nat → Int) (L : Nat) (S : Sta) (h : PH) : Prop := (∀ f, f < 13 → hI h 16 f = iv (cf (sH S) f)) ∧ (∀ k, k < 96 → hI h 18 k = iv (sC S k)) ∧ hI h 28 6 = iv (sH S 17) ∧ (∀ q, q < 24 → hZ h 31 q = decide (sK S q = 1)) ∧ (∀ w, w < 11 → hZ h 30 w = decide (sD S w = 1)) ∧ (∀ i, i < (sH S 15).toNat → hJ h 29 i = jv (tW 32 T L (sPl S i))) ∧ StL (catP (sE S) (sH S 15).toNat) h ∧ (∀ i, i < (sH S 15).toNat → hI h 21 i = iv ((catP (sE S) (i + 1)).length : Nat))
def StaL (T : Nat → Int) (L : Nat) (S : Sta) (h : PH) : Prop := StA T L S h ∧ ∀ n : Nat, n < 4 → hI h 17 n = iv (wsm (sH S) n)
theorem StA.fr {T : Nat → Int} {L : Nat} {S : Sta} {h h2 : PH} (x : StA T L S h) (f : FrS (fun b => b = 7 ∨ b = 17) h h2) : StA T L S h2 := by
  obtain ⟨a, b, c, d, e, g, i, j⟩ := x
  exact ⟨fun k hk => (f.I (by omega) k).trans (a k hk), fun k hk => (f.I (by omega) k).trans (b k hk), (f.I (by omega) 6).trans c, fun k hk => (f.Z (by omega) k).trans (d k hk), fun k hk => (f.Z (by omega) k).trans (e k hk), fun k hk => (f.J (by omega) k).trans (g k hk), ⟨(f.I (by omega) _).trans i.1, fun k hk => (f.I (by omega) k).trans (i.2 k hk)⟩, fun k hk => (f.I (by omega) k).trans (j k hk)⟩
theorem StaL.f7 {T : Nat → Int} {L : Nat} {S : Sta} {h h2 : PH} (x : StaL T L S h) (f : Fr7 h h2) : StaL T L S h2 := ⟨x.1.fr (f.1.up (fun b e => Or.inl e)), fun n hn => (f.1.I (by omega) n).trans (x.2 n hn)⟩
/-- a field is written -/
theorem StaL.w {T : Nat → Int} {L : Nat} {S : Sta} {h : PH} {f : Nat} {v : Int} {H : Nat → Int} (x : StaL T L S h) (hf : f < 13) (e : ∀ g, g < 13 → cf H g = if g = f then v else cf (sH S) g) (e4 : ∀ n : Nat, n < 4 → wsm H n = wsm (sH S) n) (e15 : H 15 = sH S 15) (e17 : H 17 = sH S 17) : StaL T L (mkS H (sC S) (sK S) (sD S) (sPl S) (sE S)) (wI h 16 f (iv v)) := by
  obtain ⟨⟨a, b, c, d, z, g, i, j⟩, k⟩ := x
  refine ⟨⟨fun g hg => ?_, fun k hk => ?_, ?_, fun k hk => ?_, fun k hk => ?_, fun k hk => ?_, ⟨?_, fun k hk => ?_⟩, fun k hk => ?_⟩, fun n hn => ?_⟩
  · show hI (wI h 16 f (iv v)) 16 g = iv (cf H g)
    rw [hI_wI, e g hg]
    by_cases c : g = f
    · rw [if_pos ⟨rfl, c⟩, if_pos c]
    · rw [if_neg (fun z => c z.2), if_neg c]
      exact a g hg
  · rw [hI_wI, if_neg (by omega)]; exact b k hk
  · show hI (wI h 16 f (iv v)) 28 6 = iv (H 17)
    rw [hI_wI, if_neg (by omega), e17]; exact c
  · exact d k hk
  · exact z k hk
  · have hk2 : k < (H 15).toNat := hk
    rw [e15] at hk2
    exact g k hk2
  · show hI (wI h 16 f (iv v)) 16 13 = iv ((catP (sE S) (H 15).toNat).length : Nat)
    rw [hI_wI, if_neg (by omega), e15]; exact i.1
  · show hI (wI h 16 f (iv v)) 20 k = iv ((catP (sE S) (H 15).toNat).getD k 0)
    have hk2 : k < (catP (sE S) (H 15).toNat).length := hk
    rw [e15] at hk2 ⊢
    rw [hI_wI, if_neg (by omega)]; exact i.2 k hk2
  · have hk2 : k < (H 15).toNat := hk
    rw [e15] at hk2
    rw [hI_wI, if_neg (by omega)]; exact j k hk2
  · show hI (wI h 16 f (iv v)) 17 n = iv (wsm H n)
    rw [hI_wI, if_neg (by omega), e4 n hn]; exact k n hn
/-- a number, into a field -/
theorem numFld {N : Nat} {T : Nat → Int} {L : Nat} {S : Sta} {r : Int ⊕ Nat} {h : PH} {lo hi : Int} {lo' hi' : Int32} {f k : Nat} {α : Type} {g : PH → Option (α × PH)} {Q : α → PH → Prop} (hN : 1100 ≤ N) (x : TxL T L h) (s : RdS T L r h) (st : StaL T L S h) (e1 : lo' = iv lo) (e2 : hi' = iv hi) (hl : -100000 ≤ lo ∧ lo ≤ 100000) (hh : -100000 ≤ hi ∧ hi ≤ 100000) (hf : f < 13) (e : ∀ v g, g < 13 → cf (up (sH S) k v) g = if g = f then v else cf (sH S) g) (e4 : ∀ v n, n < 4 → wsm (up (sH S) k v) ((n : Nat) : Int) = wsm (sH S) n) (k5 : k ≠ 15) (k7 : k ≠ 17)
    (next : ∀ h2, FrHl h h2 → TxL T L h2 → RdS T L (numP T L lo hi r) h2 → StaL T L (mkS (up (sH S) k (numZ T L lo hi r)) (sC S) (sK S) (sD S) (sPl S) (sE S)) h2 → Wp (g h2) Q) : Wp (bd (Re_number N 28 lo' hi' h) fun v h3 => (hR h 28 1).bind fun a => ck ((hK h3 a).1 = 0) <| lt0 (wI h3 a f v) fun h8 => g h8) Q := by
  subst e1 e2
  refine Wp_bd2 (numberR hN x s hl hh) ?_
  rintro v h2 ⟨rfl, f2, s2⟩
  have x2 := f2.tx x
  refine Wp_bn (p28_1 x.1) (Wp_ck (by rw [k16 x2.1]) (Wp_lt (next _ (f2.hl.w (by omega)) ((FrHl.rf.w (by omega)).tx x2) (s2.w (by omega)) ((st.f7 f2).w hf (e _) (e4 _) (up_n _ _ _ _ (by omega)) (up_n _ _ _ _ (by omega))))))
theorem plainL {N : Nat} {T : Nat → Int} {L : Nat} {S : Sta} {r : Int ⊕ Nat} {h : PH} {w : Int} (hN : 1100 ≤ N) (x : TxL T L h) (s : RdS T L r h) (st : StaL T L S h) (h0 : 1 ≤ sH S 0 ∧ sH S 0 ≤ 24) (hw : w = 1 ∨ w = 2 ∨ w = 4 ∨ w = 5 ∨ w = 6 ∨ w = 7 ∨ w = 8 ∨ w = 9 ∨ w = 10) : Wp (Re_plainLine N 28 (iv w) h) (fun _ h2 => FrHl h h2 ∧ ∃ r2, RdS T L r2 h2 ∧ sgnR T L 59 r2 = plR T L (sH S) w r ∧ StaL T L (mkS (plH T L (sH S) w r) (sC S) (sK S) (sD S) (sPl S) (sE S)) h2) := by
  have ck28 : (hK h 28).1 = 4 := by rw [k28 x.1]
  rcases hw with rfl | rfl | rfl | rfl | rfl | rfl | rfl | rfl | rfl
  · refine Wp_ifn (by decide) (Wp_ifp (by decide) (Wp_ck ck28 (numFld (lo := 0) (hi := 120) (k := 1) hN x s st il0 il120 (by omega) (by omega) (by omega) (fun v g hg => by (have cc : g = 0 ∨ g = 1 ∨ g = 2 ∨ g = 3 ∨ g = 4 ∨ g = 5 ∨ g = 6 ∨ g = 7 ∨ g = 8 ∨ g = 9 ∨ g = 10 ∨ g = 11 ∨ g = 12 := by omega); (rcases cc with rfl | rfl | rfl | rfl | rfl | rfl | rfl | rfl | rfl | rfl | rfl | rfl | rfl <;> rfl)) (fun v n hn => rfl) (by omega) (by omega) ?_)))
    intro h2 f2 _ s2 st2
    exact Wp_ret ⟨f2, _, s2, rfl, st2⟩
  · refine Wp_ifn (by decide) (Wp_ifn (by decide) (Wp_ifp (by decide) (Wp_ck ck28 (numFld (lo := 0) (hi := 12) (k := 2) hN x s st il0 il12 (by omega) (by omega) (by omega) (fun v g hg => by (have cc : g = 0 ∨ g = 1 ∨ g = 2 ∨ g = 3 ∨ g = 4 ∨ g = 5 ∨ g = 6 ∨ g = 7 ∨ g = 8 ∨ g = 9 ∨ g = 10 ∨ g = 11 ∨ g = 12 := by omega); (rcases cc with rfl | rfl | rfl | rfl | rfl | rfl | rfl | rfl | rfl | rfl | rfl | rfl | rfl <;> rfl)) (fun v n hn => rfl) (by omega) (by omega) ?_))))
    intro h2 f2 x2 s2 st2
    rw [show (13 : Int32) = iv 13 from iv_lit _]
    refine Wp_ck (by rw [k28 x2.1]) (Wp_bd2 (keywordR hN x2 s2 (by omega)) ?_)
    rintro - h3 ⟨f3, s3⟩
    have x3 := f3.tx x2
    refine Wp_ck (by rw [k28 x3.1]) (numFld (lo := 0) (hi := 99) (k := 3) hN x3 s3 (st2.f7 f3) il0 il99 (by omega) (by omega) (by omega) (fun v g hg => by (have cc : g = 0 ∨ g = 1 ∨ g = 2 ∨ g = 3 ∨ g = 4 ∨ g = 5 ∨ g = 6 ∨ g = 7 ∨ g = 8 ∨ g = 9 ∨ g = 10 ∨ g = 11 ∨ g = 12 := by omega); (rcases cc with rfl | rfl | rfl | rfl | rfl | rfl | rfl | rfl | rfl | rfl | rfl | rfl | rfl <;> rfl)) (fun v n hn => rfl) (by omega) (by omega) ?_)
    intro h4 f4 _ s4 st4
    exact Wp_ret ⟨(f2.tr f3.hl).tr f4, _, s4, rfl, st4⟩
  · refine Wp_ifn (by decide) (Wp_ifn (by decide) (Wp_ifn (by decide) (Wp_ifn (by decide) (Wp_ifp (by decide) (Wp_ck ck28 (numFld (lo := 0) (hi := 99) (k := 7) hN x s st il0 il99 (by omega) (by omega) (by omega) (fun v g hg => by (have cc : g = 0 ∨ g = 1 ∨ g = 2 ∨ g = 3 ∨ g = 4 ∨ g = 5 ∨ g = 6 ∨ g = 7 ∨ g = 8 ∨ g = 9 ∨ g = 10 ∨ g = 11 ∨ g = 12 := by omega); (rcases cc with rfl | rfl | rfl | rfl | rfl | rfl | rfl | rfl | rfl | rfl | rfl | rfl | rfl <;> rfl)) (fun v n hn => rfl) (by omega) (by omega) ?_))))))
    intro h2 f2 _ s2 st2
    exact Wp_ret ⟨f2, _, s2, rfl, st2⟩
  · refine Wp_ifn (by decide) (Wp_ifn (by decide) (Wp_ifn (by decide) (Wp_ifn (by decide) (Wp_ifn (by decide) (Wp_ifp (by decide) (Wp_ck ck28 (numFld (lo := 0) (hi := 99) (k := 8) hN x s st il0 il99 (by omega) (by omega) (by omega) (fun v g hg => by (have cc : g = 0 ∨ g = 1 ∨ g = 2 ∨ g = 3 ∨ g = 4 ∨ g = 5 ∨ g = 6 ∨ g = 7 ∨ g = 8 ∨ g = 9 ∨ g = 10 ∨ g = 11 ∨ g = 12 := by omega); (rcases cc with rfl | rfl | rfl | rfl | rfl | rfl | rfl | rfl | rfl | rfl | rfl | rfl | rfl <;> rfl)) (fun v n hn => rfl) (by omega) (by omega) ?_)))))))
    intro h2 f2 _ s2 st2
    exact Wp_ret ⟨f2, _, s2, rfl, st2⟩
  · refine Wp_ifn (by decide) (Wp_ifn (by decide) (Wp_ifn (by decide) (Wp_ifn (by decide) (Wp_ifn (by decide) (Wp_ifn (by decide) (Wp_ifp (by decide) (Wp_ck ck28 (numFld (lo := 0) (hi := 99) (k := 9) hN x s st il0 il99 (by omega) (by omega) (by omega) (fun v g hg => by (have cc : g = 0 ∨ g = 1 ∨ g = 2 ∨ g = 3 ∨ g = 4 ∨ g = 5 ∨ g = 6 ∨ g = 7 ∨ g = 8 ∨ g = 9 ∨ g = 10 ∨ g = 11 ∨ g = 12 := by omega); (rcases cc with rfl | rfl | rfl | rfl | rfl | rfl | rfl | rfl | rfl | rfl | rfl | rfl | rfl <;> rfl)) (fun v n hn => rfl) (by omega) (by omega) ?_))))))))
    intro h2 f2 x2 s2 st2
    rw [show (14 : Int32) = iv 14 from iv_lit _]
    refine Wp_ck (by rw [k28 x2.1]) (Wp_bd2 (keywordR hN x2 s2 (by omega)) ?_)
    rintro - h3 ⟨f3, s3⟩
    have x3 := f3.tx x2
    have st3 := st2.f7 f3
    have e0 : hI h3 16 0 = iv (sH S 0) := st3.1.1 0 (by omega)
    refine Wp_ck (by rw [k28 x3.1]) (Wp_bn (p28_1 x3.1) (Wp_ck (by rw [k16 x3.1]) ?_))
    rw [e0, il0, il1, iv_sub]
    refine Wp_bd2 (numberR hN x3 s3 (by omega) (by omega)) ?_
    rintro v h4 ⟨rfl, f4, s4⟩
    have x4 := f4.tx x3
    have fe : FrHl h4 (wI h4 16 7 (iv (numZ T L 0 (sH S 0 - 1) (keyR T L 14 (numP T L 0 99 r))))) := FrHl.rf.w (by omega)
    refine Wp_ck (by rw [k16 x4.1]) (Wp_lt (Wp_ret ⟨((f2.tr f3.hl).tr f4.hl).tr fe, _, s4.w (by omega), rfl, ?_⟩))
    exact (st3.f7 f4).w (H := egH T L (sH S) r) (by omega) (fun g hg => by unfold egH; (have cc : g = 0 ∨ g = 1 ∨ g = 2 ∨ g = 3 ∨ g = 4 ∨ g = 5 ∨ g = 6 ∨ g = 7 ∨ g = 8 ∨ g = 9 ∨ g = 10 ∨ g = 11 ∨ g = 12 := by omega); (rcases cc with rfl | rfl | rfl | rfl | rfl | rfl | rfl | rfl | rfl | rfl | rfl | rfl | rfl <;> rfl)) (fun n hn => rfl) rfl rfl
  · refine Wp_ifn (by decide) (Wp_ifn (by decide) (Wp_ifn (by decide) (Wp_ifn (by decide) (Wp_ifn (by decide) (Wp_ifn (by decide) (Wp_ifn (by decide) (Wp_ifp (by decide) (Wp_ck ck28 (numFld (lo := 1) (hi := 3) (k := 11) hN x s st il1 il3 (by omega) (by omega) (by omega) (fun v g hg => by (have cc : g = 0 ∨ g = 1 ∨ g = 2 ∨ g = 3 ∨ g = 4 ∨ g = 5 ∨ g = 6 ∨ g = 7 ∨ g = 8 ∨ g = 9 ∨ g = 10 ∨ g = 11 ∨ g = 12 := by omega); (rcases cc with rfl | rfl | rfl | rfl | rfl | rfl | rfl | rfl | rfl | rfl | rfl | rfl | rfl <;> rfl)) (fun v n hn => rfl) (by omega) (by omega) ?_)))))))))
    intro h2 f2 _ s2 st2
    exact Wp_ret ⟨f2, _, s2, rfl, st2⟩
  · refine Wp_ifn (by decide) (Wp_ifn (by decide) (Wp_ifn (by decide) (Wp_ifn (by decide) (Wp_ifn (by decide) (Wp_ifn (by decide) (Wp_ifn (by decide) (Wp_ifn (by decide) (Wp_ifp (by decide) (Wp_ck ck28 (numFld (lo := 0) (hi := 99) (k := 12) hN x s st il0 il99 (by omega) (by omega) (by omega) (fun v g hg => by (have cc : g = 0 ∨ g = 1 ∨ g = 2 ∨ g = 3 ∨ g = 4 ∨ g = 5 ∨ g = 6 ∨ g = 7 ∨ g = 8 ∨ g = 9 ∨ g = 10 ∨ g = 11 ∨ g = 12 := by omega); (rcases cc with rfl | rfl | rfl | rfl | rfl | rfl | rfl | rfl | rfl | rfl | rfl | rfl | rfl <;> rfl)) (fun v n hn => rfl) (by omega) (by omega) ?_))))))))))
    intro h2 f2 _ s2 st2
    exact Wp_ret ⟨f2, _, s2, rfl, st2⟩
  · refine Wp_ifn (by decide) (Wp_ifn (by decide) (Wp_ifn (by decide) (Wp_ifn (by decide) (Wp_ifn (by decide) (Wp_ifn (by decide) (Wp_ifn (by decide) (Wp_ifn (by decide) (Wp_ifn (by decide) (Wp_ifp (by decide) (Wp_ck ck28 (numFld (lo := 0) (hi := 10) (k := 13) hN x s st il0 il10 (by omega) (by omega) (by omega) (fun v g hg => by (have cc : g = 0 ∨ g = 1 ∨ g = 2 ∨ g = 3 ∨ g = 4 ∨ g = 5 ∨ g = 6 ∨ g = 7 ∨ g = 8 ∨ g = 9 ∨ g = 10 ∨ g = 11 ∨ g = 12 := by omega); (rcases cc with rfl | rfl | rfl | rfl | rfl | rfl | rfl | rfl | rfl | rfl | rfl | rfl | rfl <;> rfl)) (fun v n hn => rfl) (by omega) (by omega) ?_)))))))))))
    intro h2 f2 _ s2 st2
    exact Wp_ret ⟨f2, _, s2, rfl, st2⟩
  · refine Wp_ifp (by decide) (Wp_ck ck28 (numFld (lo := 0) (hi := 10) (k := 14) hN x s st il0 il10 (by omega) (by omega) (by omega) (fun v g hg => by (have cc : g = 0 ∨ g = 1 ∨ g = 2 ∨ g = 3 ∨ g = 4 ∨ g = 5 ∨ g = 6 ∨ g = 7 ∨ g = 8 ∨ g = 9 ∨ g = 10 ∨ g = 11 ∨ g = 12 := by omega); (rcases cc with rfl | rfl | rfl | rfl | rfl | rfl | rfl | rfl | rfl | rfl | rfl | rfl | rfl <;> rfl)) (fun v n hn => rfl) (by omega) (by omega) ?_))
    intro h2 f2 _ s2 st2
    exact Wp_ret ⟨f2, _, s2, rfl, st2⟩
theorem worthsL {N : Nat} {T : Nat → Int} {L : Nat} {S : Sta} {r : Int ⊕ Nat} {h : PH} (hN : 1100 ≤ N) (x : TxL T L h) (s : RdS T L r h) (st : StaL T L S h) : Wp (Re_worthsLine N 28 h) (fun _ h2 => FrHl h h2 ∧ ∃ r2, RdS T L r2 h2 ∧ sgnR T L 59 r2 = woR T L r ∧ StaL T L (mkS (woH T L (sH S) r) (sC S) (sK S) (sD S) (sPl S) (sE S)) h2) := by
  have b1 : 0 ≤ wo1 T L r ∧ wo1 T L r ≤ 99 := by
    have := numZ_b (T := T) (L := L) (r := r) (lo := 0) (hi := 99)
    unfold wo1
    omega
  have b2 : 0 ≤ wo2 T L r ∧ wo2 T L r ≤ 99 := by
    have := numZ_b (T := T) (L := L) (r := numP T L 0 99 r) (lo := 0) (hi := wo1 T L r)
    unfold wo2
    omega
  have key : ∀ fuel, 4 ≤ fuel → Wp (Re_worthsLine_b7 N fuel 28 (iv 99) (iv 0) (iv 1) h) (fun _ h2 => FrHl h h2 ∧ ∃ r2, RdS T L r2 h2 ∧ sgnR T L 59 r2 = woR T L r ∧ StaL T L (mkS (woH T L (sH S) r) (sC S) (sK S) (sD S) (sPl S) (sE S)) h2) := by
    intro fuel hf
    obtain ⟨g, rfl⟩ : ∃ g, fuel = (((g + 1) + 1) + 1) + 1 := ⟨fuel - 4, by omega⟩
    rw [Re_worthsLine_b7]
    refine Wp_ifn (by decide) (Wp_ck (by rw [k28 x.1]) ?_)
    rw [il0]
    refine Wp_bd2 (numberR hN x s (by omega) (by omega)) ?_
    rintro v h1 ⟨rfl, f1, s1⟩
    have x1 := f1.tx x
    refine Wp_ck (by rw [k28 x1.1]) (Wp_bn (p28_1 x1.1) (Wp_ck (by rw [k16 x1.1]) ?_))
    rw [p16_14 x1.1]
    refine Wp_bde (put_in (z := 1) (k17 x1.1) (by omega) (by omega) (by omega)) ?_
    rw [show (1 : Int).toNat = 1 from rfl, il1, iv_add, iv_add, show (0 : Int) + numZ T L 0 99 r = wo1 T L r from by unfold wo1; omega, show numZ T L 0 99 r = wo1 T L r from rfl, show (1 : Int) + 1 = 2 from rfl]
    have g1 : FrS (fun b => b = 7 ∨ b = 17) h (wI h1 17 1 (iv (wo1 T L r))) := (f1.1.up (fun b e => Or.inl e)).aI (Or.inr rfl)
    have r1 : FrHl h (wI h1 17 1 (iv (wo1 T L r))) := f1.hl.w (by omega)
    have y1 := r1.tx x
    have t1 := s1.w (a := 17) (i := 1) (v := iv (wo1 T L r)) (by omega)
    have o1 : hI (wI h1 17 1 (iv (wo1 T L r))) 17 1 = iv (wo1 T L r) := by rw [hI_wI, if_pos ⟨rfl, rfl⟩]
    generalize (wI h1 17 1 (iv (wo1 T L r))) = k1 at g1 r1 y1 t1 o1 ⊢
    rw [Re_worthsLine_b7]
    refine Wp_ifn (by decide) (Wp_ck (by rw [k28 y1.1]) ?_)
    rw [il0]
    refine Wp_bd2 (numberR hN y1 t1 (by omega) (by omega)) ?_
    rintro v h2 ⟨rfl, f2, s2⟩
    have x2 := f2.tx y1
    refine Wp_ck (by rw [k28 x2.1]) (Wp_bn (p28_1 x2.1) (Wp_ck (by rw [k16 x2.1]) ?_))
    rw [p16_14 x2.1]
    refine Wp_bde (put_in (z := 2) (k17 x2.1) (by omega) (by omega) (by omega)) ?_
    rw [show (2 : Int).toNat = 2 from rfl, il1, iv_add, iv_add, show numZ T L 0 (wo1 T L r) (numP T L 0 99 r) = wo2 T L r from rfl, show (2 : Int) + 1 = 3 from rfl]
    have g2 : FrS (fun b => b = 7 ∨ b = 17) h (wI h2 17 2 (iv (wo1 T L r + wo2 T L r))) := (g1.tr (f2.1.up (fun b e => Or.inl e))).aI (Or.inr rfl)
    have r2 : FrHl h (wI h2 17 2 (iv (wo1 T L r + wo2 T L r))) := (r1.tr f2.hl).w (by omega)
    have y2 := r2.tx x
    have t2 := s2.w (a := 17) (i := 2) (v := iv (wo1 T L r + wo2 T L r)) (by omega)
    have o2 : hI (wI h2 17 2 (iv (wo1 T L r + wo2 T L r))) 17 2 = iv (wo1 T L r + wo2 T L r) := by rw [hI_wI, if_pos ⟨rfl, rfl⟩]
    have o1' : hI (wI h2 17 2 (iv (wo1 T L r + wo2 T L r))) 17 1 = iv (wo1 T L r) := by rw [hI_wI, if_neg (by omega), f2.1.I (by omega)]; exact o1
    generalize (wI h2 17 2 (iv (wo1 T L r + wo2 T L r))) = k2 at g2 r2 y2 t2 o2 o1' ⊢
    rw [Re_worthsLine_b7]
    refine Wp_ifn (by decide) (Wp_ck (by rw [k28 y2.1]) ?_)
    rw [il0]
    refine Wp_bd2 (numberR hN y2 t2 (by omega) (by omega)) ?_
    rintro v h3 ⟨rfl, f3, s3⟩
    have x3 := f3.tx y2
    refine Wp_ck (by rw [k28 x3.1]) (Wp_bn (p28_1 x3.1) (Wp_ck (by rw [k16 x3.1]) ?_))
    rw [p16_14 x3.1]
    refine Wp_bde (put_in (z := 3) (k17 x3.1) (by omega) (by omega) (by omega)) ?_
    rw [show (3 : Int).toNat = 3 from rfl, il1, iv_add, iv_add, show numZ T L 0 (wo2 T L r) (numP T L 0 (wo1 T L r) (numP T L 0 99 r)) = wo3 T L r from rfl, show (3 : Int) + 1 = 4 from rfl]
    have g3 : FrS (fun b => b = 7 ∨ b = 17) h (wI h3 17 3 (iv (wo1 T L r + wo2 T L r + wo3 T L r))) := (g2.tr (f3.1.up (fun b e => Or.inl e))).aI (Or.inr rfl)
    have r3 : FrHl h (wI h3 17 3 (iv (wo1 T L r + wo2 T L r + wo3 T L r))) := (r2.tr f3.hl).w (by omega)
    have t3 := s3.w (a := 17) (i := 3) (v := iv (wo1 T L r + wo2 T L r + wo3 T L r)) (by omega)
    have o3 : hI (wI h3 17 3 (iv (wo1 T L r + wo2 T L r + wo3 T L r))) 17 3 = iv (wo1 T L r + wo2 T L r + wo3 T L r) := by rw [hI_wI, if_pos ⟨rfl, rfl⟩]
    have o2' : hI (wI h3 17 3 (iv (wo1 T L r + wo2 T L r + wo3 T L r))) 17 2 = iv (wo1 T L r + wo2 T L r) := by rw [hI_wI, if_neg (by omega), f3.1.I (by omega)]; exact o2
    have o1'' : hI (wI h3 17 3 (iv (wo1 T L r + wo2 T L r + wo3 T L r))) 17 1 = iv (wo1 T L r) := by rw [hI_wI, if_neg (by omega), f3.1.I (by omega)]; exact o1'
    generalize (wI h3 17 3 (iv (wo1 T L r + wo2 T L r + wo3 T L r))) = k3 at g3 r3 t3 o3 o2' o1'' ⊢
    rw [Re_worthsLine_b7]
    refine Wp_ifp (by decide) (Wp_ret ⟨r3, _, t3, rfl, ?_, ?_⟩)
    · have a := st.1.fr g3
      exact ⟨fun g hg => (a.1 g hg).trans (by congr 1), a.2.1, a.2.2.1, a.2.2.2.1, a.2.2.2.2.1, a.2.2.2.2.2.1, a.2.2.2.2.2.2.1, a.2.2.2.2.2.2.2⟩
    · intro n hn
      have c : n = 0 ∨ n = 1 ∨ n = 2 ∨ n = 3 := by omega
      rcases c with rfl | rfl | rfl | rfl
      · rw [r3.2.2]
        exact st.2 0 (by omega)
      · exact o1''
      · exact o2'
      · exact o3
  unfold Re_worthsLine
  rw [show (99 : Int32) = iv 99 from iv_lit _, il0, il1]
  exact key N (by omega)
