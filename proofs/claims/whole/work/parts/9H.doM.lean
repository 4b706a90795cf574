/-! THE PURE PROOFS, 85: the reference does: come, give, quarter, off, undo. -/
theorem copiesM {N a b x y la lb : Nat} {h : PH} (hN : 100 ≤ N) (hab : a ≠ b) (ka : hK h a = (20, la)) (kb : hK h b = (20, lb)) (hla : la ≤ 100000) (hlb : lb ≤ 100000) (ha : x + 14 ≤ la) (hb : y + 14 ≤ lb) : Wp (Mo_copies N (some a) (iv x) (some b) (iv y) h) (fun _ h2 => FrI (fun c => c = b) h h2 ∧ ∀ j, hI h2 b j = if y ≤ j ∧ j < y + 14 then hI h a (x + (j - y)) else hI h b j) := by
  have key : ∀ (m k : Nat) (h1 : PH), k + m = 14 → FrI (fun c => c = b) h h1 → (∀ j, hI h1 b j = if y ≤ j ∧ j < y + k then hI h a (x + (j - y)) else hI h b j) → ∀ fuel, m < fuel → Wp (Mo_copies_b3 N fuel (some a) (iv x) (some b) (iv y) (iv k) h1) (fun _ h2 => FrI (fun c => c = b) h h2 ∧ ∀ j, hI h2 b j = if y ≤ j ∧ j < y + 14 then hI h a (x + (j - y)) else hI h b j) := by
    intro m
    induction m with
    | zero =>
      intro k h1 ek f e fuel hf
      obtain ⟨fu, rfl⟩ : ∃ e, fuel = e + 1 := ⟨fuel - 1, by omega⟩
      obtain rfl : k = 14 := by omega
      rw [Mo_copies_b3]
      exact Wp_ifp (by decide) (Wp_ret ⟨f, e⟩)
    | succ m ih =>
      intro k h1 ek f e fuel hf
      obtain ⟨fu, rfl⟩ : ∃ e, fuel = e + 1 := ⟨fuel - 1, by omega⟩
      rw [Mo_copies_b3]
      dsimp only
      rw [show (14 : Int32) = iv 14 from iv_lit _, il1, iv_add, iv_add, iv_add]
      refine Wp_ifn (by rw [iv_le (by omega) (by omega) (by omega) (by omega)]; omega) (Wp_bn rfl (Wp_ck (by rw [f.2.1, ka]) (Wp_ck (by rw [f.2.1, ka]; exact inb_iv (by omega) (by omega) (by omega)) (Wp_bn rfl (Wp_ck (by rw [f.2.1, kb]) (Wp_ck (by rw [f.2.1, kb]; exact inb_iv (by omega) (by omega) (by omega)) (Wp_lt ?_)))))))
      rw [show (x : Int) + (k : Int) = ((x + k : Nat) : Int) from by omega, show (y : Int) + (k : Int) = ((y + k : Nat) : Int) from by omega, show (k : Int) + 1 = ((k + 1 : Nat) : Int) from by omega, ix_nat (by omega), ix_nat (by omega), f.I hab]
      refine ih (k + 1) _ (by omega) (f.w (S := fun c => c = b) rfl) (fun j => ?_) fu (by omega)
      rw [hI_wI]
      by_cases c : j = y + k
      · rw [if_pos ⟨rfl, c⟩, if_pos (by omega), show x + (j - y) = x + k from by omega]
      · rw [if_neg (by omega), e]
        by_cases d : y ≤ j ∧ j < y + k
        · rw [if_pos d, if_pos (by omega)]
        · rw [if_neg d, if_neg (by omega)]
  unfold Mo_copies
  rw [il0]
  exact key 14 0 h (by omega) FrI.rf (fun j => by rw [if_neg (by omega)]) N (by omega)
theorem RestM.chg {g g2 : Gs} {h h2 : PH} {S : Nat → Prop} (x : RestM g h) (f : FrS S h h2) (n : ∀ b, S b → b = 92 ∨ (101 ≤ b ∧ b ≤ 125)) (e1 : hI h2 92 1 = hI h 92 1) (eT : gsT g2 = gsT g) (eL : gsL g2 = gsL g) (eH : gsH g2 = gsH g) (eC : gsC g2 = gsC g) (eE : gsE g2 = gsE g) (nt : NtM (gsN g2) h2) (ev : EvMt 0 (gsV g2) h2) (un : UnM (gsU g2) h2) (mk : MkM (gsM g2) h2) : RestM g2 h2 := by
  obtain ⟨⟨s, t1, t2, t3, t4⟩, b, -⟩ := x
  have l : ∀ b, 93 ≤ b → b ≤ 100 → hI h2 b = hI h b := fun b b1 b2 => (f.2.2.2 b (fun z => by have := n b z; omega)).1
  have em : gsm g2 = gsm g := by unfold gsm; rw [eH]
  unfold RestM
  rw [eT, eL, eH, eC, eE, em]
  exact ⟨⟨f.shp s, t1, t2, e1.trans t3, fun k hk => by rw [l 93 (by omega) (by omega)]; exact t4 k hk⟩, ⟨⟨fun k hk => by rw [l 94 (by omega) (by omega)]; exact b.1.1 k hk, fun k hk => by rw [l 95 (by omega) (by omega)]; exact b.1.2 k hk⟩, fun k hk => by rw [l 100 (by omega) (by omega)]; exact b.2.1 k hk, fun k hk => by rw [l 98 (by omega) (by omega), l 99 (by omega) (by omega)]; exact b.2.2 k hk⟩, nt, ev, un, mk⟩
theorem UnM.cg {us : Nat × (Nat → Nat → Int)} {h h2 : PH} (x : UnM us h) (e0 : hI h2 92 40 = hI h 92 40) (e1 : hI h2 119 = hI h 119) : UnM us h2 := by
  unfold UnM at x ⊢
  rw [e0, e1]
  exact x
theorem MkM.cg {mk : Mk} {h h2 : PH} (x : MkM mk h) (e0 : hZ h2 120 = hZ h 120) (e1 : hI h2 118 = hI h 118) (e2 : hI h2 113 = hI h 113) (e3 : hI h2 114 = hI h 114) (e4 : hI h2 115 = hI h 115) : MkM mk h2 := by
  unfold MkM EvMt at x ⊢
  rw [e0, e1, e2, e3, e4]
  exact x
section
variable {N : Nat} {g : Gs} {h : PH}
/-- the night is changed -/
theorem RestM.night {n : Nat → Int} {h2 : PH} (x : RestM g h) (f : FrS S2 h h2) (e : ∀ j, j ≠ 41 → j ≠ 42 → j ≠ 43 → hI h2 92 j = hI h 92 j) (nt : NtM n h2) : RestM (gsNight g n) h2 ∧ MFr h h2 := by
  refine ⟨x.chg f (fun b z => by unfold S2 at z; omega) (e 1 (by omega) (by omega) (by omega)) rfl rfl rfl rfl rfl nt (x.2.2.2.1.cg ?_ ?_ ?_) (x.2.2.2.2.1.cg (e 40 (by omega) (by omega) (by omega)) ?_) (x.2.2.2.2.2.cg ((f.2.2.2 _ (by unfold S2; omega)).2.2) ?_ ?_ ?_ ?_), f.up (fun b z => by unfold S2 at z; show 92 ≤ b ∧ b ≤ 125; omega)⟩
  all_goals exact (f.2.2.2 _ (by unfold S2; omega)).1
theorem keepsM (hN : 3000 ≤ N) (x : RestM g h) (k : GOK g) : Wp (Mo_keeps N 92 h) (fun _ h2 => RestM (gsPush g) h2 ∧ MFr h h2 ∧ hI h2 92 0 = hI h 92 0) := by
  have s := x.s
  have us := k.2.2.2.2.1
  obtain ⟨u0, u1⟩ := x.2.2.2.2.1
  have fin : ∀ (h1 : PH) (n : Nat) (w : Nat → Nat → Int), n < 16 → FrS (fun b => b = 92 ∨ b = 119) h h1 → hZ h1 = hZ h → hI h1 92 1 = hI h 92 1 → hI h1 92 0 = hI h 92 0 → hI h1 92 40 = iv n → (∀ i, i < n → ∀ k, k < 14 → hI h1 119 (14 * i + k) = iv (w i k)) → pushU (gsU g) (gsN g) = (n + 1, upN w n (gsN g)) ∨ (∃ us, pushU (gsU g) (gsN g) = (n + 1, us) ∧ ∀ i, i < n + 1 → ∀ k, us i k = upN w n (gsN g) i k) → Wp (Mo_keeps_b49 N 92 h1) (fun _ h2 => RestM (gsPush g) h2 ∧ MFr h h2 ∧ hI h2 92 0 = hI h 92 0) := by
    intro h1 n w hn f z e1 e0 e40 r ep
    have s1 := f.shp s
    have n1 : NtM (gsN g) h1 := fun k hk => (f.I (by omega) k).trans (x.nt k hk)
    unfold Mo_keeps_b49
    rw [il0, show (14 : Int32) = iv 14 from iv_lit _, e40, iv_mul, p92_35 s1, p92_38 s1, show (14 : Int) * (n : Int) = ((14 * n : Nat) : Int) from by omega, show (0 : Int) = ((0 : Nat) : Int) from rfl]
    refine Wp_ck (by rw [k92 s1]) (Wp_bd2 (copiesM (a := 116) (b := 119) (la := 14) (lb := 224) (by omega) (by omega) (k116 s1) (k119 s1) (by omega) (by omega) (by omega) (by omega)) ?_)
    rintro - h2 ⟨f2, e2⟩
    have f12 := f.tr (f2.s.up (T := fun b => b = 92 ∨ b = 119) (fun b z => Or.inr z))
    refine Wp_ck (by rw [f2.2.1, k92 s1]) (Wp_lt (Wp_ret ?_))
    rw [f2.I (show (92 : Nat) ≠ 119 by omega), e40, il1, iv_add]
    have f3 : FrS (fun b => b = 92 ∨ b = 119) h (wI h2 92 40 (iv ((n : Int) + 1))) := f12.aI (Or.inl rfl)
    have us2 : ∃ us, pushU (gsU g) (gsN g) = (n + 1, us) ∧ ∀ i, i < n + 1 → ∀ k, us i k = upN w n (gsN g) i k := by
      rcases ep with e | e
      · exact ⟨_, e, fun _ _ _ => rfl⟩
      · exact e
    obtain ⟨us', eu, ew⟩ := us2
    refine ⟨x.chg f3 (fun b z => by omega) (by rw [hI_wI, if_neg (by omega), f2.I (by omega)]; exact e1) rfl rfl rfl rfl rfl (fun k hk => ?_) (x.2.2.2.1.cg (f3.2.2.2 _ (by omega)).1 (f3.2.2.2 _ (by omega)).1 (f3.2.2.2 _ (by omega)).1) ?_ (x.2.2.2.2.2.cg (by rw [hZ_wI, f2.2.2.2.1, z]) (f3.2.2.2 _ (by omega)).1 (f3.2.2.2 _ (by omega)).1 (f3.2.2.2 _ (by omega)).1 (f3.2.2.2 _ (by omega)).1), f3.up (fun b z => by show 92 ≤ b ∧ b ≤ 125; omega), by rw [hI_wI, if_neg (by omega), f2.I (by omega)]; exact e0⟩
    · rw [f3.I (by omega)]
      exact x.nt k hk
    · show UnM (pushU (gsU g) (gsN g)) _
      rw [eu]
      refine ⟨by rw [hI_wI, if_pos ⟨rfl, rfl⟩]; rfl, fun i hi j hj => ?_⟩
      show hI _ 119 (14 * i + j) = iv (us' i j)
      rw [hI_wI, if_neg (by omega), e2, ew i hi]
      unfold upN
      by_cases c : i = n
      · rw [if_pos (by omega), if_pos c, show 0 + (14 * i + j - 14 * n) = j from by omega]
        exact n1 j hj
      · rw [if_neg (by omega), if_neg c]
        exact r i (by have : i < n + 1 := hi; omega) j hj
  unfold Mo_keeps
  rw [u0, show (16 : Int32) = iv 16 from iv_lit _, il0]
  refine Wp_ck (by rw [k92 s]) (Wp_if (fun c => ?_) (fun c => ?_))
  · rw [iv_eq (by omega) (by omega) (by omega) (by omega)] at c
    have key : ∀ (m q : Nat) (h1 : PH), q + m = 210 → FrI (fun b => b = 119) h h1 → (∀ j, j < 224 → hI h1 119 j = if j < q then hI h 119 (j + 14) else hI h 119 j) → ∀ fuel, m < fuel → Wp (Mo_keeps_b11 N fuel 92 (iv q) h1) (fun _ h2 => RestM (gsPush g) h2 ∧ MFr h h2 ∧ hI h2 92 0 = hI h 92 0) := by
      intro m
      induction m with
      | zero =>
        intro q h1 eq f e fuel hf
        obtain ⟨fu, rfl⟩ : ∃ e, fuel = e + 1 := ⟨fuel - 1, by omega⟩
        obtain rfl : q = 210 := by omega
        rw [Mo_keeps_b11]
        refine Wp_ifp (by decide) (Wp_ck (by rw [f.2.1, k92 s]) (Wp_lt ?_))
        rw [f.I (show (92 : Nat) ≠ 119 by omega), u0, il1, iv_sub]
        have f3 : FrS (fun b => b = 92 ∨ b = 119) h (wI h1 92 40 (iv ((gsU g).1 - 1))) := (f.s.up (fun b z => Or.inr z)).aI (Or.inl rfl)
        refine fin _ 15 (fun i => (gsU g).2 (i + 1)) (by omega) f3 (by rw [hZ_wI, f.2.2.2.1]) (by rw [hI_wI, if_neg (by omega), f.I (by omega)]) (by rw [hI_wI, if_neg (by omega), f.I (by omega)]) (by rw [hI_wI, if_pos ⟨rfl, rfl⟩, c]; rfl) (fun i hi j hj => ?_) (Or.inr ⟨fun i => if i < 15 then (gsU g).2 (i + 1) else gsN g, ?_, fun i hi k => ?_⟩)
        · rw [hI_wI, if_neg (by omega), e _ (by omega), if_pos (by omega), show 14 * i + j + 14 = 14 * (i + 1) + j from by omega]
          exact u1 (i + 1) (by omega) j hj
        · unfold pushU
          rw [if_neg (by omega)]
        · unfold upN
          dsimp only
          by_cases d : i < 15
          · rw [if_pos d, if_neg (by omega)]
          · rw [if_neg d, if_pos (by omega)]
      | succ m ih =>
        intro q h1 eq f e fuel hf
        obtain ⟨fu, rfl⟩ : ∃ e, fuel = e + 1 := ⟨fuel - 1, by omega⟩
        have k119' : hK h1 119 = (20, 224) := by rw [f.2.1, k119 s]
        rw [Mo_keeps_b11]
        dsimp only
        rw [show (210 : Int32) = iv 210 from iv_lit _, show (14 : Int32) = iv 14 from iv_lit _, il1, iv_add, iv_add]
        refine Wp_ifn (by rw [iv_le (by omega) (by omega) (by omega) (by omega)]; omega) (Wp_ck (by rw [f.2.1, k92 s]) (Wp_bn (by rw [f.2.2.1]; exact p92_38 s) (Wp_ck (by rw [k119']) (Wp_ck (by rw [k119']; exact inb_iv (by omega) (by omega) (by omega)) (Wp_ck (by rw [k119']; exact inb_iv (by omega) (by omega) (by omega)) (Wp_lt ?_))))))
        rw [show (q : Int) + 14 = ((q + 14 : Nat) : Int) from by omega, show (q : Int) + 1 = ((q + 1 : Nat) : Int) from by omega, ix_nat (by omega), ix_nat (by omega), e _ (by omega), if_neg (by omega)]
        refine ih (q + 1) _ (by omega) (f.w (S := fun b => b = 119) rfl) (fun j hj => ?_) fu (by omega)
        rw [hI_wI]
        by_cases d : j = q
        · rw [if_pos ⟨rfl, d⟩, if_pos (by omega), d]
        · rw [if_neg (by omega), e _ hj]
          by_cases d2 : j < q
          · rw [if_pos d2, if_pos (by omega)]
          · rw [if_neg d2, if_neg (by omega)]
    exact key 210 0 h (by omega) FrI.rf (fun j _ => by rw [if_neg (by omega)]) N (by omega)
  · rw [iv_eq (by omega) (by omega) (by omega) (by omega)] at c
    exact fin h (gsU g).1 (gsU g).2 (by omega) FrS.rf rfl rfl rfl u0 u1 (Or.inl (by unfold pushU; rw [if_pos (by omega)]))
theorem moComeM {z : Int} (hN : 3000 ≤ N) (x : RestM g h) (k : GOK g) (hz : -2147483648 ≤ z ∧ z < 2147483648) : Wp (Mo_come N 92 (iv z) h) (fun v h2 => v = decide (cCome g z) ∧ RestM (gCome g z) h2 ∧ MFr h h2) := by
  have b := n_b k
  unfold Mo_come gCome
  refine Wp_ck (by rw [k92 x.s]) (Wp_lt ?_)
  have x1 := x.t0 (v := 0)
  have f1 : MFr h (wI h 92 0 0) := t0F
  generalize wI h 92 0 0 = h1 at x1 f1 ⊢
  refine Wp_bde (canCM x1.s k.1 x1.hs x1.nt k.2.2.1 hz) ?_
  by_cases o : cCome g z
  · rw [decide_eq_true (show gsN g 0 ≠ gsH g 0 ∧ gsN g 6 = 0 ∧ gsN g 5 = 0 ∧ gsN g 7 ≤ z ∧ z ≤ 3 + gsN g 7 from o), if_pos o]
    refine Wp_ifn (by decide) (Wp_ck (by rw [k92 x1.s]) (Wp_bd2 (keepsM hN x1 k) ?_))
    rintro - h2 ⟨y, f, -⟩
    have o1 := o.1
    refine Wp_ck (by rw [k92 y.s]) (Wp_bd2 (comesM y.s k.1 y.hs y.nt k.2.2.1 (show gsN g 0 < gsH g 0 by omega) (by have := o.2.2.2; show 0 ≤ z - gsN g 7 ∧ z - gsN g 7 ≤ 3; omega)) ?_)
    rintro - h3 ⟨f3, n3⟩
    have e := y.night (f3.up (fun b z => Or.inr z)) (fun j _ _ _ => f3.I (by omega) j) n3
    exact Wp_ret ⟨rfl, e.1, (f1.tr f).tr e.2⟩
  · rw [decide_eq_false (show ¬ (gsN g 0 ≠ gsH g 0 ∧ gsN g 6 = 0 ∧ gsN g 5 = 0 ∧ gsN g 7 ≤ z ∧ z ≤ 3 + gsN g 7) from o), if_neg o]
    exact Wp_ifp (by decide) (Wp_ret ⟨rfl, x1, f1⟩)
theorem HoF.night {n : Nat → Int} {h2 : PH} (x : RestM g h) (f : HoF h h2) (nt : NtM n h2) : RestM (gsNight g n) h2 ∧ MFr h h2 ∧ hI h2 92 0 = hI h 92 0 := by
  have e := x.night f.1 f.2.2.2 nt
  exact ⟨e.1, e.2, f.2.2.2 0 (by omega) (by omega) (by omega)⟩
theorem moGiveM {z : Int} (hN : 3000 ≤ N) (x : RestM g h) (k : GOK g) (hz : -2147483648 ≤ z ∧ z < 2147483648) : Wp (Mo_give N 92 (iv z) h) (fun v h2 => ((cGive g z ∧ v = iv (gv (gsH g) (gsN g 0) (gsN g 3) z (gsN g 1) (gsN g 2)) ∧ hI h2 92 0 = iv 0) ∨ (¬ cGive g z ∧ hI h2 92 0 = iv 1)) ∧ RestM (gGive g z) h2 ∧ MFr h h2) := by
  have s := x.s
  have b := n_b k
  have no : ¬ cGive g z → Wp (Mo_give_b21 N 92 92 (iv z) h) (fun v h2 => ((cGive g z ∧ v = iv (gv (gsH g) (gsN g 0) (gsN g 3) z (gsN g 1) (gsN g 2)) ∧ hI h2 92 0 = iv 0) ∨ (¬ cGive g z ∧ hI h2 92 0 = iv 1)) ∧ RestM (gGive g z) h2 ∧ MFr h h2) := by
    intro no
    unfold Mo_give_b21 Mo_give_b22
    refine Wp_ck (by rw [k92 s]) (Wp_lt (Wp_ck (by rw [hK_wI, k92 s]) (Wp_ifp (by rw [hI_wI, if_pos ⟨rfl, rfl⟩]) ?_)))
    refine Wp_ret ⟨Or.inr ⟨no, by rw [hI_wI, if_pos ⟨rfl, rfl⟩]; decide⟩, ?_, t0F⟩
    unfold gGive
    rw [if_neg no]
    exact x.t0
  unfold Mo_give
  rw [il0, show (4 : Int32) = iv 4 from iv_lit _]
  refine Wp_bde (within_eq (by omega) (by omega) (by omega)) ?_
  by_cases o : 0 ≤ z ∧ z ≤ 4
  · rw [decide_eq_true o]
    refine Wp_ifn (by decide) (Wp_ck (by rw [k92 s]) (Wp_bde (canGM s x.nt k.2.2.1) ?_))
    by_cases o2 : 0 < gsN g 3 ∧ gsN g 4 = 0
    · rw [decide_eq_true o2]
      have c : cGive g z := ⟨o, o2⟩
      refine Wp_ifn (by decide) ?_
      unfold Mo_give_b22
      rw [il0]
      refine Wp_ck (by rw [k92 s]) (Wp_lt ?_)
      have x1 := x.t0 (v := iv 0)
      have f1 : MFr h (wI h 92 0 (iv 0)) := t0F
      have z0 : hI (wI h 92 0 (iv 0)) 92 0 = iv 0 := by rw [hI_wI, if_pos ⟨rfl, rfl⟩]
      generalize wI h 92 0 (iv 0) = h1 at x1 f1 z0 ⊢
      refine Wp_ck (by rw [k92 x1.s]) (Wp_ifn (by rw [z0]; decide) (Wp_bd2 (keepsM hN x1 k) ?_))
      rintro - h2 ⟨y, f, e0⟩
      have nq : gsN g 0 < gsH g 0 := by
        have z12 := k.2.2.1.2.2.2.2.2.2.2.2.2.2.2.1
        have b0 := b.1
        omega
      refine Wp_ck (by rw [k92 y.s]) (Wp_bd2 (handsM (by omega) y.s k.1 y.hs y.nt k.2.2.1 nq o) ?_)
      rintro v h3 ⟨rfl, f3, n3⟩
      have e := HoF.night y f3 n3
      unfold gGive
      rw [if_pos c]
      exact Wp_ret ⟨Or.inl ⟨c, rfl, e.2.2.trans (e0.trans z0)⟩, e.1, (f1.tr f).tr e.2.1⟩
    · rw [decide_eq_false o2]
      exact Wp_ifp (by decide) (no (fun y => o2 y.2))
  · rw [decide_eq_false o]
    exact Wp_ifp (by decide) (no (fun y => o y.1))
theorem canClM (x : RestM g h) (k : GOK g) : Mo_canClose N 92 h = some (decide (opn g), h) := (show Mo_canClose N 92 h = Mo_isOn N 92 h from rfl).trans (isOnM x k)
theorem moQuarterM (hN : 3000 ≤ N) (x : RestM g h) (k : GOK g) : Wp (Mo_quarter N 92 h) (fun v h2 => v = iv (if gsN g 0 = gsH g 0 then -1 else passM (gsH g) (gsN g) 0) ∧ RestM (gQuarter g) h2 ∧ MFr h h2) := by
  have b := n_b k
  unfold Mo_quarter gQuarter
  rw [im1, il0]
  refine Wp_ck (by rw [k92 x.s]) (Wp_lt ?_)
  have x1 := x.t0 (v := iv 0)
  have f1 : MFr h (wI h 92 0 (iv 0)) := t0F
  generalize wI h 92 0 (iv 0) = h1 at x1 f1 ⊢
  refine Wp_bde (overM x1.s k.1 x1.hs x1.nt k.2.2.1) ?_
  by_cases o : gsN g 0 = gsH g 0
  · rw [decide_eq_true o, if_pos o, if_pos o]
    exact Wp_ifn (by decide) (Wp_ret ⟨rfl, x1, f1⟩)
  · rw [decide_eq_false o, if_neg o, if_neg o]
    refine Wp_ifp (by decide) (Wp_ck (by rw [k92 x1.s]) (Wp_bd2 (keepsM hN x1 k) ?_))
    rintro - h2 ⟨y, f, -⟩
    refine Wp_ck (by rw [k92 y.s]) (Wp_bd2 (passesM (by omega) y.s k.1 y.hs y.nt k.2.2.1 (show gsN g 0 < gsH g 0 by omega)) ?_)
    rintro - h3 ⟨f3, n3⟩
    have e := HoF.night y f3 n3
    have s3 := e.1.s
    refine Wp_ck (by rw [k92 s3]) (Wp_bn (p92_35 s3) (Wp_ck (by rw [k116 s3]) (Wp_ck (by rw [k116 s3]; decide) (Wp_ret ⟨?_, e.1, (f1.tr f).tr e.2.1⟩))))
    rw [ixA0]
    exact n3 0 (by omega)
theorem moOffM (hN : 3000 ≤ N) (x : RestM g h) (k : GOK g) : Wp (Mo_off N 92 h) (fun v h2 => v = decide (opn g) ∧ RestM (gOff g) h2 ∧ MFr h h2) := by
  have b := n_b k
  unfold Mo_off gOff
  refine Wp_ck (by rw [k92 x.s]) (Wp_lt ?_)
  have x1 := x.t0 (v := 0)
  have f1 : MFr h (wI h 92 0 0) := t0F
  generalize wI h 92 0 0 = h1 at x1 f1 ⊢
  refine Wp_bde (canClM x1 k) ?_
  by_cases o : opn g
  · rw [decide_eq_true o, if_pos o]
    refine Wp_ifn (by decide) (Wp_ck (by rw [k92 x1.s]) (Wp_bd2 (keepsM hN x1 k) ?_))
    rintro - h2 ⟨y, f, -⟩
    refine Wp_ck (by rw [k92 y.s]) (Wp_bd2 (shutsM (H := gsH g) (C := gsC g) y.s y.nt) ?_)
    rintro - h3 ⟨f3, n3⟩
    have e := y.night (f3.up (fun b z => Or.inr z)) (fun j _ _ _ => f3.I (by omega) j) n3
    exact Wp_ret ⟨rfl, e.1, (f1.tr f).tr e.2⟩
  · rw [decide_eq_false o, if_neg o]
    exact Wp_ifp (by decide) (Wp_ret ⟨rfl, x1, f1⟩)
theorem moUndoM (hN : 3000 ≤ N) (x : RestM g h) (k : GOK g) : Wp (Mo_undo N 92 h) (fun v h2 => v = decide ((gsU g).1 ≠ 0) ∧ RestM (gUndo g) h2 ∧ MFr h h2) := by
  have us := k.2.2.2.2.1
  unfold Mo_undo gUndo
  rw [il0, il1, show (14 : Int32) = iv 14 from iv_lit _]
  refine Wp_ck (by rw [k92 x.s]) (Wp_lt ?_)
  have x1 := x.t0 (v := iv 0)
  have f1 : MFr h (wI h 92 0 (iv 0)) := t0F
  generalize wI h 92 0 (iv 0) = h1 at x1 f1 ⊢
  have s1 := x1.s
  obtain ⟨u0, u1⟩ := x1.2.2.2.2.1
  rw [u0]
  refine Wp_if (fun c => ?_) (fun c => ?_)
  · rw [iv_eq (by omega) (by omega) (by omega) (by omega)] at c
    rw [decide_eq_false (by omega), if_pos (by omega)]
    exact Wp_ret ⟨rfl, x1, f1⟩
  · rw [iv_eq (by omega) (by omega) (by omega) (by omega)] at c
    obtain ⟨n, en⟩ : ∃ n, (gsU g).1 = n + 1 := ⟨(gsU g).1 - 1, by omega⟩
    rw [decide_eq_true (show (gsU g).1 ≠ 0 by omega), if_neg (by omega), en, iv_sub, show ((n + 1 : Nat) : Int) - 1 = (n : Int) from by omega, show n + 1 - 1 = n from by omega]
    refine Wp_lt ?_
    have f2 : FrS (fun b => b = 92 ∨ b = 116) h1 (wI h1 92 40 (iv n)) := FrS.rf.aI (Or.inl rfl)
    have s2 := f2.shp s1
    rw [show hI (wI h1 92 40 (iv n)) 92 40 = iv n from by rw [hI_wI, if_pos ⟨rfl, rfl⟩], p92_35 s2, p92_38 s2, iv_mul, show (14 : Int) * (n : Int) = ((14 * n : Nat) : Int) from by omega, show (0 : Int) = ((0 : Nat) : Int) from rfl]
    refine Wp_bd2 (copiesM (a := 119) (b := 116) (la := 224) (lb := 14) (by omega) (by omega) (k119 s2) (k116 s2) (by omega) (by omega) (by omega) (by omega)) ?_
    rintro - h3 ⟨f3, e3⟩
    have f13 := f2.tr (f3.s.up (T := fun b => b = 92 ∨ b = 116) (fun b z => Or.inr z))
    refine Wp_ret ⟨rfl, x1.chg f13 (fun b z => by omega) (by rw [f3.I (by omega), hI_wI, if_neg (by omega)]) rfl rfl rfl rfl rfl (fun j hj => ?_) (x1.2.2.2.1.cg (f13.2.2.2 _ (by omega)).1 (f13.2.2.2 _ (by omega)).1 (f13.2.2.2 _ (by omega)).1) ⟨by rw [f3.I (by omega), hI_wI, if_pos ⟨rfl, rfl⟩]; rfl, fun i hi j hj => ?_⟩ (x1.2.2.2.2.2.cg (f13.2.2.2 _ (by omega)).2.2 (f13.2.2.2 _ (by omega)).1 (f13.2.2.2 _ (by omega)).1 (f13.2.2.2 _ (by omega)).1 (f13.2.2.2 _ (by omega)).1), f1.tr (f13.up (fun b z => by show 92 ≤ b ∧ b ≤ 125; omega))⟩
    · show hI h3 116 j = iv ((gsU g).2 n j)
      rw [e3, if_pos (by omega), show 14 * n + (j - 0) = 14 * n + j from by omega, hI_wI, if_neg (by omega)]
      exact u1 n (by omega) j hj
    · rw [f13.I (by omega)]
      exact u1 i (by have : i < n := hi; omega) j hj
end
