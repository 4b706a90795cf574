/-! THE PURE PROOFS, 78: the class does: come, give, quarter, off, undo, mark. -/
def pushU (us : Nat × (Nat → Nat → Int)) (n : Nat → Int) : Nat × (Nat → Nat → Int) := if us.1 < 16 then (us.1 + 1, upN us.2 us.1 n) else (16, fun i => if i < 15 then us.2 (i + 1) else n)
theorem RestL.chg {g g2 : Gs} {h h2 : PH} {S : Nat → Prop} (x : RestL g h) (f : FrS S h h2) (n : ∀ b, S b → b = 6 ∨ b = 32 ∨ b = 33 ∨ (22 ≤ b ∧ b ≤ 24) ∨ (56 ≤ b ∧ b ≤ 91)) (eT : gsT g2 = gsT g) (eL : gsL g2 = gsL g) (eH : gsH g2 = gsH g) (eC : gsC g2 = gsC g) (eE : gsE g2 = gsE g) (nt : NtL 32 (gsN g2) h2) (ev : EvAt 22 (gsV g2) h2) (un : UnL (gsU g2) h2) (mk : MkL (gsM g2) h2) : RestL g2 h2 := by
  obtain ⟨a, b, d, -⟩ := x
  have s := f.shp a.1
  have l : ∀ b, (b < 6 ∨ (7 ≤ b ∧ b ≤ 21)) → hI h2 b = hI h b ∧ hJ h2 b = hJ h b := fun b hb => ⟨(f.2.2.2 b (fun z => by have := n b z; omega)).1, (f.2.2.2 b (fun z => by have := n b z; omega)).2.1⟩
  refine ⟨?_, by rw [(l 17 (by omega)).1]; exact b, ?_, nt, ev, un, mk⟩
  · rw [eT, eL]
    exact a.cg s (by rw [f.2.1]) (by rw [f.2.1]) (by rw [f.2.2.1]) (l 3 (by omega)).1 (l 4 (by omega)).1 (by rw [(l 7 (by omega)).1]) (l 8 (by omega)).1 (l 9 (by omega)).2
  · have em : gsm g2 = gsm g := by unfold gsm; rw [eH]
    rw [em, eH, eC, eE]
    exact d.cg (fun b _ _ => (l b (by omega)).1)
theorem LeI.chg {c : Nat} {g g2 : Gs} {h h2 : PH} {S : Nat → Prop} (x : LeI c g h) (f : FrS S h h2) (n : ∀ b, S b → b = 6 ∨ b = 32 ∨ b = 33 ∨ (22 ≤ b ∧ b ≤ 24) ∨ (56 ≤ b ∧ b ≤ 91)) (eT : gsT g2 = gsT g) (eL : gsL g2 = gsL g) (eH : gsH g2 = gsH g) (eC : gsC g2 = gsC g) (eE : gsE g2 = gsE g) (nt : NtL 32 (gsN g2) h2) (ev : EvAt 22 (gsV g2) h2) (un : UnL (gsU g2) h2) (mk : MkL (gsM g2) h2) : LeI c g2 h2 ∧ CFr h h2 := by
  refine ⟨⟨x.1.chg f n eT eL eH eC eE nt ev un mk, ?_⟩, f.cf x.2.1 (fun b z => by have := n b z; omega)⟩
  rw [eH, eC]
  exact x.2.frS f (fun b z => by have := n b z; omega)
theorem p34M {h : PH} (s : Shp h) : ∀ i, i < 16 → hR h 34 i = some (56 + i) ∧ hK h (56 + i) = (3, 0) := by
  intro i hi
  have c : i = 0 ∨ i = 1 ∨ i = 2 ∨ i = 3 ∨ i = 4 ∨ i = 5 ∨ i = 6 ∨ i = 7 ∨ i = 8 ∨ i = 9 ∨ i = 10 ∨ i = 11 ∨ i = 12 ∨ i = 13 ∨ i = 14 ∨ i = 15 := by omega
  rcases c with rfl | rfl | rfl | rfl | rfl | rfl | rfl | rfl | rfl | rfl | rfl | rfl | rfl | rfl | rfl | rfl
  · exact ⟨p34_0 s, k56 s⟩
  · exact ⟨p34_1 s, k57 s⟩
  · exact ⟨p34_2 s, k58 s⟩
  · exact ⟨p34_3 s, k59 s⟩
  · exact ⟨p34_4 s, k60 s⟩
  · exact ⟨p34_5 s, k61 s⟩
  · exact ⟨p34_6 s, k62 s⟩
  · exact ⟨p34_7 s, k63 s⟩
  · exact ⟨p34_8 s, k64 s⟩
  · exact ⟨p34_9 s, k65 s⟩
  · exact ⟨p34_10 s, k66 s⟩
  · exact ⟨p34_11 s, k67 s⟩
  · exact ⟨p34_12 s, k68 s⟩
  · exact ⟨p34_13 s, k69 s⟩
  · exact ⟨p34_14 s, k70 s⟩
  · exact ⟨p34_15 s, k71 s⟩
theorem nightAtL {N p : Nat} {h : PH} (s : Shp h) (hp : p < 16) : Le_nightAt N (some 34) (iv p) h = some (some (56 + p), h) := by
  unfold Le_nightAt
  rw [il0]
  simp only [show (iv (p : Int) < iv 0) ↔ (p : Int) < 0 from iv_lt (by omega) (by omega) (by omega) (by omega)]
  rw [if_neg (by omega), bn_s, ck_p (by rw [k34 s]), k34 s, ofN]
  simp only [show (iv ((16 : Nat) : Int) ≤ iv (p : Int)) ↔ ((16 : Nat) : Int) ≤ (p : Int) from iv_le (by omega) (by omega) (by omega) (by omega)]
  rw [if_neg (by omega), ck_p (inb_iv (by omega) (by omega) (by omega)), ix_nat (by omega), (p34M s p hp).1]
section
variable {N c : Nat} {g : Gs} {h : PH}
def gsPush (g : Gs) : Gs := mkG (gsT g) (gsL g) (gsH g) (gsC g) (gsE g) (gsN g) (gsV g) (pushU (gsU g) (gsN g)) (gsM g)
def gsNight (g : Gs) (n : Nat → Int) : Gs := mkG (gsT g) (gsL g) (gsH g) (gsC g) (gsE g) n (gsV g) (gsU g) (gsM g)
theorem GOK.push (k : GOK g) : GOK (gsPush g) := by
  obtain ⟨a, b, d, e, ⟨f1, f2⟩, i⟩ := k
  refine ⟨a, b, d, e, ?_, i⟩
  show (pushU (gsU g) (gsN g)).1 ≤ 16 ∧ ∀ i, i < (pushU (gsU g) (gsN g)).1 → NOK (gsH g) ((pushU (gsU g) (gsN g)).2 i)
  unfold pushU
  by_cases z : (gsU g).1 < 16
  · rw [if_pos z]
    refine ⟨z, fun i hi => ?_⟩
    show NOK (gsH g) (upN (gsU g).2 (gsU g).1 (gsN g) i)
    unfold upN
    by_cases y : i = (gsU g).1
    · rw [if_pos y]; exact d
    · have hi2 : i < (gsU g).1 + 1 := hi
      rw [if_neg y]
      exact f2 i (by omega)
  · rw [if_neg z]
    refine ⟨Nat.le_refl _, fun i hi => ?_⟩
    show NOK (gsH g) (if i < 15 then (gsU g).2 (i + 1) else gsN g)
    by_cases y : i < 15
    · rw [if_pos y]; exact f2 (i + 1) (by omega)
    · rw [if_neg y]; exact d
theorem GOK.night {n : Nat → Int} (k : GOK g) (o : NOK (gsH g) n) : GOK (gsNight g n) := ⟨k.1, k.2.1, o, k.2.2.2⟩
theorem keepL (x : LeI c g h) (k : GOK g) : Wp (Le_keepForUndo N 6 h) (fun _ h2 => LeI c (gsPush g) h2 ∧ CFr h h2) := by
  have s := x.s
  obtain ⟨p, p16, e9, e10, un⟩ := x.1.2.2.2.2.2.1
  have u16 := k.2.2.2.2.1.1
  unfold Le_keepForUndo
  rw [p6_8 s, e9]
  refine Wp_ck (by rw [k6 s]) (Wp_bde (nightAtL s p16) (Wp_ifn (by simp) (Wp_ck (by rw [k6 s]) (Wp_bn rfl (Wp_ck (by rw [(p34M s p p16).2]) ?_)))))
  rw [p6_6 s]
  refine Wp_bd2 (copyL (p34M s p p16).2 (k32 s) (by omega) x.nt) ?_
  rintro - h1 ⟨f1, n1⟩
  have s1 := f1.shp s
  have g9 : hI h1 6 9 = iv p := by rw [f1.I (by omega)]; exact e9
  have g10 : hI h1 6 10 = iv (gsU g).1 := by rw [f1.I (by omega)]; exact e10
  unfold Le_keepForUndo_b24
  refine Wp_ck (by rw [k6 s1]) (Wp_ck (by decide) (Wp_lt (Wp_ltr ?_)))
  rw [g9, show hI (wI h1 6 9 ((iv (p : Int) + 1) - (iv (p : Int) + 1) / 16 * 16)) 6 10 = iv (gsU g).1 from by rw [hI_wI, if_neg (by omega)]; exact g10, il1, show (16 : Int32) = iv 16 from iv_lit _, iv_add, iv_add, iv_div (by omega) (by omega) (by omega) (by omega), iv_mul, iv_sub, iv_mn (by omega) (by omega) (by omega) (by omega), Int.tdiv_eq_ediv_of_nonneg (by omega)]
  have f2 : FrS (fun b => b = 6 ∨ (56 ≤ b ∧ b ≤ 71)) h (wI (wI h1 6 9 (iv ((p : Int) + 1 - ((p : Int) + 1) / 16 * 16))) 6 10 (iv (min 16 (((gsU g).1 : Int) + 1)))) := ((f1.up (fun b e => by omega)).aI (Or.inl rfl)).aI (Or.inl rfl)
  refine x.chg f2 (fun b z => by omega) rfl rfl rfl rfl rfl (x.nt.fr f2 (by omega)) (x.1.2.2.2.2.1.cg (f2.2.2.2 22 (by omega)).1 (f2.2.2.2 23 (by omega)).1 (f2.2.2.2 24 (by omega)).1) ?_ (x.1.2.2.2.2.2.2.cg (fun b _ _ => ⟨(f2.2.2.2 b (by omega)).1, (f2.2.2.2 b (by omega)).2.2⟩))
  have old : ∀ q, 56 ≤ q → q ≤ 71 → q ≠ 56 + p → ∀ n, NtL q n h → NtL q n (wI (wI h1 6 9 (iv ((p : Int) + 1 - ((p : Int) + 1) / 16 * 16))) 6 10 (iv (min 16 (((gsU g).1 : Int) + 1)))) := by
    intro q q1 q2 q3 n nn
    refine (nn.fr f1 (by omega)).cg ?_ rfl
    funext j
    rw [hI_wI, if_neg (by omega), hI_wI, if_neg (by omega)]
  have new : NtL (56 + p) (gsN g) (wI (wI h1 6 9 (iv ((p : Int) + 1 - ((p : Int) + 1) / 16 * 16))) 6 10 (iv (min 16 (((gsU g).1 : Int) + 1)))) := by
    refine n1.cg ?_ rfl
    funext j
    rw [hI_wI, if_neg (by omega), hI_wI, if_neg (by omega)]
  show UnL (pushU (gsU g) (gsN g)) _
  unfold pushU
  by_cases z : (gsU g).1 < 16
  · rw [if_pos z]
    refine ⟨(p + 1) % 16, by omega, ?_, ?_, fun i hi => ?_⟩
    · rw [hI_wI, if_neg (by omega), hI_wI, if_pos ⟨rfl, rfl⟩]
      congr 1
      omega
    · rw [hI_wI, if_pos ⟨rfl, rfl⟩]
      show iv _ = iv (((gsU g).1 + 1 : Nat) : Int)
      congr 1
      omega
    · have hi2 : i < (gsU g).1 + 1 := hi
      show NtL (56 + ((p + 1) % 16 + 16 - ((gsU g).1 + 1) + i) % 16) (upN (gsU g).2 (gsU g).1 (gsN g) i) _
      unfold upN
      by_cases y : i = (gsU g).1
      · rw [if_pos y, show 56 + ((p + 1) % 16 + 16 - ((gsU g).1 + 1) + i) % 16 = 56 + p from by omega]
        exact new
      · rw [if_neg y, show 56 + ((p + 1) % 16 + 16 - ((gsU g).1 + 1) + i) % 16 = 56 + (p + 16 - (gsU g).1 + i) % 16 from by omega]
        exact old _ (by omega) (by omega) (by omega) _ (un i (by omega))
  · rw [if_neg z]
    refine ⟨(p + 1) % 16, by omega, ?_, ?_, fun i hi => ?_⟩
    · rw [hI_wI, if_neg (by omega), hI_wI, if_pos ⟨rfl, rfl⟩]
      congr 1
      omega
    · rw [hI_wI, if_pos ⟨rfl, rfl⟩]
      show iv _ = iv ((16 : Nat) : Int)
      congr 1
      omega
    · have hi2 : i < 16 := hi
      show NtL (56 + ((p + 1) % 16 + 16 - 16 + i) % 16) (if i < 15 then (gsU g).2 (i + 1) else gsN g) _
      by_cases y : i < 15
      · rw [if_pos y, show 56 + ((p + 1) % 16 + 16 - 16 + i) % 16 = 56 + (p + 16 - (gsU g).1 + (i + 1)) % 16 from by omega]
        exact old _ (by omega) (by omega) (by omega) _ (un (i + 1) (by omega))
      · rw [if_neg y, show 56 + ((p + 1) % 16 + 16 - 16 + i) % 16 = 56 + p from by omega]
        exact new
/-- the night is changed -/
theorem LeI.night {n : Nat → Int} {h2 : PH} (x : LeI c g h) (f : FrS (fun b => b = 32) h h2) (nt : NtL 32 n h2) : LeI c (gsNight g n) h2 ∧ CFr h h2 := x.chg f (fun b z => by omega) rfl rfl rfl rfl rfl nt (x.1.2.2.2.2.1.cg (f.2.2.2 22 (by omega)).1 (f.2.2.2 23 (by omega)).1 (f.2.2.2 24 (by omega)).1) (x.1.2.2.2.2.2.1.cg (f.2.2.2 6 (by omega)).1 (fun b _ _ => ⟨(f.2.2.2 b (by omega)).1, (f.2.2.2 b (by omega)).2.2⟩)) (x.1.2.2.2.2.2.2.cg (fun b _ _ => ⟨(f.2.2.2 b (by omega)).1, (f.2.2.2 b (by omega)).2.2⟩))
abbrev cCome (g : Gs) (z : Int) : Prop := gsN g 0 ≠ gsH g 0 ∧ gsN g 6 = 0 ∧ gsN g 5 = 0 ∧ gsN g 7 ≤ z ∧ z ≤ 3 + gsN g 7
def gCome (g : Gs) (z : Int) : Gs := if cCome g z then gsNight (gsPush g) (comeM (gsC g) (gsN g) z) else g
theorem leComeL {z : Int} (x : LeI c g h) (k : GOK g) (hz : -2147483648 ≤ z ∧ z < 2147483648) : Wp (Le_come N 6 (iv z) h) (fun v h2 => v = decide (cCome g z) ∧ LeI (c + 64) (gCome g z) h2 ∧ CFr h h2) := by
  have s := x.s
  have b := n_b k
  unfold Le_come gCome
  rw [p6_1 s]
  refine Wp_ck (by rw [k6 s]) (Wp_bn (p6_6 s) (Wp_ck (by rw [k32 s]) (Wp_bde (cancL s (k32 s) k.1 x.hs x.nt k.2.2.1 hz) ?_)))
  by_cases o : cCome g z
  · rw [decide_eq_true o, if_pos o]
    refine Wp_ifn (by decide) (Wp_ck (by rw [k6 s]) (Wp_bd2 (keepL x k) ?_))
    rintro - h1 ⟨x1, f1⟩
    have s1 := x1.s
    rw [p6_1 s1]
    refine Wp_ck (by rw [k6 s1]) (Wp_bn (p6_6 s1) (Wp_ck (by rw [k32 s1]) (Wp_bd2 (arriveL s1 (k32 s1) k.1 x1.hs x1.nt k.2.2.1 (show gsN g 0 < gsH g 0 by omega) (show 0 ≤ z - gsN g 7 ∧ z - gsN g 7 ≤ 3 by omega)) ?_)))
    rintro - h2 ⟨f2, n2⟩
    obtain ⟨y, fy⟩ := x1.night f2 n2
    exact Wp_ret ⟨rfl, y.mono (by omega), f1.tr fy⟩
  · rw [decide_eq_false o, if_neg o]
    exact Wp_ifp rfl (Wp_ret ⟨rfl, x.mono (by omega), CFr.rf⟩)
abbrev cGive (g : Gs) (z : Int) : Prop := (0 ≤ z ∧ z ≤ 4) ∧ 0 < gsN g 3 ∧ gsN g 4 = 0
def gGive (g : Gs) (z : Int) : Gs := if cGive g z then gsNight (gsPush g) (handM (gsH g) (gsN g) z) else g
theorem leGiveL {z : Int} (x : LeI c g h) (k : GOK g) (hz : -2147483648 ≤ z ∧ z < 2147483648) : Wp (Le_give N 6 (iv z) h) (fun v h2 => ((cGive g z ∧ v = some (iv (gv (gsH g) (gsN g 0) (gsN g 3) z (gsN g 1) (gsN g 2)))) ∨ (¬ cGive g z ∧ v = none)) ∧ LeI (c + 64) (gGive g z) h2 ∧ CFr h h2) := by
  have s := x.s
  have b := n_b k
  have o3 := k.2.2.1.2.2.2.2.2.2.2.2.2.2.2.1
  unfold Le_give Le_give_b19 gGive
  rw [il0, il4]
  have no : ¬ cGive g z → Wp (some ((none : Option Int32), tw h)) (fun v h2 => ((cGive g z ∧ v = some (iv (gv (gsH g) (gsN g 0) (gsN g 3) z (gsN g 1) (gsN g 2)))) ∨ (¬ cGive g z ∧ v = none)) ∧ LeI (c + 64) (if cGive g z then gsNight (gsPush g) (handM (gsH g) (gsN g) z) else g) h2 ∧ CFr h h2) := fun e => Wp_ret ⟨Or.inr ⟨e, rfl⟩, by rw [if_neg e]; exact (x.thr).1.mono (by omega), (x.thr).2⟩
  refine Wp_if (fun e => ?_) (fun e => ?_)
  · rw [iv_lt (by omega) (by omega) (by omega) (by omega)] at e
    exact no (by omega)
  rw [iv_lt (by omega) (by omega) (by omega) (by omega)] at e
  refine Wp_if (fun e => ?_) (fun e => ?_)
  · rw [iv_lt (by omega) (by omega) (by omega) (by omega)] at e
    exact no (by omega)
  rw [iv_lt (by omega) (by omega) (by omega) (by omega)] at e
  refine Wp_ck (by rw [k6 s]) (Wp_bn (p6_6 s) (Wp_ck (by rw [k32 s]) (Wp_bde (cangL (k32 s) x.nt k.2.2.1) ?_)))
  by_cases o : 0 < gsN g 3 ∧ gsN g 4 = 0
  · have og : cGive g z := ⟨by omega, o⟩
    rw [decide_eq_true o, if_pos og]
    refine Wp_ifn (by decide) (Wp_ck (by rw [k6 s]) (Wp_bd2 (keepL x k) ?_))
    rintro - h1 ⟨x1, f1⟩
    have s1 := x1.s
    rw [p6_1 s1]
    refine Wp_ck (by rw [k6 s1]) (Wp_bn (p6_6 s1) (Wp_ck (by rw [k32 s1]) (Wp_bd2 (handL s1 (k32 s1) k.1 x1.hs x1.nt k.2.2.1 (show gsN g 0 < gsH g 0 by omega) (how := z) (by omega)) ?_)))
    rintro v h2 ⟨rfl, f2, n2⟩
    obtain ⟨y, fy⟩ := x1.night f2 n2
    exact Wp_ret ⟨Or.inl ⟨og, rfl⟩, y.mono (by omega), f1.tr fy⟩
  · rw [decide_eq_false o]
    exact Wp_ifp rfl (no (fun y => o y.2))
def gQuarter (g : Gs) : Gs := if gsN g 0 = gsH g 0 then g else gsNight (gsPush g) (passM (gsH g) (gsN g))
theorem leQuarterL (x : LeI c g h) (k : GOK g) : Wp (Le_quarter N 6 h) (fun v h2 => v = iv (if gsN g 0 = gsH g 0 then -1 else passM (gsH g) (gsN g) 0) ∧ LeI (c + 64) (gQuarter g) h2 ∧ CFr h h2) := by
  have s := x.s
  have b := n_b k
  unfold Le_quarter gQuarter
  rw [im1, p6_1 s]
  refine Wp_ck (by rw [k6 s]) (Wp_bn (p6_6 s) (Wp_ck (by rw [k32 s]) (Wp_bde (overL s (k32 s) k.1 x.hs x.nt k.2.2.1) ?_)))
  by_cases o : gsN g 0 = gsH g 0
  · rw [decide_eq_true o, if_pos o, if_pos o]
    exact Wp_ifn (by decide) (Wp_ret ⟨rfl, x.mono (by omega), CFr.rf⟩)
  · rw [decide_eq_false o, if_neg o, if_neg o]
    refine Wp_ifp rfl (Wp_ck (by rw [k6 s]) (Wp_bd2 (keepL x k) ?_))
    rintro - h1 ⟨x1, f1⟩
    have s1 := x1.s
    rw [p6_1 s1]
    refine Wp_ck (by rw [k6 s1]) (Wp_bn (p6_6 s1) (Wp_ck (by rw [k32 s1]) (Wp_bd2 (passL s1 (k32 s1) k.1 x1.hs x1.nt k.2.2.1 (show gsN g 0 < gsH g 0 by omega)) ?_)))
    rintro - h2 ⟨f2, n2⟩
    obtain ⟨y, fy⟩ := x1.night f2 n2
    have s2 := y.s
    refine Wp_ck (by rw [k6 s2]) (Wp_bn (p6_6 s2) (Wp_ck (by rw [k32 s2]) (Wp_ret ⟨n2.1, y.mono (by omega), f1.tr fy⟩)))
def gOff (g : Gs) : Gs := if opn g then gsNight (gsPush g) (shutM (gsN g)) else g
theorem leOffL (x : LeI c g h) (k : GOK g) : Wp (Le_off N 6 h) (fun v h2 => v = decide (opn g) ∧ LeI (c + 64) (gOff g) h2 ∧ CFr h h2) := by
  have s := x.s
  unfold Le_off gOff
  refine Wp_ck (by rw [k6 s]) (Wp_bde (isOpenL x k) ?_)
  by_cases o : opn g
  · rw [decide_eq_true o, if_pos o]
    refine Wp_ifn (by decide) (Wp_ck (by rw [k6 s]) (Wp_bd2 (keepL x k) ?_))
    rintro - h1 ⟨x1, f1⟩
    have s1 := x1.s
    refine Wp_ck (by rw [k6 s1]) (Wp_bn (p6_6 s1) (Wp_ck (by rw [k32 s1]) (Wp_bd2 (darkenL (H := gsH g) (k32 s1) x1.nt k.2.2.1 o.2) ?_)))
    rintro - h2 ⟨f2, n2⟩
    obtain ⟨y, fy⟩ := x1.night f2 n2
    exact Wp_ret ⟨rfl, y.mono (by omega), f1.tr fy⟩
  · rw [decide_eq_false o, if_neg o]
    exact Wp_ifp rfl (Wp_ret ⟨rfl, x.mono (by omega), CFr.rf⟩)
def gUndo (g : Gs) : Gs := if (gsU g).1 = 0 then g else mkG (gsT g) (gsL g) (gsH g) (gsC g) (gsE g) ((gsU g).2 ((gsU g).1 - 1)) (gsV g) ((gsU g).1 - 1, (gsU g).2) (gsM g)
theorem leUndoL (x : LeI c g h) (k : GOK g) : Wp (Le_undo N 6 h) (fun v h2 => v = decide ((gsU g).1 ≠ 0) ∧ LeI (c + 64) (gUndo g) h2 ∧ CFr h h2) := by
  have s := x.s
  obtain ⟨p, p16, e9, e10, un⟩ := x.1.2.2.2.2.2.1
  have u16 := k.2.2.2.2.1.1
  unfold Le_undo gUndo
  rw [e10, il0]
  refine Wp_ck (by rw [k6 s]) (Wp_if (fun e => ?_) (fun e => ?_))
  · rw [iv_lt (by omega) (by omega) (by omega) (by omega)] at e
    rw [if_neg (show ¬ (gsU g).1 = 0 by omega), decide_eq_true (show (gsU g).1 ≠ 0 by omega)]
    refine Wp_ck (by decide) (Wp_lt (Wp_lt ?_))
    rw [e9, show hI (wI h 6 9 (((iv (p : Int) + 16) - 1) - ((iv (p : Int) + 16) - 1) / 16 * 16)) 6 10 = iv (gsU g).1 from by rw [hI_wI, if_neg (by omega)]; exact e10, il1, show (16 : Int32) = iv 16 from iv_lit _, iv_add, iv_sub, iv_sub, iv_div (by omega) (by omega) (by omega) (by omega), iv_mul, iv_sub, Int.tdiv_eq_ediv_of_nonneg (by omega)]
    have f2 : FrI (fun b => b = 6) h (wI (wI h 6 9 (iv ((p : Int) + 16 - 1 - ((p : Int) + 16 - 1) / 16 * 16))) 6 10 (iv (((gsU g).1 : Int) - 1))) := FrI.rf.w1.w1
    have o9 : hI (wI (wI h 6 9 (iv ((p : Int) + 16 - 1 - ((p : Int) + 16 - 1) / 16 * 16))) 6 10 (iv (((gsU g).1 : Int) - 1))) 6 9 = iv (((p + 15) % 16 : Nat) : Int) := by
      rw [hI_wI, if_neg (by omega), hI_wI, if_pos ⟨rfl, rfl⟩]
      congr 1
      omega
    have o10 : hI (wI (wI h 6 9 (iv ((p : Int) + 16 - 1 - ((p : Int) + 16 - 1) / 16 * 16))) 6 10 (iv (((gsU g).1 : Int) - 1))) 6 10 = iv (((gsU g).1 - 1 : Nat) : Int) := by
      rw [hI_wI, if_pos ⟨rfl, rfl⟩]
      congr 1
      omega
    generalize (wI (wI h 6 9 (iv ((p : Int) + 16 - 1 - ((p : Int) + 16 - 1) / 16 * 16))) 6 10 (iv (((gsU g).1 : Int) - 1))) = h2 at f2 o9 o10 ⊢
    have s2 := f2.shp s
    rw [p6_8 s2, o9]
    refine Wp_bde (nightAtL s2 (by omega)) (Wp_bn (p6_6 s2) (Wp_ck (by rw [k32 s2]) ?_))
    have nn : NtL (56 + (p + 15) % 16) ((gsU g).2 ((gsU g).1 - 1)) h2 := by
      have z := un ((gsU g).1 - 1) (by omega)
      rw [show (p + 16 - (gsU g).1 + ((gsU g).1 - 1)) % 16 = (p + 15) % 16 from by omega] at z
      exact z.fr f2.s (by omega)
    refine Wp_bd2 (copyL (k32 s2) (p34M s2 _ (by omega)).2 (by omega) nn) ?_
    rintro - h3 ⟨f3, n3⟩
    have f4 : FrS (fun b => b = 6 ∨ b = 32) h h3 := (f2.s.up (fun b e => Or.inl e)).tr (f3.up (fun b e => Or.inr e))
    have un2 : UnL ((gsU g).1 - 1, (gsU g).2) h3 := by
      refine ⟨(p + 15) % 16, by omega, by rw [f3.I (by omega)]; exact o9, by rw [f3.I (by omega)]; exact o10, fun i hi => ?_⟩
      have hi2 : i < (gsU g).1 - 1 := hi
      show NtL (56 + ((p + 15) % 16 + 16 - ((gsU g).1 - 1) + i) % 16) ((gsU g).2 i) h3
      rw [show 56 + ((p + 15) % 16 + 16 - ((gsU g).1 - 1) + i) % 16 = 56 + (p + 16 - (gsU g).1 + i) % 16 from by omega]
      exact (un i (by omega)).fr f4 (by omega)
    obtain ⟨y, fy⟩ := x.chg (g2 := mkG (gsT g) (gsL g) (gsH g) (gsC g) (gsE g) ((gsU g).2 ((gsU g).1 - 1)) (gsV g) ((gsU g).1 - 1, (gsU g).2) (gsM g)) f4 (fun b z => by omega) rfl rfl rfl rfl rfl n3 (x.1.2.2.2.2.1.cg (f4.2.2.2 22 (by omega)).1 (f4.2.2.2 23 (by omega)).1 (f4.2.2.2 24 (by omega)).1) un2 (x.1.2.2.2.2.2.2.cg (fun b _ _ => ⟨(f4.2.2.2 b (by omega)).1, (f4.2.2.2 b (by omega)).2.2⟩))
    exact Wp_ret ⟨rfl, y.mono (by omega), fy⟩
  · rw [iv_lt (by omega) (by omega) (by omega) (by omega)] at e
    rw [if_pos (show (gsU g).1 = 0 by omega), decide_eq_false (show ¬ (gsU g).1 ≠ 0 by omega)]
    exact Wp_ret ⟨rfl, x.mono (by omega), CFr.rf⟩
end
