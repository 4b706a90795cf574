/-! THE PURE PROOFS, 87: an evening judged: what is so; the class. -/
abbrev actP (H n : Nat → Int) (A B : Int) : Prop := (A = 16 ∧ (n 0 ≠ H 0 ∧ n 6 = 0 ∧ n 5 = 0 ∧ n 7 ≤ B ∧ B ≤ 3 + n 7)) ∨ (A = 17 ∧ 0 < n 3 ∧ n 4 = 0) ∨ (A = 18 ∧ n 0 ≠ H 0) ∨ (A = 19 ∧ n 0 ≠ H 0 ∧ n 6 = 0)
def actN (H C n : Nat → Int) (A B : Int) : Nat → Int := if actP H n A B then (if A = 16 then comeM C n B else if A = 17 then handM H n B else if A = 18 then passM H n else shutM n) else n
theorem actN_ok {H C n : Nat → Int} {A B : Int} (ho : HOK H C) (nk : NOK H n) (hB : 0 ≤ B ∧ B ≤ 4) : NOK H (actN H C n A B) := by
  have n0 := nk.1
  unfold actN
  by_cases c : actP H n A B
  · rw [if_pos c]
    by_cases a : A = 16
    · rw [if_pos a]
      exact comeM_ok ho nk (by omega) (by omega)
    · rw [if_neg a]
      by_cases b : A = 17
      · rw [if_pos b]
        exact handM_ok ho nk hB
      · rw [if_neg b]
        by_cases d : A = 18
        · rw [if_pos d]
          exact passM_ok ho nk (by omega)
        · rw [if_neg d]
          exact shutM_ok nk
  · rw [if_neg c]
    exact nk
theorem actL {N a : Nat} {H C n : Nat → Int} {h : PH} {A B : Int} (s : Shp h) (ka : hK h a = (3, 0)) (ho : HOK H C) (hs : HsL 10 H C h) (nt : NtL a n h) (nk : NOK H n) (hA : 16 ≤ A ∧ A ≤ 19) (hB : 0 ≤ B ∧ B ≤ 4) : Wp (Ni_act N a (some 10) (iv A) (iv B) h) (fun v h2 => v = decide (actP H n A B) ∧ FrS (fun b => b = a) h h2 ∧ NtL a (actN H C n A B) h2) := by
  have n0 := nk.1
  have n3 := nk.2.2.2.2.2.2.2.2.2.2.2.1
  have n6 := nk.2.2.2.2.2.2.1
  have no : ¬ actP H n A B → Wp (some (false, h)) (fun v h2 => v = decide (actP H n A B) ∧ FrS (fun b => b = a) h h2 ∧ NtL a (actN H C n A B) h2) := by
    intro e
    unfold actN
    rw [decide_eq_false e, if_neg e]
    exact Wp_ret ⟨rfl, FrS.rf, nt⟩
  have ye : ∀ {h2 : PH} {n2 : Nat → Int}, actP H n A B → FrS (fun b => b = a) h h2 → NtL a n2 h2 → (if A = 16 then comeM C n B else if A = 17 then handM H n B else if A = 18 then passM H n else shutM n) = n2 → Wp (some (true, h2)) (fun v h2 => v = decide (actP H n A B) ∧ FrS (fun b => b = a) h h2 ∧ NtL a (actN H C n A B) h2) := by
    intro h2 n2 e f x en
    unfold actN
    rw [decide_eq_true e, if_pos e, en]
    exact Wp_ret ⟨rfl, f, x⟩
  unfold Ni_act
  refine Wp_ck (by rw [ka]) (Wp_bde (overL s ka ho hs nt nk) ?_)
  by_cases o : n 0 = H 0
  · rw [decide_eq_true o]
    exact Wp_ifn (by decide) (no (by have := n3 o; omega))
  rw [decide_eq_false o]
  refine Wp_ifp (by decide) ?_
  rw [iv_to (by omega) (by omega), show (16 : Int32) = iv 16 from iv_lit _, show (17 : Int32) = iv 17 from iv_lit _, show (18 : Int32) = iv 18 from iv_lit _]
  refine Wp_if (fun c => ?_) (fun c => ?_)
  · have e19 : A = 19 := by omega
    refine Wp_ck (by rw [ka]) ?_
    rw [nt.2.2.2.2.2.2.2.2.2.2.1]
    by_cases d : n 6 = 0
    · rw [decide_eq_true d]
      refine Wp_ifn (by decide) (Wp_bd2 (darkenL (H := H) ka nt nk d) ?_)
      rintro - h2 ⟨f, x⟩
      exact ye (by omega) f x (by rw [if_neg (by omega), if_neg (by omega), if_neg (by omega)])
    · rw [decide_eq_false d]
      exact Wp_ifp (by decide) (no (by omega))
  refine Wp_if (fun d => ?_) (fun d => ?_)
  · rw [iv_eq (by omega) (by omega) (by omega) (by omega)] at d
    refine Wp_ck (by rw [ka]) (Wp_bde (cancL s ka ho hs nt nk (by omega)) ?_)
    by_cases e : n 0 ≠ H 0 ∧ n 6 = 0 ∧ n 5 = 0 ∧ n 7 ≤ B ∧ B ≤ 3 + n 7
    · rw [decide_eq_true e]
      refine Wp_ifn (by decide) (Wp_ck (by rw [ka]) (Wp_bd2 (arriveL s ka ho hs nt nk (by omega) (by omega)) ?_))
      rintro - h2 ⟨f, x⟩
      exact ye (Or.inl ⟨d, e⟩) f x (if_pos d)
    · rw [decide_eq_false e]
      exact Wp_ifp (by decide) (no (by omega))
  rw [iv_eq (by omega) (by omega) (by omega) (by omega)] at d
  refine Wp_if (fun e => ?_) (fun e => ?_)
  · rw [iv_eq (by omega) (by omega) (by omega) (by omega)] at e
    refine Wp_ck (by rw [ka]) (Wp_bde (cangL ka nt nk) ?_)
    by_cases q : 0 < n 3 ∧ n 4 = 0
    · rw [decide_eq_true q]
      refine Wp_ifn (by decide) (Wp_ck (by rw [ka]) (Wp_bd2 (handL s ka ho hs nt nk (by omega) hB) ?_))
      rintro - h2 ⟨-, f, x⟩
      exact ye (Or.inr (Or.inl ⟨e, q⟩)) f x (by rw [if_neg d, if_pos e])
    · rw [decide_eq_false q]
      exact Wp_ifp (by decide) (no (by omega))
  rw [iv_eq (by omega) (by omega) (by omega) (by omega)] at e
  refine Wp_ifp (by rw [iv_eq (by omega) (by omega) (by omega) (by omega)]; omega) (Wp_ck (by rw [ka]) (Wp_bd2 (passL s ka ho hs nt nk (by omega)) ?_))
  rintro - h2 ⟨f, x⟩
  exact ye (by omega) f x (by rw [if_neg d, if_neg e, if_pos (by omega)])
theorem bgv_b (H : Nat → Int) (mute : Int) (nx : Int → Int → Int → Int) (q here t a : Int) : 0 ≤ bgv H mute nx q here t a ∧ bgv H mute nx q here t a ≤ 4 := bs_b _ 4
def jB (H C n : Nat → Int) (A B oth i : Int) : Int := if A = 17 ∧ (0 < n 3 ∧ n 4 = 0) ∧ oth = -1 ∧ B ≠ bgv H 0 (Vq H C 0 0 (n 0 + 1)) (n 0) (n 3) (n 1) (n 2) then i else oth
def judF (H C : Nat → Int) (v : Ev) : Nat → Nat → (Nat → Int) → Int → Int → Int × Int × Int
  | 0, _, n, bad, oth => (bad, oth, n 11)
  | m + 1, i, n, bad, oth => judF H C v m (i + 1) (actN H C n (v.2.1 i) (v.2.2 i)) (if actP H n (v.2.1 i) (v.2.2 i) then bad else if bad = -1 then i else bad) (jB H C n (v.2.1 i) (v.2.2 i) oth i)
def fJudged (g : Gs) (w : Int) : Int := if w = 0 then (judF (gsH g) (gsC g) (gsV g) (gsV g).1 0 (begM (gsH g)) (-1) (-1)).1 else if w = 1 then (judF (gsH g) (gsC g) (gsV g) (gsV g).1 0 (begM (gsH g)) (-1) (-1)).2.1 else (judF (gsH g) (gsC g) (gsV g) (gsV g).1 0 (begM (gsH g)) (-1) (-1)).2.2
def pick3 (w : Int) (r : Int × Int × Int) : Int := if w = 0 then r.1 else if w = 1 then r.2.1 else r.2.2
section
variable {N c : Nat} {g : Gs} {h : PH}
theorem LeI.only33 {h2 : PH} (x : LeI c g h) (f : FrS (fun b => b = 33) h h2) : LeI c g h2 ∧ CFr h h2 := x.chg f (fun b z => by omega) rfl rfl rfl rfl rfl (x.nt.fr f (by omega)) (x.1.2.2.2.2.1.cg (f.2.2.2 22 (by omega)).1 (f.2.2.2 23 (by omega)).1 (f.2.2.2 24 (by omega)).1) (x.1.2.2.2.2.2.1.cg (f.2.2.2 6 (by omega)).1 (fun b _ _ => ⟨(f.2.2.2 b (by omega)).1, (f.2.2.2 b (by omega)).2.2⟩)) (x.1.2.2.2.2.2.2.cg (fun b _ _ => ⟨(f.2.2.2 b (by omega)).1, (f.2.2.2 b (by omega)).2.2⟩))
theorem bestG1L {q t a here : Int} {n : Nat → Int} (hN : 24000 ≤ N) (x : LeI c g h) (k : GOK g) (n33 : NtL 33 n h) (hq : 0 ≤ q ∧ q < gsH g 0) (ht : 0 ≤ t ∧ t ≤ gsH g 1) (ha : 0 ≤ a ∧ a ≤ gsH g 2) (hh : 0 ≤ here ∧ here ≤ 4) : Wp (Va_bestGive N 36 (iv q) (iv t) (iv a) (iv here) h) (fun v h2 => v = iv (bgv (gsH g) 0 (Vq (gsH g) (gsC g) 0 0 (q + 1)) q here t a) ∧ LeI (c + 1) g h2 ∧ CFr h h2 ∧ NtL 33 n h2) := by
  obtain ⟨hn, d, len, ff, rd, p, r⟩ := x.2
  refine Wp_mono (bestGL (by omega) x.s k.1 x.hs p.1 hq ht ha hh) ?_
  rintro v h2 ⟨rfl, st⟩
  have e := LeI.va0 x.1 hn p r st
  obtain ⟨tb2, len2, ff2, f, -⟩ := st
  have d0 := (p.2.2.2.2.2.2.1 0 (by omega)).1
  have ns : ¬ S3 36 37 (d 0) 33 := by unfold S3; unfold Dyn at d0; omega
  exact ⟨rfl, e.1, e.2, n33.cg (f.2.2.2.2 33 (by omega) ns).1 (f.2.2.2.1 33 (by omega)).2.1⟩
theorem leJudgedL {w : Int} (hN : 24000 ≤ N) (x : LeI c g h) (k : GOK g) (hw : -2147483648 ≤ w ∧ w < 2147483648) : Wp (Le_judged N 6 (iv w) h) (AnsT c g h (0 ≤ w ∧ w ≤ 2) (fJudged g w)) := by
  have s := x.s
  have vk := k.2.2.2.1
  unfold Le_judged Le_judged_b9
  rw [il0, show (2 : Int32) = iv 2 from iv_lit _]
  refine Wp_if (fun e => ?_) (fun e => ?_)
  · rw [iv_lt (by omega) (by omega) (by omega) (by omega)] at e
    exact AnsT.no x (by omega)
  rw [iv_lt (by omega) (by omega) (by omega) (by omega)] at e
  refine Wp_if (fun e2 => ?_) (fun e2 => ?_)
  · rw [iv_le (by omega) (by omega) (by omega) (by omega)] at e2
    have key : ∀ (m i : Nat) (n : Nat → Int) (bad oth : Int) (c1 : Nat) (h1 : PH), i + m = (gsV g).1 → NOK (gsH g) n → (-1 ≤ bad ∧ bad ≤ 60) → (-1 ≤ oth ∧ oth ≤ 60) → c1 + m ≤ c + 60 → LeI c1 g h1 → NtL 33 n h1 → CFr h h1 → ∀ fuel, m < fuel → Wp (Le_judged_b35 N fuel 6 (iv w) (iv bad) (iv (if w = 1 then oth else -1)) (iv i) h1) (AnsT c g h (0 ≤ w ∧ w ≤ 2) (pick3 w (judF (gsH g) (gsC g) (gsV g) m i n bad oth))) := by
      intro m
      induction m with
      | zero =>
        intro i n bad oth c1 h1 ei nk hb ho hc x1 n33 f1 fuel hf
        obtain ⟨fu, rfl⟩ : ∃ e, fuel = e + 1 := ⟨fuel - 1, by omega⟩
        have s1 := x1.s
        have ev := x1.1.2.2.2.2.1.1
        have v60 := vk.1
        rw [Le_judged_b35, im1, il0, il1]
        refine Wp_ck (by rw [k6 s1]) (Wp_bn (p6_3 s1) (Wp_ck (by rw [k22 s1]) ?_))
        rw [ev]
        refine Wp_ifp (by rw [iv_le (by omega) (by omega) (by omega) (by omega)]; omega) ?_
        unfold judF pick3
        refine Wp_if (fun a => ?_) (fun a => ?_)
        · rw [iv_eq (by omega) (by omega) (by omega) (by omega)] at a
          rw [if_pos a]
          exact Wp_ret ⟨Or.inl ⟨⟨by omega, by omega⟩, rfl⟩, x1.mono (by omega), f1⟩
        rw [iv_eq (by omega) (by omega) (by omega) (by omega)] at a
        rw [if_neg a]
        refine Wp_if (fun b => ?_) (fun b => ?_)
        · rw [iv_eq (by omega) (by omega) (by omega) (by omega)] at b
          rw [if_pos b, if_pos b]
          exact Wp_ret ⟨Or.inl ⟨⟨by omega, by omega⟩, rfl⟩, x1.mono (by omega), f1⟩
        · rw [iv_eq (by omega) (by omega) (by omega) (by omega)] at b
          rw [if_neg b]
          refine Wp_bn (p6_7 s1) (Wp_ck (by rw [k33 s1]) ?_)
          rw [n33.2.2.2.2.2.1]
          exact Wp_ret ⟨Or.inl ⟨⟨by omega, by omega⟩, rfl⟩, x1.mono (by omega), f1⟩
      | succ m ih =>
        intro i n bad oth c1 h1 ei nk hb ho hc x1 n33 f1 fuel hf
        obtain ⟨fu, rfl⟩ : ∃ e, fuel = e + 1 := ⟨fuel - 1, by omega⟩
        have s1 := x1.s
        have ev := x1.1.2.2.2.2.1
        have vi := vk.2 i (by omega)
        have v60 := vk.1
        have tail : ∀ (c2 : Nat) (h2 : PH) (o3 : Int), o3 = (if w = 1 then jB (gsH g) (gsC g) n ((gsV g).2.1 i) ((gsV g).2.2 i) oth i else -1) → c2 ≤ c1 + 1 → LeI c2 g h2 → NtL 33 n h2 → CFr h h2 → Wp (Le_judged_b145 N (Le_judged_b35 N fu) 6 (iv w) (iv bad) (iv o3) (iv i) (iv ((gsV g).2.1 i)) (iv ((gsV g).2.2 i)) h2) (AnsT c g h (0 ≤ w ∧ w ≤ 2) (pick3 w (judF (gsH g) (gsC g) (gsV g) (m + 1) i n bad oth))) := by
          intro c2 h2 o3 eo hc2 x2 m33 f2
          have s2 := x2.s
          unfold Le_judged_b145 Le_judged_b171
          rw [im1, il1, iv_add]
          refine Wp_ck (by rw [k6 s2]) (Wp_bn (p6_7 s2) (Wp_ck (by rw [k33 s2]) ?_))
          rw [p6_1 s2]
          refine Wp_bd2 (actL s2 (k33 s2) k.1 x2.hs m33 nk vi.1 vi.2) ?_
          rintro v h3 ⟨rfl, f3, n3⟩
          have y := x2.only33 f3
          have jb : -1 ≤ jB (gsH g) (gsC g) n ((gsV g).2.1 i) ((gsV g).2.2 i) oth i ∧ jB (gsH g) (gsC g) n ((gsV g).2.1 i) ((gsV g).2.2 i) oth i ≤ 60 := by
            unfold jB
            split <;> omega
          have go := fun (b2 : Int) (hb2 : -1 ≤ b2 ∧ b2 ≤ 60) => ih (i + 1) (actN (gsH g) (gsC g) n ((gsV g).2.1 i) ((gsV g).2.2 i)) b2 (jB (gsH g) (gsC g) n ((gsV g).2.1 i) ((gsV g).2.2 i) oth i) c2 h3 (by omega) (actN_ok k.1 nk vi.2) hb2 jb (by omega) y.1 n3 (f2.tr y.2) fu (by omega)
          rw [judF, eo, show (i : Int) + 1 = ((i + 1 : Nat) : Int) from by omega]
          by_cases a : actP (gsH g) n ((gsV g).2.1 i) ((gsV g).2.2 i)
          · rw [decide_eq_true a, if_pos a]
            exact Wp_ifn (by decide) (go bad hb)
          · rw [decide_eq_false a, if_neg a]
            refine Wp_ifp (by decide) (Wp_if (fun b => ?_) (fun b => ?_))
            · rw [iv_eq (by omega) (by omega) (by omega) (by omega)] at b
              rw [if_pos b]
              exact go i (by omega)
            · rw [iv_eq (by omega) (by omega) (by omega) (by omega)] at b
              rw [if_neg b]
              exact go bad hb
        rw [Le_judged_b35, im1, il0, il1, show (17 : Int32) = iv 17 from iv_lit _]
        refine Wp_ck (by rw [k6 s1]) (Wp_bn (p6_3 s1) (Wp_ck (by rw [k22 s1]) ?_))
        rw [ev.1, p22_0 s1]
        refine Wp_ifn (by rw [iv_le (by omega) (by omega) (by omega) (by omega)]; omega) (Wp_bde (at_in (k23 s1) (by omega) (by omega) (by omega)) (Wp_ck (by rw [k6 s1]) (Wp_bn (p6_3 s1) (Wp_ck (by rw [k22 s1]) ?_))))
        rw [p22_1 s1]
        refine Wp_bde (at_in (k24 s1) (by omega) (by omega) (by omega)) ?_
        rw [show ((i : Int)).toNat = i from by omega, (ev.2 i (by omega)).1, (ev.2 i (by omega)).2]
        refine Wp_if (fun a => ?_) (fun a => ?_)
        · rw [iv_eq (by omega) (by omega) (by omega) (by omega)] at a
          rw [if_pos a]
          refine Wp_if (fun b => ?_) (fun b => ?_)
          · rw [iv_eq (by omega) (by omega) (by omega) (by omega)] at b
            refine Wp_if (fun d => ?_) (fun d => ?_)
            · rw [iv_eq (by omega) (by omega) (by omega) (by omega)] at d
              refine Wp_ck (by rw [k6 s1]) (Wp_bn (p6_7 s1) (Wp_ck (by rw [k33 s1]) (Wp_bde (cangL (k33 s1) n33 nk) ?_)))
              by_cases q : 0 < n 3 ∧ n 4 = 0
              · rw [decide_eq_true q]
                have n0 := nk.1
                have n12 := nk.2.2.2.2.2.2.2.2.2.2.2.1
                refine Wp_ifn (by decide) (Wp_ck (by rw [k6 s1]) (Wp_bn (p6_7 s1) (Wp_ck (by rw [k33 s1]) (Wp_bn (p6_12 s1) (Wp_ck (by rw [k36 s1]) ?_)))))
                rw [n33.1, n33.2.1, n33.2.2.1, n33.2.2.2.1]
                refine Wp_bd2 (bestG1L hN x1 k n33 (show 0 ≤ n 0 ∧ n 0 < gsH g 0 by omega) nk.2.1 nk.2.2.1 nk.2.2.2.1) ?_
                rintro v h2 ⟨rfl, y, f, m33⟩
                have gb := bgv_b (gsH g) 0 (Vq (gsH g) (gsC g) 0 0 (n 0 + 1)) (n 0) (n 3) (n 1) (n 2)
                refine Wp_if (fun p => ?_) (fun p => ?_)
                · rw [iv_eq (by omega) (by omega) (by omega) (by omega)] at p
                  exact tail (c1 + 1) h2 oth (by rw [if_pos a]; unfold jB; rw [if_neg (by omega)]) (by omega) y m33 (f1.tr f)
                · rw [iv_eq (by omega) (by omega) (by omega) (by omega)] at p
                  exact tail (c1 + 1) h2 i (by rw [if_pos a]; unfold jB; rw [if_pos ⟨d, q, b, p⟩]) (by omega) y m33 (f1.tr f)
              · rw [decide_eq_false q]
                exact Wp_ifp (by decide) (tail c1 h1 oth (by rw [if_pos a]; unfold jB; rw [if_neg (fun y => q y.2.1)]) (by omega) x1 n33 f1)
            · rw [iv_eq (by omega) (by omega) (by omega) (by omega)] at d
              exact tail c1 h1 oth (by rw [if_pos a]; unfold jB; rw [if_neg (fun y => d y.1)]) (by omega) x1 n33 f1
          · rw [iv_eq (by omega) (by omega) (by omega) (by omega)] at b
            exact tail c1 h1 oth (by rw [if_pos a]; unfold jB; rw [if_neg (fun y => b y.2.2.1)]) (by omega) x1 n33 f1
        · rw [iv_eq (by omega) (by omega) (by omega) (by omega)] at a
          rw [if_neg a]
          exact tail c1 h1 (-1) (by rw [if_neg a]) (by omega) x1 n33 f1
    refine Wp_ck (by rw [k6 s]) (Wp_bn (p6_7 s) (Wp_ck (by rw [k33 s]) ?_))
    rw [p6_1 s]
    refine Wp_bd2 (beginL s (k33 s) x.hs) ?_
    rintro - h1 ⟨f, n33⟩
    have y := x.only33 f
    have v60 := vk.1
    have r := key (gsV g).1 0 (begM (gsH g)) (-1) (-1) c h1 (by omega) (begM_ok k.1) (by omega) (by omega) (by omega) y.1 n33 y.2 N (by omega)
    rw [im1]
    rw [show (if w = 1 then (-1 : Int) else -1) = -1 from by split <;> rfl] at r
    exact r
  · rw [iv_le (by omega) (by omega) (by omega) (by omega)] at e2
    exact AnsT.no x (by omega)
end
