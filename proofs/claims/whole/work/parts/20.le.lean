def Le_forgetPast (N : Nat) (a0 : Nat) (h : PH) : Option (Unit × PH) :=
  ck ((hK h a0).1 = 10) <|
  lt0 (wI h a0 9 0) fun h2 =>
  lt0 (wI h2 a0 10 0) fun h4 =>
  some ((), h4)
set_option maxRecDepth 20000 in
theorem Le_forgetPast_ok (g : GT) (N : Nat) (a0 : Nat) (h : PH) (v : Unit) (h' : PH) (hE : Le_forgetPast N a0 h = some (v, h')) (D : Nat) (hD : 0 ≤ D) : Calls g D pLe_forgetPast [va_rf (some a0)] h (oV v) h' := by
  refine Calls.of cok_Le_forgetPast ht_Le_forgetPast pl_Le_forgetPast (fun ad => by rw [lg_len, sL_cat]; simp only [List.map_cons, List.map_nil, rf_cat, cat_i, cat_l, List.sum_cons, List.sum_nil]; decide) ?_
  rw [show lv_args 0 [va_rf (some a0)] = [(0, va_rf (some a0))] from (by simp only [lv_args, rf_cat, cat_i, cat_l]; try rfl)]
  unfold Le_forgetPast at hE
  refine r_aload_n (t := some a0) 0 rfl rfl rfl ?_
  refine r_iconst 0 rfl ci_0 ?_
  obtain ⟨hk1, hE⟩ := ckE hE
  obtain ⟨h2, he3, hE⟩ := ltE hE
  refine r_putI rfl (fl_10_59 rfl) finF rfl hk1 he3 ?_
  refine r_aload_n (t := some a0) 0 rfl rfl rfl ?_
  refine r_iconst 0 rfl ci_0 ?_
  obtain ⟨h4, he5, hE⟩ := ltE hE
  refine r_putI rfl (fl_10_63 rfl) finF rfl (kwI he3 hk1) he5 ?_
  cases hE
  exact r_ret rfl (Or.inr (Or.inr (Or.inr ⟨rfl, rfl, rfl, rfl⟩)))
def Le_moveIn_b64 (N : Nat) (self_36 : Nat → Int32 → PH → Option (Unit × PH)) (a0 : Nat) (x1 : Int32) (h : PH) : Option (Unit × PH) :=
  self_36 a0 (x1 + 1) h
set_option maxRecDepth 20000 in
theorem Le_moveIn_b64_ok (g : GT) (N : Nat) (D : Nat) (hD : 2 ≤ D) (self_36 : Nat → Int32 → PH → Option (Unit × PH)) (hself_36 : ∀ (a0 : Nat) (x1 : Int32) (h : PH) (v : Unit) (h' : PH), self_36 a0 x1 h = some (v, h') → Run g pLe_moveIn D 36 [(0, va_rf (some a0)), (1, .int x1)] [] h (rV v) h') : ∀ (a0 : Nat) (x1 : Int32) (h : PH) (v : Unit) (h' : PH), Le_moveIn_b64 N self_36 a0 x1 h = some (v, h') → Run g pLe_moveIn D 64 [(0, va_rf (some a0)), (1, .int x1)] [] h (rV v) h' := by
  obtain ⟨D2, rfl⟩ : ∃ d, D = d + 1 := ⟨D - 1, by omega⟩
  intro a0 x1 h v h' hE
  unfold Le_moveIn_b64 at hE
  refine r_iinc _ rfl rfl (congrArg _ ci_1) (by decide) ?_
  refine r_goto (tgt := 36) rfl (by decide) ?_
  first | exact r_sb (hself_36 _ _ _ _ _ hE) ⟨rfl, rfl, trivial⟩ | exact r_sb (hself_36 _ _ _ _ _ hE) (by simp only [su1, su2, dr1_rf, dr1_in, dr1_lo, dr2_rf, dr2_in, dr2_lo]; exact ⟨rfl, rfl, trivial⟩)
def Le_moveIn_b36 (N : Nat) : Nat → Nat → Int32 → PH → Option (Unit × PH)
  | 0 => fun _ _ _ => none
  | n + 1 => fun a0 x1 h =>
    ck ((hK h a0).1 = 10) <|
    ((hR h a0 11)).bind fun a_2 =>
    ck ((hK h a_2).1 = 25) <|
    if (Int32.ofNat (hK h a_2).2) ≤ x1 then
      ((hR h a0 12)).bind fun a_6 =>
      ck ((hK h a_6).1 = 9) <|
      bd (Va_begin N a_6 h) fun v9 h10 =>
      ck ((hK h10 a0).1 = 10) <|
      ((hR h10 a0 13)).bind fun a_13 =>
      ck ((hK h10 a_13).1 = 9) <|
      bd (Va_begin N a_13 h10) fun v16 h17 =>
      ck ((hK h17 a0).1 = 10) <|
      ((hR h17 a0 14)).bind fun a_20 =>
      ck ((hK h17 a_20).1 = 9) <|
      bd (Va_begin N a_20 h17) fun v23 h24 =>
      some ((), h24)
    else
      ck (inb x1 (hK h a_2).2 = true) <|
      if (hR h a_2 (ix x1)) = none then
        Le_moveIn_b64 N (Le_moveIn_b36 N n)  a0 x1 h
      else
        ck (inb x1 (hK h a_2).2 = true) <|
        ((hR h a_2 (ix x1))).bind fun a_29 =>
        ck ((hK h a_29).1 = 1) <|
        lt0 (wZ h a_29 2 (tb 0)) fun h32 =>
        Le_moveIn_b64 N (Le_moveIn_b36 N n)  a0 x1 h32
set_option maxRecDepth 20000 in
theorem Le_moveIn_b36_ok (g : GT) (N : Nat) (D : Nat) (hD : 2 ≤ D) : ∀ (n : Nat) (a0 : Nat) (x1 : Int32) (h : PH) (v : Unit) (h' : PH), Le_moveIn_b36 N n a0 x1 h = some (v, h') → Run g pLe_moveIn D 36 [(0, va_rf (some a0)), (1, .int x1)] [] h (rV v) h' := by
  obtain ⟨D2, rfl⟩ : ∃ d, D = d + 1 := ⟨D - 1, by omega⟩
  intro n
  induction n with
  | zero => exact fun _ _ _ _ _ hE => nomatch (show none = some _ from hE)
  | succ n ih =>
    intro a0 x1 h v h' hE
    unfold Le_moveIn_b36 at hE
    refine r_iload_n 1 rfl rfl rfl ?_
    refine r_aload_n (t := some a0) 0 rfl rfl rfl ?_
    obtain ⟨hk1, hE⟩ := ckE hE
    refine r_getR rfl (fl_10_68 rfl) (Or.inr ⟨_, rfl⟩) rfl hk1 ?_
    obtain ⟨a_2, ha3, hE⟩ := bnE hE
    obtain ⟨hk4, hE⟩ := ckE hE
    refine r_alen (kd := 25) rfl (by decide) (by decide) ha3 hk4 ?_
    refine r_icmp_ge (tgt := 70) rfl (by decide) (fun hc5 => ?_) (fun hc5 => ?_)
    · have hE := ifP hc5 hE
      refine r_aload_n (t := some a0) 0 rfl rfl rfl ?_
      refine r_getR rfl (fl_10_77 rfl) (Or.inl ⟨_, rfl⟩) rfl hk1 ?_
      obtain ⟨a_6, ha7, hE⟩ := bnE hE
      obtain ⟨hk8, hE⟩ := ckE hE
      obtain ⟨v9, h10, hq11, hE⟩ := bdE hE
      refine r_callV0 (rest := []) (hc := (Va_begin_ok g N _ _ _ _ hq11 D2 (by omega))) rfl pm_Va_begin lw_10_328 im_Va_begin sl_Va_begin ha7 rfl rfl (rcOK hk8 rfl) (by decide) ?_
      refine r_aload_n (t := some a0) 0 rfl rfl rfl ?_
      obtain ⟨hk12, hE⟩ := ckE hE
      refine r_getR rfl (fl_10_81 rfl) (Or.inl ⟨_, rfl⟩) rfl hk12 ?_
      obtain ⟨a_13, ha14, hE⟩ := bnE hE
      obtain ⟨hk15, hE⟩ := ckE hE
      obtain ⟨v16, h17, hq18, hE⟩ := bdE hE
      refine r_callV0 (rest := []) (hc := (Va_begin_ok g N _ _ _ _ hq18 D2 (by omega))) rfl pm_Va_begin lw_10_328 im_Va_begin sl_Va_begin ha14 rfl rfl (rcOK hk15 rfl) (by decide) ?_
      refine r_aload_n (t := some a0) 0 rfl rfl rfl ?_
      obtain ⟨hk19, hE⟩ := ckE hE
      refine r_getR rfl (fl_10_84 rfl) (Or.inl ⟨_, rfl⟩) rfl hk19 ?_
      obtain ⟨a_20, ha21, hE⟩ := bnE hE
      obtain ⟨hk22, hE⟩ := ckE hE
      obtain ⟨v23, h24, hq25, hE⟩ := bdE hE
      refine r_callV0 (rest := []) (hc := (Va_begin_ok g N _ _ _ _ hq25 D2 (by omega))) rfl pm_Va_begin lw_10_328 im_Va_begin sl_Va_begin ha21 rfl rfl (rcOK hk22 rfl) (by decide) ?_
      cases hE
      exact r_ret rfl (Or.inr (Or.inr (Or.inr ⟨rfl, rfl, rfl, rfl⟩)))
    · have hE := ifN hc5 hE
      refine r_aload_n (t := some a0) 0 rfl rfl rfl ?_
      refine r_getR rfl (fl_10_68 rfl) (Or.inr ⟨_, rfl⟩) rfl hk1 ?_
      refine r_iload_n 1 rfl rfl rfl ?_
      obtain ⟨hi26, hE⟩ := ckE hE
      refine r_aald rfl (Or.inr rfl) ha3 hk4 hi26 ?_
      refine r_ifnull (tgt := 64) rfl (by decide) (fun hc27 => ?_) (fun hc27 => ?_)
      · have hE := ifP hc27 hE
        first | exact r_sb (Le_moveIn_b64_ok g N _ hD _ ih  _ _ _ _ _ hE) ⟨rfl, rfl, trivial⟩ | exact r_sb (Le_moveIn_b64_ok g N _ hD _ ih  _ _ _ _ _ hE) (by simp only [su1, su2, dr1_rf, dr1_in, dr1_lo, dr2_rf, dr2_in, dr2_lo]; exact ⟨rfl, rfl, trivial⟩)
      · have hE := ifN hc27 hE
        refine r_aload_n (t := some a0) 0 rfl rfl rfl ?_
        refine r_getR rfl (fl_10_68 rfl) (Or.inr ⟨_, rfl⟩) rfl hk1 ?_
        refine r_iload_n 1 rfl rfl rfl ?_
        obtain ⟨hi28, hE⟩ := ckE hE
        refine r_aald rfl (Or.inr rfl) ha3 hk4 hi28 ?_
        refine r_iconst 0 rfl ci_0 ?_
        obtain ⟨a_29, ha30, hE⟩ := bnE hE
        obtain ⟨hk31, hE⟩ := ckE hE
        obtain ⟨h32, he33, hE⟩ := ltE hE
        refine r_putZ rfl (fl_10_307 rfl) finF ha30 hk31 rfl he33 ?_
        first | exact r_sb (Le_moveIn_b64_ok g N _ hD _ ih  _ _ _ _ _ hE) ⟨rfl, rfl, trivial⟩ | exact r_sb (Le_moveIn_b64_ok g N _ hD _ ih  _ _ _ _ _ hE) (by simp only [su1, su2, dr1_rf, dr1_in, dr1_lo, dr2_rf, dr2_in, dr2_lo]; exact ⟨rfl, rfl, trivial⟩)
def Le_moveIn (N : Nat) (a0 : Nat) (h : PH) : Option (Unit × PH) :=
  ck ((hK h a0).1 = 10) <|
  ((hR h a0 1)).bind fun a_2 =>
  ck ((hK h a_2).1 = 0) <|
  bd (Ho_copy N a_2 (hR h a0 2) h) fun v5 h6 =>
  ck ((hK h6 a0).1 = 10) <|
  ((hR h6 a0 6)).bind fun a_9 =>
  ck ((hK h6 a_9).1 = 3) <|
  bd (Ni_begin N a_9 (hR h6 a0 1) h6) fun v12 h13 =>
  ck ((hK h13 a0).1 = 10) <|
  ((hR h13 a0 3)).bind fun a_16 =>
  ck ((hK h13 a_16).1 = 6) <|
  lt0 (wI h13 a_16 2 0) fun h19 =>
  bd (Le_forgetPast N a0 h19) fun v21 h22 =>
  Le_moveIn_b36 N N a0 0 h22
set_option maxRecDepth 20000 in
theorem Le_moveIn_ok (g : GT) (N : Nat) (a0 : Nat) (h : PH) (v : Unit) (h' : PH) (hE : Le_moveIn N a0 h = some (v, h')) (D : Nat) (hD : 2 ≤ D) : Calls g D pLe_moveIn [va_rf (some a0)] h (oV v) h' := by
  refine Calls.of cok_Le_moveIn ht_Le_moveIn pl_Le_moveIn (fun ad => by rw [lg_len, sL_cat]; simp only [List.map_cons, List.map_nil, rf_cat, cat_i, cat_l, List.sum_cons, List.sum_nil]; decide) ?_
  rw [show lv_args 0 [va_rf (some a0)] = [(0, va_rf (some a0))] from (by simp only [lv_args, rf_cat, cat_i, cat_l]; try rfl)]
  obtain ⟨D2, rfl⟩ : ∃ d, D = d + 1 := ⟨D - 1, by omega⟩
  unfold Le_moveIn at hE
  refine r_aload_n (t := some a0) 0 rfl rfl rfl ?_
  obtain ⟨hk1, hE⟩ := ckE hE
  refine r_getR rfl (fl_10_19 rfl) (Or.inl ⟨_, rfl⟩) rfl hk1 ?_
  refine r_aload_n (t := some a0) 0 rfl rfl rfl ?_
  refine r_getR rfl (fl_10_23 rfl) (Or.inl ⟨_, rfl⟩) rfl hk1 ?_
  obtain ⟨a_2, ha3, hE⟩ := bnE hE
  obtain ⟨hk4, hE⟩ := ckE hE
  obtain ⟨v5, h6, hq7, hE⟩ := bdE hE
  refine r_callV0 (rest := []) (hc := (Ho_copy_ok g N _ _ _ _ _ hq7 D2 (by omega))) rfl pm_Ho_copy lw_10_326 im_Ho_copy sl_Ho_copy ha3 rfl rfl (rcOK hk4 rfl) (by decide) ?_
  refine r_aload_n (t := some a0) 0 rfl rfl rfl ?_
  obtain ⟨hk8, hE⟩ := ckE hE
  refine r_getR rfl (fl_10_48 rfl) (Or.inl ⟨_, rfl⟩) rfl hk8 ?_
  refine r_aload_n (t := some a0) 0 rfl rfl rfl ?_
  refine r_getR rfl (fl_10_19 rfl) (Or.inl ⟨_, rfl⟩) rfl hk8 ?_
  obtain ⟨a_9, ha10, hE⟩ := bnE hE
  obtain ⟨hk11, hE⟩ := ckE hE
  obtain ⟨v12, h13, hq14, hE⟩ := bdE hE
  refine r_callV0 (rest := []) (hc := (Ni_begin_ok g N _ _ _ _ _ hq14 D2 (by omega))) rfl pm_Ni_begin lw_10_186 im_Ni_begin sl_Ni_begin ha10 rfl rfl (rcOK hk11 rfl) (by decide) ?_
  refine r_aload_n (t := some a0) 0 rfl rfl rfl ?_
  obtain ⟨hk15, hE⟩ := ckE hE
  refine r_getR rfl (fl_10_29 rfl) (Or.inl ⟨_, rfl⟩) rfl hk15 ?_
  refine r_iconst 0 rfl ci_0 ?_
  obtain ⟨a_16, ha17, hE⟩ := bnE hE
  obtain ⟨hk18, hE⟩ := ckE hE
  obtain ⟨h19, he20, hE⟩ := ltE hE
  refine r_putI rfl (fl_10_189 rfl) finF ha17 hk18 he20 ?_
  refine r_aload_n (t := some a0) 0 rfl rfl rfl ?_
  obtain ⟨v21, h22, hq23, hE⟩ := bdE hE
  refine r_callV0 (rest := []) (hc := (Le_forgetPast_ok g N _ _ _ _ hq23 D2 (by omega))) rfl pm_Le_forgetPast lw_10_314 im_Le_forgetPast sl_Le_forgetPast rfl rfl rfl (rcOK (kwI he20 hk15) rfl) (by decide) ?_
  refine r_iconst 0 rfl ci_0 ?_
  refine r_istore_n 1 rfl rfl (by decide) ?_
  first | exact r_sb (Le_moveIn_b36_ok g N _ hD  N _ _ _ _ _ hE) ⟨rfl, rfl, trivial⟩ | exact r_sb (Le_moveIn_b36_ok g N _ hD  N _ _ _ _ _ hE) (by simp only [su1, su2, dr1_rf, dr1_in, dr1_lo, dr2_rf, dr2_in, dr2_lo]; exact ⟨rfl, rfl, trivial⟩)
def Le_init_b263 (g : GT) (N : Nat) : Nat → Nat → Int32 → PH → Option (Unit × PH)
  | 0 => fun _ _ _ => none
  | n + 1 => fun a0 x1 h =>
    ck ((hK h a0).1 = 10) <|
    ((hR h a0 11)).bind fun a_2 =>
    ck ((hK h a_2).1 = 25) <|
    if (Int32.ofNat (hK h a_2).2) ≤ x1 then
      bd (Le_moveIn N a0 h) fun v6 h7 =>
      some ((), h7)
    else
      lt0 (nw h (1, 0) 3) fun h9 =>
      ck ((hK h9 (hN h)).1 = 1) <|
      bd (Ma_init N (hN h) h9) fun v12 h13 =>
      ck ((hK h13 a_2).1 = 25) <|
      ck (inb x1 (hK h13 a_2).2 = true) <|
      ck ((hK h13 (hN h)).1 = 1) <|
      lt0 (wR h13 a_2 (ix x1) (some (hN h))) fun h18 =>
      (Le_init_b263 g N n) a0 (x1 + 1) h18
set_option maxRecDepth 20000 in
theorem Le_init_b263_ok (g : GT) (N : Nat) (D : Nat) (hD : 5 ≤ D) : ∀ (n : Nat) (a0 : Nat) (x1 : Int32) (h : PH) (v : Unit) (h' : PH), Le_init_b263 g N n a0 x1 h = some (v, h') → Run g pLe_init D 263 [(0, va_rf (some a0)), (1, .int x1)] [] h (rV v) h' := by
  obtain ⟨D2, rfl⟩ : ∃ d, D = d + 1 := ⟨D - 1, by omega⟩
  intro n
  induction n with
  | zero => exact fun _ _ _ _ _ hE => nomatch (show none = some _ from hE)
  | succ n ih =>
    intro a0 x1 h v h' hE
    unfold Le_init_b263 at hE
    refine r_iload_n 1 rfl rfl rfl ?_
    refine r_aload_n (t := some a0) 0 rfl rfl rfl ?_
    obtain ⟨hk1, hE⟩ := ckE hE
    refine r_getR rfl (fl_10_68 rfl) (Or.inr ⟨_, rfl⟩) rfl hk1 ?_
    obtain ⟨a_2, ha3, hE⟩ := bnE hE
    obtain ⟨hk4, hE⟩ := ckE hE
    refine r_alen (kd := 25) rfl (by decide) (by decide) ha3 hk4 ?_
    refine r_icmp_ge (tgt := 291) rfl (by decide) (fun hc5 => ?_) (fun hc5 => ?_)
    · have hE := ifP hc5 hE
      refine r_aload_n (t := some a0) 0 rfl rfl rfl ?_
      obtain ⟨v6, h7, hq8, hE⟩ := bdE hE
      refine r_callV0 (rest := []) (hc := (Le_moveIn_ok g N _ _ _ _ hq8 D2 (by omega))) rfl pm_Le_moveIn lw_10_113 im_Le_moveIn sl_Le_moveIn rfl rfl rfl (rcOK hk1 rfl) (by decide) ?_
      cases hE
      exact r_ret rfl (Or.inr (Or.inr (Or.inr ⟨rfl, rfl, rfl, rfl⟩)))
    · have hE := ifN hc5 hE
      refine r_aload_n (t := some a0) 0 rfl rfl rfl ?_
      refine r_getR rfl (fl_10_68 rfl) (Or.inr ⟨_, rfl⟩) rfl hk1 ?_
      refine r_iload_n 1 rfl rfl rfl ?_
      obtain ⟨h9, he10, hE⟩ := ltE hE
      refine r_new (ci := 1) rfl rfl cw_10_66 ins_1 ini_1 he10 ?_
      refine r_dup rfl (rf_cat _) ?_
      obtain ⟨hk11, hE⟩ := ckE hE
      obtain ⟨v12, h13, hq14, hE⟩ := bdE hE
      refine r_callIN0 (rest := [va_rf (some (hN h)), .int x1, va_rf (hR h a0 11)]) (hc := (Ma_init_ok g N _ _ _ _ hq14 D2 (by omega))) rfl pm_Ma_init rfl rfl lw_10_112 im_Ma_init rfl rfl rfl (by simp only [List.map_cons, List.map_nil, rf_cat, cat_i, cat_l, List.sum_cons, List.sum_nil]; decide) ?_
      obtain ⟨hk15, hE⟩ := ckE hE
      obtain ⟨hi16, hE⟩ := ckE hE
      obtain ⟨hk17, hE⟩ := ckE hE
      obtain ⟨h18, he19, hE⟩ := ltE hE
      refine r_aast rfl (Or.inr ⟨rfl, rfl⟩) ha3 hk15 hi16 hk17 he19 ?_
      refine r_iinc _ rfl rfl (congrArg _ ci_1) (by decide) ?_
      refine r_goto (tgt := 263) rfl (by decide) ?_
      first | exact r_sb (ih _ _ _ _ _ hE) ⟨rfl, rfl, trivial⟩ | exact r_sb (ih _ _ _ _ _ hE) (by simp only [su1, su2, dr1_rf, dr1_in, dr1_lo, dr2_rf, dr2_in, dr2_lo]; exact ⟨rfl, rfl, trivial⟩)
def Le_init_b233 (g : GT) (N : Nat) : Nat → Nat → Int32 → PH → Option (Unit × PH)
  | 0 => fun _ _ _ => none
  | n + 1 => fun a0 x1 h =>
    ck ((hK h a0).1 = 10) <|
    ((hR h a0 8)).bind fun a_2 =>
    ck ((hK h a_2).1 = 24) <|
    if (Int32.ofNat (hK h a_2).2) ≤ x1 then
      Le_init_b263 g N N a0 0 h
    else
      lt0 (nw h (3, 0) 14) fun h6 =>
      ck ((hK h6 (hN h)).1 = 3) <|
      bd (Ni_init N (hN h) h6) fun v9 h10 =>
      ck ((hK h10 a_2).1 = 24) <|
      ck (inb x1 (hK h10 a_2).2 = true) <|
      ck ((hK h10 (hN h)).1 = 3) <|
      lt0 (wR h10 a_2 (ix x1) (some (hN h))) fun h15 =>
      (Le_init_b233 g N n) a0 (x1 + 1) h15
set_option maxRecDepth 20000 in
theorem Le_init_b233_ok (g : GT) (N : Nat) (D : Nat) (hD : 5 ≤ D) : ∀ (n : Nat) (a0 : Nat) (x1 : Int32) (h : PH) (v : Unit) (h' : PH), Le_init_b233 g N n a0 x1 h = some (v, h') → Run g pLe_init D 233 [(0, va_rf (some a0)), (1, .int x1)] [] h (rV v) h' := by
  obtain ⟨D2, rfl⟩ : ∃ d, D = d + 1 := ⟨D - 1, by omega⟩
  intro n
  induction n with
  | zero => exact fun _ _ _ _ _ hE => nomatch (show none = some _ from hE)
  | succ n ih =>
    intro a0 x1 h v h' hE
    unfold Le_init_b233 at hE
    refine r_iload_n 1 rfl rfl rfl ?_
    refine r_aload_n (t := some a0) 0 rfl rfl rfl ?_
    obtain ⟨hk1, hE⟩ := ckE hE
    refine r_getR rfl (fl_10_55 rfl) (Or.inr ⟨_, rfl⟩) rfl hk1 ?_
    obtain ⟨a_2, ha3, hE⟩ := bnE hE
    obtain ⟨hk4, hE⟩ := ckE hE
    refine r_alen (kd := 24) rfl (by decide) (by decide) ha3 hk4 ?_
    refine r_icmp_ge (tgt := 261) rfl (by decide) (fun hc5 => ?_) (fun hc5 => ?_)
    · have hE := ifP hc5 hE
      refine r_iconst 0 rfl ci_0 ?_
      refine r_istore_n 1 rfl rfl (by decide) ?_
      first | exact r_sb (Le_init_b263_ok g N _ hD  N _ _ _ _ _ hE) ⟨rfl, rfl, trivial⟩ | exact r_sb (Le_init_b263_ok g N _ hD  N _ _ _ _ _ hE) (by simp only [su1, su2, dr1_rf, dr1_in, dr1_lo, dr2_rf, dr2_in, dr2_lo]; exact ⟨rfl, rfl, trivial⟩)
    · have hE := ifN hc5 hE
      refine r_aload_n (t := some a0) 0 rfl rfl rfl ?_
      refine r_getR rfl (fl_10_55 rfl) (Or.inr ⟨_, rfl⟩) rfl hk1 ?_
      refine r_iload_n 1 rfl rfl rfl ?_
      obtain ⟨h6, he7, hE⟩ := ltE hE
      refine r_new (ci := 3) rfl rfl cw_10_45 ins_3 ini_3 he7 ?_
      refine r_dup rfl (rf_cat _) ?_
      obtain ⟨hk8, hE⟩ := ckE hE
      obtain ⟨v9, h10, hq11, hE⟩ := bdE hE
      refine r_callIN0 (rest := [va_rf (some (hN h)), .int x1, va_rf (hR h a0 8)]) (hc := (Ni_init_ok g N _ _ _ _ hq11 D2 (by omega))) rfl pm_Ni_init rfl rfl lw_10_47 im_Ni_init rfl rfl rfl (by simp only [List.map_cons, List.map_nil, rf_cat, cat_i, cat_l, List.sum_cons, List.sum_nil]; decide) ?_
      obtain ⟨hk12, hE⟩ := ckE hE
      obtain ⟨hi13, hE⟩ := ckE hE
      obtain ⟨hk14, hE⟩ := ckE hE
      obtain ⟨h15, he16, hE⟩ := ltE hE
      refine r_aast rfl (Or.inl ⟨rfl, rfl⟩) ha3 hk12 hi13 hk14 he16 ?_
      refine r_iinc _ rfl rfl (congrArg _ ci_1) (by decide) ?_
      refine r_goto (tgt := 233) rfl (by decide) ?_
      first | exact r_sb (ih _ _ _ _ _ hE) ⟨rfl, rfl, trivial⟩ | exact r_sb (ih _ _ _ _ _ hE) (by simp only [su1, su2, dr1_rf, dr1_in, dr1_lo, dr2_rf, dr2_in, dr2_lo]; exact ⟨rfl, rfl, trivial⟩)
def Le_init (g : GT) (N : Nat) (a0 : Nat) (h : PH) : Option (Unit × PH) :=
  lt0 (nw h (8, 0) 10) fun h1 =>
  ck ((hK h1 (hN h)).1 = 8) <|
  bd (Ta_init g N (hN h) h1) fun v4 h5 =>
  ck ((hK h5 a0).1 = 10) <|
  lt0 (wR h5 a0 0 (some (hN h))) fun h8 =>
  lt0 (nw h8 (0, 0) 19) fun h10 =>
  ck ((hK h10 (hN h8)).1 = 0) <|
  bd (Ho_init N (hN h8) h10) fun v13 h14 =>
  ck ((hK h14 a0).1 = 10) <|
  lt0 (wR h14 a0 1 (some (hN h8))) fun h17 =>
  lt0 (nw h17 (0, 0) 19) fun h19 =>
  ck ((hK h19 (hN h17)).1 = 0) <|
  bd (Ho_init N (hN h17) h19) fun v22 h23 =>
  ck ((hK h23 a0).1 = 10) <|
  lt0 (wR h23 a0 2 (some (hN h17))) fun h26 =>
  lt0 (nw h26 (6, 0) 3) fun h28 =>
  ck ((hK h28 (hN h26)).1 = 6) <|
  bd (Sc_init N (hN h26) h28) fun v31 h32 =>
  ck ((hK h32 a0).1 = 10) <|
  lt0 (wR h32 a0 3 (some (hN h26))) fun h35 =>
  lt0 (nw h35 (6, 0) 3) fun h37 =>
  ck ((hK h37 (hN h35)).1 = 6) <|
  bd (Sc_init N (hN h35) h37) fun v40 h41 =>
  ck ((hK h41 a0).1 = 10) <|
  lt0 (wR h41 a0 4 (some (hN h35))) fun h44 =>
  lt0 (nw h44 (4, 0) 7) fun h46 =>
  ck ((hK h46 a0).1 = 10) <|
  ck ((hK h46 (hN h44)).1 = 4) <|
  bd (Re_init N (hN h44) (hR h46 a0 0) (hR h46 a0 2) (hR h46 a0 4) h46) fun v50 h51 =>
  ck ((hK h51 a0).1 = 10) <|
  lt0 (wR h51 a0 5 (some (hN h44))) fun h54 =>
  lt0 (nw h54 (3, 0) 14) fun h56 =>
  ck ((hK h56 (hN h54)).1 = 3) <|
  bd (Ni_init N (hN h54) h56) fun v59 h60 =>
  ck ((hK h60 a0).1 = 10) <|
  lt0 (wR h60 a0 6 (some (hN h54))) fun h63 =>
  lt0 (nw h63 (3, 0) 14) fun h65 =>
  ck ((hK h65 (hN h63)).1 = 3) <|
  bd (Ni_init N (hN h63) h65) fun v68 h69 =>
  ck ((hK h69 a0).1 = 10) <|
  lt0 (wR h69 a0 7 (some (hN h63))) fun h72 =>
  ck (nb 16 = true) <|
  lt0 (nw h72 (24, ix 16) (ix 16)) fun h75 =>
  ck ((hK h75 a0).1 = 10) <|
  lt0 (wR h75 a0 8 (some (hN h72))) fun h78 =>
  lt0 (wI h78 a0 9 0) fun h80 =>
  lt0 (wI h80 a0 10 0) fun h82 =>
  ck (nb 4 = true) <|
  lt0 (nw h82 (25, ix 4) (ix 4)) fun h85 =>
  ck ((hK h85 a0).1 = 10) <|
  lt0 (wR h85 a0 11 (some (hN h82))) fun h88 =>
  lt0 (nw h88 (9, 0) 6) fun h90 =>
  ck ((hK h90 a0).1 = 10) <|
  ck ((hK h90 (hN h88)).1 = 9) <|
  bd (Va_init N (hN h88) (hR h90 a0 1) 0 1 h90) fun v94 h95 =>
  ck ((hK h95 a0).1 = 10) <|
  lt0 (wR h95 a0 12 (some (hN h88))) fun h98 =>
  lt0 (nw h98 (9, 0) 6) fun h100 =>
  ck ((hK h100 a0).1 = 10) <|
  ck ((hK h100 (hN h98)).1 = 9) <|
  bd (Va_init N (hN h98) (hR h100 a0 1) 1 1 h100) fun v104 h105 =>
  ck ((hK h105 a0).1 = 10) <|
  lt0 (wR h105 a0 13 (some (hN h98))) fun h108 =>
  lt0 (nw h108 (9, 0) 6) fun h110 =>
  ck ((hK h110 a0).1 = 10) <|
  ck ((hK h110 (hN h108)).1 = 9) <|
  bd (Va_init N (hN h108) (hR h110 a0 1) 0 0 h110) fun v114 h115 =>
  ck ((hK h115 a0).1 = 10) <|
  lt0 (wR h115 a0 14 (some (hN h108))) fun h118 =>
  lt0 (nw h118 (2, 0) 8) fun h120 =>
  ck ((hK h120 a0).1 = 10) <|
  ck ((hK h120 (hN h118)).1 = 2) <|
  bd (Me_init N (hN h118) (hR h120 a0 1) h120) fun v124 h125 =>
  ck ((hK h125 a0).1 = 10) <|
  lt0 (wR h125 a0 15 (some (hN h118))) fun h128 =>
  lt0 (nw h128 (5, 0) 5) fun h130 =>
  ck ((hK h130 a0).1 = 10) <|
  ck ((hK h130 (hN h128)).1 = 5) <|
  bd (Rd_init N (hN h128) (hR h130 a0 1) (hR h130 a0 15) h130) fun v134 h135 =>
  ck ((hK h135 a0).1 = 10) <|
  lt0 (wR h135 a0 16 (some (hN h128))) fun h138 =>
  lt0 (nw h138 (7, 0) 4) fun h140 =>
  ck ((hK h140 a0).1 = 10) <|
  ck ((hK h140 (hN h138)).1 = 7) <|
  bd (Sh_init N (hN h138) (hR h140 a0 1) h140) fun v144 h145 =>
  ck ((hK h145 a0).1 = 10) <|
  lt0 (wR h145 a0 17 (some (hN h138))) fun h148 =>
  Le_init_b233 g N N a0 0 h148
set_option maxRecDepth 20000 in
theorem Le_init_ok (g : GT) (N : Nat) (a0 : Nat) (h : PH) (v : Unit) (h' : PH) (hE : Le_init g N a0 h = some (v, h')) (D : Nat) (hD : 5 ≤ D) : Calls g D pLe_init [va_rf (some a0)] h (oV v) h' := by
  refine Calls.of cok_Le_init ht_Le_init pl_Le_init (fun ad => by rw [lg_len, sL_cat]; simp only [List.map_cons, List.map_nil, rf_cat, cat_i, cat_l, List.sum_cons, List.sum_nil]; decide) ?_
  rw [show lv_args 0 [va_rf (some a0)] = [(0, va_rf (some a0))] from (by simp only [lv_args, rf_cat, cat_i, cat_l]; try rfl)]
  obtain ⟨D2, rfl⟩ : ∃ d, D = d + 1 := ⟨D - 1, by omega⟩
  unfold Le_init at hE
  refine r_aload_n (t := some a0) 0 rfl rfl rfl ?_
  refine r_objinit rfl rfl (gt1 28 rfl rfl) oi_1 oi_2 (by decide) ?_
  refine r_aload_n (t := some a0) 0 rfl rfl rfl ?_
  obtain ⟨h1, he2, hE⟩ := ltE hE
  refine r_new (ci := 8) rfl rfl cw_10_9 ins_8 ini_8 he2 ?_
  refine r_dup rfl (rf_cat _) ?_
  obtain ⟨hk3, hE⟩ := ckE hE
  obtain ⟨v4, h5, hq6, hE⟩ := bdE hE
  refine r_callI0 (rest := [va_rf (some (hN h)), va_rf (some a0)]) (hc := (Ta_init_ok g N _ _ _ _ hq6 D2 (by omega))) rfl pm_Ta_init rfl rfl lw_10_11 im_Ta_init rfl rfl rfl (by simp only [List.map_cons, List.map_nil, rf_cat, cat_i, cat_l, List.sum_cons, List.sum_nil]; decide) ?_
  obtain ⟨hk7, hE⟩ := ckE hE
  obtain ⟨h8, he9, hE⟩ := ltE hE
  refine r_putR rfl (fl_10_12 rfl) (Or.inl ⟨_, rfl⟩) (fun _ => ⟨rfl, _, _, rfl⟩) rfl hk7 he9 ?_
  refine r_aload_n (t := some a0) 0 rfl rfl rfl ?_
  obtain ⟨h10, he11, hE⟩ := ltE hE
  refine r_new (ci := 0) rfl rfl cw_10_16 ins_0 ini_0 he11 ?_
  refine r_dup rfl (rf_cat _) ?_
  obtain ⟨hk12, hE⟩ := ckE hE
  obtain ⟨v13, h14, hq15, hE⟩ := bdE hE
  refine r_callI0 (rest := [va_rf (some (hN h8)), va_rf (some a0)]) (hc := (Ho_init_ok g N _ _ _ _ hq15 D2 (by omega))) rfl pm_Ho_init rfl rfl lw_10_18 im_Ho_init rfl rfl rfl (by simp only [List.map_cons, List.map_nil, rf_cat, cat_i, cat_l, List.sum_cons, List.sum_nil]; decide) ?_
  obtain ⟨hk16, hE⟩ := ckE hE
  obtain ⟨h17, he18, hE⟩ := ltE hE
  refine r_putR rfl (fl_10_19 rfl) (Or.inl ⟨_, rfl⟩) (fun _ => ⟨rfl, _, _, rfl⟩) rfl hk16 he18 ?_
  refine r_aload_n (t := some a0) 0 rfl rfl rfl ?_
  obtain ⟨h19, he20, hE⟩ := ltE hE
  refine r_new (ci := 0) rfl rfl cw_10_16 ins_0 ini_0 he20 ?_
  refine r_dup rfl (rf_cat _) ?_
  obtain ⟨hk21, hE⟩ := ckE hE
  obtain ⟨v22, h23, hq24, hE⟩ := bdE hE
  refine r_callI0 (rest := [va_rf (some (hN h17)), va_rf (some a0)]) (hc := (Ho_init_ok g N _ _ _ _ hq24 D2 (by omega))) rfl pm_Ho_init rfl rfl lw_10_18 im_Ho_init rfl rfl rfl (by simp only [List.map_cons, List.map_nil, rf_cat, cat_i, cat_l, List.sum_cons, List.sum_nil]; decide) ?_
  obtain ⟨hk25, hE⟩ := ckE hE
  obtain ⟨h26, he27, hE⟩ := ltE hE
  refine r_putR rfl (fl_10_23 rfl) (Or.inl ⟨_, rfl⟩) (fun _ => ⟨rfl, _, _, rfl⟩) rfl hk25 he27 ?_
  refine r_aload_n (t := some a0) 0 rfl rfl rfl ?_
  obtain ⟨h28, he29, hE⟩ := ltE hE
  refine r_new (ci := 6) rfl rfl cw_10_26 ins_6 ini_6 he29 ?_
  refine r_dup rfl (rf_cat _) ?_
  obtain ⟨hk30, hE⟩ := ckE hE
  obtain ⟨v31, h32, hq33, hE⟩ := bdE hE
  refine r_callIN0 (rest := [va_rf (some (hN h26)), va_rf (some a0)]) (hc := (Sc_init_ok g N _ _ _ _ hq33 D2 (by omega))) rfl pm_Sc_init rfl rfl lw_10_28 im_Sc_init rfl rfl rfl (by simp only [List.map_cons, List.map_nil, rf_cat, cat_i, cat_l, List.sum_cons, List.sum_nil]; decide) ?_
  obtain ⟨hk34, hE⟩ := ckE hE
  obtain ⟨h35, he36, hE⟩ := ltE hE
  refine r_putR rfl (fl_10_29 rfl) (Or.inl ⟨_, rfl⟩) (fun _ => ⟨rfl, _, _, rfl⟩) rfl hk34 he36 ?_
  refine r_aload_n (t := some a0) 0 rfl rfl rfl ?_
  obtain ⟨h37, he38, hE⟩ := ltE hE
  refine r_new (ci := 6) rfl rfl cw_10_26 ins_6 ini_6 he38 ?_
  refine r_dup rfl (rf_cat _) ?_
  obtain ⟨hk39, hE⟩ := ckE hE
  obtain ⟨v40, h41, hq42, hE⟩ := bdE hE
  refine r_callIN0 (rest := [va_rf (some (hN h35)), va_rf (some a0)]) (hc := (Sc_init_ok g N _ _ _ _ hq42 D2 (by omega))) rfl pm_Sc_init rfl rfl lw_10_28 im_Sc_init rfl rfl rfl (by simp only [List.map_cons, List.map_nil, rf_cat, cat_i, cat_l, List.sum_cons, List.sum_nil]; decide) ?_
  obtain ⟨hk43, hE⟩ := ckE hE
  obtain ⟨h44, he45, hE⟩ := ltE hE
  refine r_putR rfl (fl_10_33 rfl) (Or.inl ⟨_, rfl⟩) (fun _ => ⟨rfl, _, _, rfl⟩) rfl hk43 he45 ?_
  refine r_aload_n (t := some a0) 0 rfl rfl rfl ?_
  obtain ⟨h46, he47, hE⟩ := ltE hE
  refine r_new (ci := 4) rfl rfl cw_10_36 ins_4 ini_4 he47 ?_
  refine r_dup rfl (rf_cat _) ?_
  refine r_aload_n (t := some a0) 0 rfl rfl rfl ?_
  obtain ⟨hk48, hE⟩ := ckE hE
  refine r_getR rfl (fl_10_12 rfl) (Or.inl ⟨_, rfl⟩) rfl hk48 ?_
  refine r_aload_n (t := some a0) 0 rfl rfl rfl ?_
  refine r_getR rfl (fl_10_23 rfl) (Or.inl ⟨_, rfl⟩) rfl hk48 ?_
  refine r_aload_n (t := some a0) 0 rfl rfl rfl ?_
  refine r_getR rfl (fl_10_33 rfl) (Or.inl ⟨_, rfl⟩) rfl hk48 ?_
  obtain ⟨hk49, hE⟩ := ckE hE
  obtain ⟨v50, h51, hq52, hE⟩ := bdE hE
  refine r_callI0 (rest := [va_rf (some (hN h44)), va_rf (some a0)]) (hc := (Re_init_ok g N _ _ _ _ _ _ _ hq52 D2 (by omega))) rfl pm_Re_init rfl rfl lw_10_38 im_Re_init rfl rfl rfl (by simp only [List.map_cons, List.map_nil, rf_cat, cat_i, cat_l, List.sum_cons, List.sum_nil]; decide) ?_
  obtain ⟨hk53, hE⟩ := ckE hE
  obtain ⟨h54, he55, hE⟩ := ltE hE
  refine r_putR rfl (fl_10_41 rfl) (Or.inl ⟨_, rfl⟩) (fun _ => ⟨rfl, _, _, rfl⟩) rfl hk53 he55 ?_
  refine r_aload_n (t := some a0) 0 rfl rfl rfl ?_
  obtain ⟨h56, he57, hE⟩ := ltE hE
  refine r_new (ci := 3) rfl rfl cw_10_45 ins_3 ini_3 he57 ?_
  refine r_dup rfl (rf_cat _) ?_
  obtain ⟨hk58, hE⟩ := ckE hE
  obtain ⟨v59, h60, hq61, hE⟩ := bdE hE
  refine r_callIN0 (rest := [va_rf (some (hN h54)), va_rf (some a0)]) (hc := (Ni_init_ok g N _ _ _ _ hq61 D2 (by omega))) rfl pm_Ni_init rfl rfl lw_10_47 im_Ni_init rfl rfl rfl (by simp only [List.map_cons, List.map_nil, rf_cat, cat_i, cat_l, List.sum_cons, List.sum_nil]; decide) ?_
  obtain ⟨hk62, hE⟩ := ckE hE
  obtain ⟨h63, he64, hE⟩ := ltE hE
  refine r_putR rfl (fl_10_48 rfl) (Or.inl ⟨_, rfl⟩) (fun _ => ⟨rfl, _, _, rfl⟩) rfl hk62 he64 ?_
  refine r_aload_n (t := some a0) 0 rfl rfl rfl ?_
  obtain ⟨h65, he66, hE⟩ := ltE hE
  refine r_new (ci := 3) rfl rfl cw_10_45 ins_3 ini_3 he66 ?_
  refine r_dup rfl (rf_cat _) ?_
  obtain ⟨hk67, hE⟩ := ckE hE
  obtain ⟨v68, h69, hq70, hE⟩ := bdE hE
  refine r_callIN0 (rest := [va_rf (some (hN h63)), va_rf (some a0)]) (hc := (Ni_init_ok g N _ _ _ _ hq70 D2 (by omega))) rfl pm_Ni_init rfl rfl lw_10_47 im_Ni_init rfl rfl rfl (by simp only [List.map_cons, List.map_nil, rf_cat, cat_i, cat_l, List.sum_cons, List.sum_nil]; decide) ?_
  obtain ⟨hk71, hE⟩ := ckE hE
  obtain ⟨h72, he73, hE⟩ := ltE hE
  refine r_putR rfl (fl_10_52 rfl) (Or.inl ⟨_, rfl⟩) (fun _ => ⟨rfl, _, _, rfl⟩) rfl hk71 he73 ?_
  refine r_aload_n (t := some a0) 0 rfl rfl rfl ?_
  refine r_bipush 16 rfl cb_16 ?_
  obtain ⟨hc74, hE⟩ := ckE hE
  obtain ⟨h75, he76, hE⟩ := ltE hE
  refine r_anew (kd := 24) rfl (by decide) (by decide) rfl cw_10_45 (Or.inl rfl) hc74 he76 ?_
  obtain ⟨hk77, hE⟩ := ckE hE
  obtain ⟨h78, he79, hE⟩ := ltE hE
  refine r_putR rfl (fl_10_55 rfl) (Or.inr ⟨_, rfl⟩) (fun _ => ⟨rfl, _, _, rfl⟩) rfl hk77 he79 ?_
  refine r_aload_n (t := some a0) 0 rfl rfl rfl ?_
  refine r_iconst 0 rfl ci_0 ?_
  obtain ⟨h80, he81, hE⟩ := ltE hE
  refine r_putI rfl (fl_10_59 rfl) finF rfl (kwR he79 hk77) he81 ?_
  refine r_aload_n (t := some a0) 0 rfl rfl rfl ?_
  refine r_iconst 0 rfl ci_0 ?_
  obtain ⟨h82, he83, hE⟩ := ltE hE
  refine r_putI rfl (fl_10_63 rfl) finF rfl (kwI he81 (kwR he79 hk77)) he83 ?_
  refine r_aload_n (t := some a0) 0 rfl rfl rfl ?_
  refine r_iconst 4 rfl ci_4 ?_
  obtain ⟨hc84, hE⟩ := ckE hE
  obtain ⟨h85, he86, hE⟩ := ltE hE
  refine r_anew (kd := 25) rfl (by decide) (by decide) rfl cw_10_66 (Or.inr rfl) hc84 he86 ?_
  obtain ⟨hk87, hE⟩ := ckE hE
  obtain ⟨h88, he89, hE⟩ := ltE hE
  refine r_putR rfl (fl_10_68 rfl) (Or.inr ⟨_, rfl⟩) (fun _ => ⟨rfl, _, _, rfl⟩) rfl hk87 he89 ?_
  refine r_aload_n (t := some a0) 0 rfl rfl rfl ?_
  obtain ⟨h90, he91, hE⟩ := ltE hE
  refine r_new (ci := 9) rfl rfl cw_10_72 ins_9 ini_9 he91 ?_
  refine r_dup rfl (rf_cat _) ?_
  refine r_aload_n (t := some a0) 0 rfl rfl rfl ?_
  obtain ⟨hk92, hE⟩ := ckE hE
  refine r_getR rfl (fl_10_19 rfl) (Or.inl ⟨_, rfl⟩) rfl hk92 ?_
  refine r_iconst 0 rfl ci_0 ?_
  refine r_iconst 1 rfl ci_1 ?_
  obtain ⟨hk93, hE⟩ := ckE hE
  obtain ⟨v94, h95, hq96, hE⟩ := bdE hE
  refine r_callI0 (rest := [va_rf (some (hN h88)), va_rf (some a0)]) (hc := (Va_init_ok g N _ _ _ _ _ _ _ hq96 D2 (by omega))) rfl pm_Va_init rfl rfl lw_10_74 im_Va_init rfl rfl rfl (by simp only [List.map_cons, List.map_nil, rf_cat, cat_i, cat_l, List.sum_cons, List.sum_nil]; decide) ?_
  obtain ⟨hk97, hE⟩ := ckE hE
  obtain ⟨h98, he99, hE⟩ := ltE hE
  refine r_putR rfl (fl_10_77 rfl) (Or.inl ⟨_, rfl⟩) (fun _ => ⟨rfl, _, _, rfl⟩) rfl hk97 he99 ?_
  refine r_aload_n (t := some a0) 0 rfl rfl rfl ?_
  obtain ⟨h100, he101, hE⟩ := ltE hE
  refine r_new (ci := 9) rfl rfl cw_10_72 ins_9 ini_9 he101 ?_
  refine r_dup rfl (rf_cat _) ?_
  refine r_aload_n (t := some a0) 0 rfl rfl rfl ?_
  obtain ⟨hk102, hE⟩ := ckE hE
  refine r_getR rfl (fl_10_19 rfl) (Or.inl ⟨_, rfl⟩) rfl hk102 ?_
  refine r_iconst 1 rfl ci_1 ?_
  refine r_iconst 1 rfl ci_1 ?_
  obtain ⟨hk103, hE⟩ := ckE hE
  obtain ⟨v104, h105, hq106, hE⟩ := bdE hE
  refine r_callI0 (rest := [va_rf (some (hN h98)), va_rf (some a0)]) (hc := (Va_init_ok g N _ _ _ _ _ _ _ hq106 D2 (by omega))) rfl pm_Va_init rfl rfl lw_10_74 im_Va_init rfl rfl rfl (by simp only [List.map_cons, List.map_nil, rf_cat, cat_i, cat_l, List.sum_cons, List.sum_nil]; decide) ?_
  obtain ⟨hk107, hE⟩ := ckE hE
  obtain ⟨h108, he109, hE⟩ := ltE hE
  refine r_putR rfl (fl_10_81 rfl) (Or.inl ⟨_, rfl⟩) (fun _ => ⟨rfl, _, _, rfl⟩) rfl hk107 he109 ?_
  refine r_aload_n (t := some a0) 0 rfl rfl rfl ?_
  obtain ⟨h110, he111, hE⟩ := ltE hE
  refine r_new (ci := 9) rfl rfl cw_10_72 ins_9 ini_9 he111 ?_
  refine r_dup rfl (rf_cat _) ?_
  refine r_aload_n (t := some a0) 0 rfl rfl rfl ?_
  obtain ⟨hk112, hE⟩ := ckE hE
  refine r_getR rfl (fl_10_19 rfl) (Or.inl ⟨_, rfl⟩) rfl hk112 ?_
  refine r_iconst 0 rfl ci_0 ?_
  refine r_iconst 0 rfl ci_0 ?_
  obtain ⟨hk113, hE⟩ := ckE hE
  obtain ⟨v114, h115, hq116, hE⟩ := bdE hE
  refine r_callI0 (rest := [va_rf (some (hN h108)), va_rf (some a0)]) (hc := (Va_init_ok g N _ _ _ _ _ _ _ hq116 D2 (by omega))) rfl pm_Va_init rfl rfl lw_10_74 im_Va_init rfl rfl rfl (by simp only [List.map_cons, List.map_nil, rf_cat, cat_i, cat_l, List.sum_cons, List.sum_nil]; decide) ?_
  obtain ⟨hk117, hE⟩ := ckE hE
  obtain ⟨h118, he119, hE⟩ := ltE hE
  refine r_putR rfl (fl_10_84 rfl) (Or.inl ⟨_, rfl⟩) (fun _ => ⟨rfl, _, _, rfl⟩) rfl hk117 he119 ?_
  refine r_aload_n (t := some a0) 0 rfl rfl rfl ?_
  obtain ⟨h120, he121, hE⟩ := ltE hE
  refine r_new (ci := 2) rfl rfl cw_10_87 ins_2 ini_2 he121 ?_
  refine r_dup rfl (rf_cat _) ?_
  refine r_aload_n (t := some a0) 0 rfl rfl rfl ?_
  obtain ⟨hk122, hE⟩ := ckE hE
  refine r_getR rfl (fl_10_19 rfl) (Or.inl ⟨_, rfl⟩) rfl hk122 ?_
  obtain ⟨hk123, hE⟩ := ckE hE
  obtain ⟨v124, h125, hq126, hE⟩ := bdE hE
  refine r_callI0 (rest := [va_rf (some (hN h118)), va_rf (some a0)]) (hc := (Me_init_ok g N _ _ _ _ _ hq126 D2 (by omega))) rfl pm_Me_init rfl rfl lw_10_89 im_Me_init rfl rfl rfl (by simp only [List.map_cons, List.map_nil, rf_cat, cat_i, cat_l, List.sum_cons, List.sum_nil]; decide) ?_
  obtain ⟨hk127, hE⟩ := ckE hE
  obtain ⟨h128, he129, hE⟩ := ltE hE
  refine r_putR rfl (fl_10_92 rfl) (Or.inl ⟨_, rfl⟩) (fun _ => ⟨rfl, _, _, rfl⟩) rfl hk127 he129 ?_
  refine r_aload_n (t := some a0) 0 rfl rfl rfl ?_
  obtain ⟨h130, he131, hE⟩ := ltE hE
  refine r_new (ci := 5) rfl rfl cw_10_96 ins_5 ini_5 he131 ?_
  refine r_dup rfl (rf_cat _) ?_
  refine r_aload_n (t := some a0) 0 rfl rfl rfl ?_
  obtain ⟨hk132, hE⟩ := ckE hE
  refine r_getR rfl (fl_10_19 rfl) (Or.inl ⟨_, rfl⟩) rfl hk132 ?_
  refine r_aload_n (t := some a0) 0 rfl rfl rfl ?_
  refine r_getR rfl (fl_10_92 rfl) (Or.inl ⟨_, rfl⟩) rfl hk132 ?_
  obtain ⟨hk133, hE⟩ := ckE hE
  obtain ⟨v134, h135, hq136, hE⟩ := bdE hE
  refine r_callI0 (rest := [va_rf (some (hN h128)), va_rf (some a0)]) (hc := (Rd_init_ok g N _ _ _ _ _ _ hq136 D2 (by omega))) rfl pm_Rd_init rfl rfl lw_10_98 im_Rd_init rfl rfl rfl (by simp only [List.map_cons, List.map_nil, rf_cat, cat_i, cat_l, List.sum_cons, List.sum_nil]; decide) ?_
  obtain ⟨hk137, hE⟩ := ckE hE
  obtain ⟨h138, he139, hE⟩ := ltE hE
  refine r_putR rfl (fl_10_101 rfl) (Or.inl ⟨_, rfl⟩) (fun _ => ⟨rfl, _, _, rfl⟩) rfl hk137 he139 ?_
  refine r_aload_n (t := some a0) 0 rfl rfl rfl ?_
  obtain ⟨h140, he141, hE⟩ := ltE hE
  refine r_new (ci := 7) rfl rfl cw_10_105 ins_7 ini_7 he141 ?_
  refine r_dup rfl (rf_cat _) ?_
  refine r_aload_n (t := some a0) 0 rfl rfl rfl ?_
  obtain ⟨hk142, hE⟩ := ckE hE
  refine r_getR rfl (fl_10_19 rfl) (Or.inl ⟨_, rfl⟩) rfl hk142 ?_
  obtain ⟨hk143, hE⟩ := ckE hE
  obtain ⟨v144, h145, hq146, hE⟩ := bdE hE
  refine r_callI0 (rest := [va_rf (some (hN h138)), va_rf (some a0)]) (hc := (Sh_init_ok g N _ _ _ _ _ hq146 D2 (by omega))) rfl pm_Sh_init rfl rfl lw_10_107 im_Sh_init rfl rfl rfl (by simp only [List.map_cons, List.map_nil, rf_cat, cat_i, cat_l, List.sum_cons, List.sum_nil]; decide) ?_
  obtain ⟨hk147, hE⟩ := ckE hE
  obtain ⟨h148, he149, hE⟩ := ltE hE
  refine r_putR rfl (fl_10_108 rfl) (Or.inl ⟨_, rfl⟩) (fun _ => ⟨rfl, _, _, rfl⟩) rfl hk147 he149 ?_
  refine r_iconst 0 rfl ci_0 ?_
  refine r_istore_n 1 rfl rfl (by decide) ?_
  first | exact r_sb (Le_init_b233_ok g N _ hD  N _ _ _ _ _ hE) ⟨rfl, rfl, trivial⟩ | exact r_sb (Le_init_b233_ok g N _ hD  N _ _ _ _ _ hE) (by simp only [su1, su2, dr1_rf, dr1_in, dr1_lo, dr2_rf, dr2_in, dr2_lo]; exact ⟨rfl, rfl, trivial⟩)
def Le_feed (N : Nat) (a0 : Nat) (x1 : Int64) (x3 : Int64) (x5 : Int64) (h : PH) : Option (Int32 × PH) :=
  ck ((hK h a0).1 = 10) <|
  ((hR h a0 0)).bind fun a_2 =>
  ck ((hK h a_2).1 = 8) <|
  bd (Ta_take N a_2 x1 h) fun v5 h6 =>
  ck ((hK h6 a0).1 = 10) <|
  ((hR h6 a0 0)).bind fun a_9 =>
  ck ((hK h6 a_9).1 = 8) <|
  bd (Ta_take N a_9 x3 h6) fun v12 h13 =>
  ck ((hK h13 a0).1 = 10) <|
  ((hR h13 a0 0)).bind fun a_16 =>
  ck ((hK h13 a_16).1 = 8) <|
  bd (Ta_take N a_16 x5 h13) fun v19 h20 =>
  ck ((hK h20 a0).1 = 10) <|
  ((hR h20 a0 0)).bind fun a_23 =>
  ck ((hK h20 a_23).1 = 8) <|
  some ((hI h20 a_23 1), h20)
set_option maxRecDepth 20000 in
theorem Le_feed_ok (g : GT) (N : Nat) (a0 : Nat) (x1 : Int64) (x3 : Int64) (x5 : Int64) (h : PH) (v : Int32) (h' : PH) (hE : Le_feed N a0 x1 x3 x5 h = some (v, h')) (D : Nat) (hD : 1 ≤ D) : Calls g D pLe_feed [va_rf (some a0), .long x1, .long x3, .long x5] h (oI v) h' := by
  refine Calls.of cok_Le_feed ht_Le_feed pl_Le_feed (fun ad => by rw [lg_len, sL_cat]; simp only [List.map_cons, List.map_nil, rf_cat, cat_i, cat_l, List.sum_cons, List.sum_nil]; decide) ?_
  rw [show lv_args 0 [va_rf (some a0), .long x1, .long x3, .long x5] = [(0, va_rf (some a0)), (1, .long x1), (3, .long x3), (5, .long x5)] from (by simp only [lv_args, rf_cat, cat_i, cat_l]; try rfl)]
  obtain ⟨D2, rfl⟩ : ∃ d, D = d + 1 := ⟨D - 1, by omega⟩
  unfold Le_feed at hE
  refine r_aload_n (t := some a0) 0 rfl rfl rfl ?_
  obtain ⟨hk1, hE⟩ := ckE hE
  refine r_getR rfl (fl_10_12 rfl) (Or.inl ⟨_, rfl⟩) rfl hk1 ?_
  refine r_lload_n 1 rfl rfl rfl ?_
  obtain ⟨a_2, ha3, hE⟩ := bnE hE
  obtain ⟨hk4, hE⟩ := ckE hE
  obtain ⟨v5, h6, hq7, hE⟩ := bdE hE
  refine r_callV0 (rest := []) (hc := (Ta_take_ok g N _ _ _ _ _ hq7 D2 (by omega))) rfl pm_Ta_take lw_10_116 im_Ta_take sl_Ta_take ha3 rfl rfl (rcOK hk4 rfl) (by decide) ?_
  refine r_aload_n (t := some a0) 0 rfl rfl rfl ?_
  obtain ⟨hk8, hE⟩ := ckE hE
  refine r_getR rfl (fl_10_12 rfl) (Or.inl ⟨_, rfl⟩) rfl hk8 ?_
  refine r_lload_n 3 rfl rfl rfl ?_
  obtain ⟨a_9, ha10, hE⟩ := bnE hE
  obtain ⟨hk11, hE⟩ := ckE hE
  obtain ⟨v12, h13, hq14, hE⟩ := bdE hE
  refine r_callV0 (rest := []) (hc := (Ta_take_ok g N _ _ _ _ _ hq14 D2 (by omega))) rfl pm_Ta_take lw_10_116 im_Ta_take sl_Ta_take ha10 rfl rfl (rcOK hk11 rfl) (by decide) ?_
  refine r_aload_n (t := some a0) 0 rfl rfl rfl ?_
  obtain ⟨hk15, hE⟩ := ckE hE
  refine r_getR rfl (fl_10_12 rfl) (Or.inl ⟨_, rfl⟩) rfl hk15 ?_
  refine r_lload rfl rfl ?_
  obtain ⟨a_16, ha17, hE⟩ := bnE hE
  obtain ⟨hk18, hE⟩ := ckE hE
  obtain ⟨v19, h20, hq21, hE⟩ := bdE hE
  refine r_callV0 (rest := []) (hc := (Ta_take_ok g N _ _ _ _ _ hq21 D2 (by omega))) rfl pm_Ta_take lw_10_116 im_Ta_take sl_Ta_take ha17 rfl rfl (rcOK hk18 rfl) (by decide) ?_
  refine r_aload_n (t := some a0) 0 rfl rfl rfl ?_
  obtain ⟨hk22, hE⟩ := ckE hE
  refine r_getR rfl (fl_10_12 rfl) (Or.inl ⟨_, rfl⟩) rfl hk22 ?_
  obtain ⟨a_23, ha24, hE⟩ := bnE hE
  obtain ⟨hk25, hE⟩ := ckE hE
  refine r_getI rfl (fl_10_120 rfl) (Or.inl rfl) ha24 hk25 ?_
  cases hE
  exact r_ret rfl (Or.inl ⟨rfl, _, _, rfl, rfl, rfl, rfl⟩)
def Le_house (N : Nat) (a0 : Nat) (h : PH) : Option (Int32 × PH) :=
  ck ((hK h a0).1 = 10) <|
  ((hR h a0 5)).bind fun a_2 =>
  ck ((hK h a_2).1 = 4) <|
  bd (Re_readHouse N a_2 h) fun v5 h6 =>
  ck ((hK h6 a0).1 = 10) <|
  ((hR h6 a0 0)).bind fun a_9 =>
  ck ((hK h6 a_9).1 = 8) <|
  lt0 (wI h6 a_9 1 0) fun h12 =>
  if v5 = 0 then
    bd (Le_moveIn N a0 h12) fun v15 h16 =>
    some (v5, h16)
  else
    some (v5, h12)
set_option maxRecDepth 20000 in
theorem Le_house_ok (g : GT) (N : Nat) (a0 : Nat) (h : PH) (v : Int32) (h' : PH) (hE : Le_house N a0 h = some (v, h')) (D : Nat) (hD : 63 ≤ D) : Calls g D pLe_house [va_rf (some a0)] h (oI v) h' := by
  refine Calls.of cok_Le_house ht_Le_house pl_Le_house (fun ad => by rw [lg_len, sL_cat]; simp only [List.map_cons, List.map_nil, rf_cat, cat_i, cat_l, List.sum_cons, List.sum_nil]; decide) ?_
  rw [show lv_args 0 [va_rf (some a0)] = [(0, va_rf (some a0))] from (by simp only [lv_args, rf_cat, cat_i, cat_l]; try rfl)]
  obtain ⟨D2, rfl⟩ : ∃ d, D = d + 1 := ⟨D - 1, by omega⟩
  unfold Le_house at hE
  refine r_aload_n (t := some a0) 0 rfl rfl rfl ?_
  obtain ⟨hk1, hE⟩ := ckE hE
  refine r_getR rfl (fl_10_41 rfl) (Or.inl ⟨_, rfl⟩) rfl hk1 ?_
  obtain ⟨a_2, ha3, hE⟩ := bnE hE
  obtain ⟨hk4, hE⟩ := ckE hE
  obtain ⟨v5, h6, hq7, hE⟩ := bdE hE
  refine r_callV1 (rest := []) (hc := (Re_readHouse_ok g N _ _ _ _ hq7 D2 (by omega))) rfl pm_Re_readHouse lw_10_123 im_Re_readHouse sl_Re_readHouse ha3 rfl rfl (rcOK hk4 rfl) (by decide) ?_
  refine r_istore_n 1 rfl rfl (by decide) ?_
  refine r_aload_n (t := some a0) 0 rfl rfl rfl ?_
  obtain ⟨hk8, hE⟩ := ckE hE
  refine r_getR rfl (fl_10_12 rfl) (Or.inl ⟨_, rfl⟩) rfl hk8 ?_
  refine r_iconst 0 rfl ci_0 ?_
  obtain ⟨a_9, ha10, hE⟩ := bnE hE
  obtain ⟨hk11, hE⟩ := ckE hE
  obtain ⟨h12, he13, hE⟩ := ltE hE
  refine r_putI rfl (fl_10_120 rfl) finF ha10 hk11 he13 ?_
  refine r_iload_n 1 rfl rfl rfl ?_
  refine r_if_ne (tgt := 24) rfl (by decide) (fun hc14 => ?_) (fun hc14 => ?_)
  · have hE := ifP hc14 hE
    refine r_aload_n (t := some a0) 0 rfl rfl rfl ?_
    obtain ⟨v15, h16, hq17, hE⟩ := bdE hE
    refine r_callV0 (rest := []) (hc := (Le_moveIn_ok g N _ _ _ _ hq17 D2 (by omega))) rfl pm_Le_moveIn lw_10_113 im_Le_moveIn sl_Le_moveIn rfl rfl rfl (rcOK (kwI he13 hk8) rfl) (by decide) ?_
    refine r_iload_n 1 rfl rfl rfl ?_
    cases hE
    exact r_ret rfl (Or.inl ⟨rfl, _, _, rfl, rfl, rfl, rfl⟩)
  · have hE := ifN hc14 hE
    refine r_iload_n 1 rfl rfl rfl ?_
    cases hE
    exact r_ret rfl (Or.inl ⟨rfl, _, _, rfl, rfl, rfl, rfl⟩)
def Le_evening (N : Nat) (a0 : Nat) (h : PH) : Option (Int32 × PH) :=
  ck ((hK h a0).1 = 10) <|
  ((hR h a0 5)).bind fun a_2 =>
  ck ((hK h a_2).1 = 4) <|
  bd (Re_readEvening N a_2 h) fun v5 h6 =>
  ck ((hK h6 a0).1 = 10) <|
  ((hR h6 a0 0)).bind fun a_9 =>
  ck ((hK h6 a_9).1 = 8) <|
  lt0 (wI h6 a_9 1 0) fun h12 =>
  if v5 = 0 then
    ((hR h12 a0 3)).bind fun a_15 =>
    ck ((hK h12 a_15).1 = 6) <|
    bd (Sc_copy N a_15 (hR h12 a0 4) h12) fun v18 h19 =>
    some (v5, h19)
  else
    some (v5, h12)
set_option maxRecDepth 20000 in
theorem Le_evening_ok (g : GT) (N : Nat) (a0 : Nat) (h : PH) (v : Int32) (h' : PH) (hE : Le_evening N a0 h = some (v, h')) (D : Nat) (hD : 8 ≤ D) : Calls g D pLe_evening [va_rf (some a0)] h (oI v) h' := by
  refine Calls.of cok_Le_evening ht_Le_evening pl_Le_evening (fun ad => by rw [lg_len, sL_cat]; simp only [List.map_cons, List.map_nil, rf_cat, cat_i, cat_l, List.sum_cons, List.sum_nil]; decide) ?_
  rw [show lv_args 0 [va_rf (some a0)] = [(0, va_rf (some a0))] from (by simp only [lv_args, rf_cat, cat_i, cat_l]; try rfl)]
  obtain ⟨D2, rfl⟩ : ∃ d, D = d + 1 := ⟨D - 1, by omega⟩
  unfold Le_evening at hE
  refine r_aload_n (t := some a0) 0 rfl rfl rfl ?_
  obtain ⟨hk1, hE⟩ := ckE hE
  refine r_getR rfl (fl_10_41 rfl) (Or.inl ⟨_, rfl⟩) rfl hk1 ?_
  obtain ⟨a_2, ha3, hE⟩ := bnE hE
  obtain ⟨hk4, hE⟩ := ckE hE
  obtain ⟨v5, h6, hq7, hE⟩ := bdE hE
  refine r_callV1 (rest := []) (hc := (Re_readEvening_ok g N _ _ _ _ hq7 D2 (by omega))) rfl pm_Re_readEvening lw_10_127 im_Re_readEvening sl_Re_readEvening ha3 rfl rfl (rcOK hk4 rfl) (by decide) ?_
  refine r_istore_n 1 rfl rfl (by decide) ?_
  refine r_aload_n (t := some a0) 0 rfl rfl rfl ?_
  obtain ⟨hk8, hE⟩ := ckE hE
  refine r_getR rfl (fl_10_12 rfl) (Or.inl ⟨_, rfl⟩) rfl hk8 ?_
  refine r_iconst 0 rfl ci_0 ?_
  obtain ⟨a_9, ha10, hE⟩ := bnE hE
  obtain ⟨hk11, hE⟩ := ckE hE
  obtain ⟨h12, he13, hE⟩ := ltE hE
  refine r_putI rfl (fl_10_120 rfl) finF ha10 hk11 he13 ?_
  refine r_iload_n 1 rfl rfl rfl ?_
  refine r_if_ne (tgt := 31) rfl (by decide) (fun hc14 => ?_) (fun hc14 => ?_)
  · have hE := ifP hc14 hE
    refine r_aload_n (t := some a0) 0 rfl rfl rfl ?_
    refine r_getR rfl (fl_10_29 rfl) (Or.inl ⟨_, rfl⟩) rfl (kwI he13 hk8) ?_
    refine r_aload_n (t := some a0) 0 rfl rfl rfl ?_
    refine r_getR rfl (fl_10_33 rfl) (Or.inl ⟨_, rfl⟩) rfl (kwI he13 hk8) ?_
    obtain ⟨a_15, ha16, hE⟩ := bnE hE
    obtain ⟨hk17, hE⟩ := ckE hE
    obtain ⟨v18, h19, hq20, hE⟩ := bdE hE
    refine r_callV0 (rest := []) (hc := (Sc_copy_ok g N _ _ _ _ _ hq20 D2 (by omega))) rfl pm_Sc_copy lw_10_130 im_Sc_copy sl_Sc_copy ha16 rfl rfl (rcOK hk17 rfl) (by decide) ?_
    refine r_iload_n 1 rfl rfl rfl ?_
    cases hE
    exact r_ret rfl (Or.inl ⟨rfl, _, _, rfl, rfl, rfl, rfl⟩)
  · have hE := ifN hc14 hE
    refine r_iload_n 1 rfl rfl rfl ?_
    cases hE
    exact r_ret rfl (Or.inl ⟨rfl, _, _, rfl, rfl, rfl, rfl⟩)
def Le_calls (N : Nat) (a0 : Nat) (x1 : Int32) (x2 : Int32) (h : PH) : Option (Int32 × PH) :=
  if x1 < 0 then
    some ((-1), h)
  else
    ck ((hK h a0).1 = 10) <|
    ((hR h a0 1)).bind fun a_3 =>
    ck ((hK h a_3).1 = 0) <|
    if (hI h a_3 0) ≤ x1 then
      some ((-1), h)
    else
      if x2 < 0 then
        some ((-1), h)
      else
        if x2 ≤ 3 then
          bd (Ho_chance N a_3 0 x1 x2 h) fun v9 h10 =>
          some (v9, h10)
        else
          some ((-1), h)
set_option maxRecDepth 20000 in
theorem Le_calls_ok (g : GT) (N : Nat) (a0 : Nat) (x1 : Int32) (x2 : Int32) (h : PH) (v : Int32) (h' : PH) (hE : Le_calls N a0 x1 x2 h = some (v, h')) (D : Nat) (hD : 2 ≤ D) : Calls g D pLe_calls [va_rf (some a0), .int x1, .int x2] h (oI v) h' := by
  refine Calls.of cok_Le_calls ht_Le_calls pl_Le_calls (fun ad => by rw [lg_len, sL_cat]; simp only [List.map_cons, List.map_nil, rf_cat, cat_i, cat_l, List.sum_cons, List.sum_nil]; decide) ?_
  rw [show lv_args 0 [va_rf (some a0), .int x1, .int x2] = [(0, va_rf (some a0)), (1, .int x1), (2, .int x2)] from (by simp only [lv_args, rf_cat, cat_i, cat_l]; try rfl)]
  obtain ⟨D2, rfl⟩ : ∃ d, D = d + 1 := ⟨D - 1, by omega⟩
  unfold Le_calls at hE
  refine r_iload_n 1 rfl rfl rfl ?_
  refine r_if_lt (tgt := 24) rfl (by decide) (fun hc1 => ?_) (fun hc1 => ?_)
  · have hE := ifP hc1 hE
    refine r_iconst (-1) rfl ci_m1 ?_
    cases hE
    exact r_ret rfl (Or.inl ⟨rfl, _, _, rfl, rfl, rfl, rfl⟩)
  · have hE := ifN hc1 hE
    refine r_iload_n 1 rfl rfl rfl ?_
    refine r_aload_n (t := some a0) 0 rfl rfl rfl ?_
    obtain ⟨hk2, hE⟩ := ckE hE
    refine r_getR rfl (fl_10_19 rfl) (Or.inl ⟨_, rfl⟩) rfl hk2 ?_
    obtain ⟨a_3, ha4, hE⟩ := bnE hE
    obtain ⟨hk5, hE⟩ := ckE hE
    refine r_getI rfl (fl_10_134 rfl) (Or.inl rfl) ha4 hk5 ?_
    refine r_icmp_ge (tgt := 24) rfl (by decide) (fun hc6 => ?_) (fun hc6 => ?_)
    · have hE := ifP hc6 hE
      refine r_iconst (-1) rfl ci_m1 ?_
      cases hE
      exact r_ret rfl (Or.inl ⟨rfl, _, _, rfl, rfl, rfl, rfl⟩)
    · have hE := ifN hc6 hE
      refine r_iload_n 2 rfl rfl rfl ?_
      refine r_if_lt (tgt := 24) rfl (by decide) (fun hc7 => ?_) (fun hc7 => ?_)
      · have hE := ifP hc7 hE
        refine r_iconst (-1) rfl ci_m1 ?_
        cases hE
        exact r_ret rfl (Or.inl ⟨rfl, _, _, rfl, rfl, rfl, rfl⟩)
      · have hE := ifN hc7 hE
        refine r_iload_n 2 rfl rfl rfl ?_
        refine r_iconst 3 rfl ci_3 ?_
        refine r_icmp_le (tgt := 26) rfl (by decide) (fun hc8 => ?_) (fun hc8 => ?_)
        · have hE := ifP hc8 hE
          refine r_aload_n (t := some a0) 0 rfl rfl rfl ?_
          refine r_getR rfl (fl_10_19 rfl) (Or.inl ⟨_, rfl⟩) rfl hk2 ?_
          refine r_iconst 0 rfl ci_0 ?_
          refine r_iload_n 1 rfl rfl rfl ?_
          refine r_iload_n 2 rfl rfl rfl ?_
          obtain ⟨v9, h10, hq11, hE⟩ := bdE hE
          refine r_callV1 (rest := []) (hc := (Ho_chance_ok g N _ _ _ _ _ _ _ hq11 D2 (by omega))) rfl pm_Ho_chance lw_10_137 im_Ho_chance sl_Ho_chance ha4 rfl rfl (rcOK hk5 rfl) (by decide) ?_
          cases hE
          exact r_ret rfl (Or.inl ⟨rfl, _, _, rfl, rfl, rfl, rfl⟩)
        · have hE := ifN hc8 hE
          refine r_iconst (-1) rfl ci_m1 ?_
          cases hE
          exact r_ret rfl (Or.inl ⟨rfl, _, _, rfl, rfl, rfl, rfl⟩)
def Le_keepForUndo_b24 (N : Nat) (a0 : Nat) (h : PH) : Option (Unit × PH) :=
  ck ((hK h a0).1 = 10) <|
  ck (¬ (16 : Int32) = 0) <|
  lt0 (wI h a0 9 (((hI h a0 9) + 1) - ((hI h a0 9) + 1) / 16 * 16)) fun h3 =>
  lt0 (wI h3 a0 10 (mnI 16 ((hI h3 a0 10) + 1))) fun h5 =>
  some ((), h5)
set_option maxRecDepth 20000 in
theorem Le_keepForUndo_b24_ok (g : GT) (N : Nat) (D : Nat) (hD : 1 ≤ D) : ∀ (a0 : Nat) (h : PH) (v : Unit) (h' : PH), Le_keepForUndo_b24 N a0 h = some (v, h') → Run g pLe_keepForUndo D 24 [(0, va_rf (some a0))] [] h (rV v) h' := by
  obtain ⟨D2, rfl⟩ : ∃ d, D = d + 1 := ⟨D - 1, by omega⟩
  intro a0 h v h' hE
  unfold Le_keepForUndo_b24 at hE
  refine r_aload_n (t := some a0) 0 rfl rfl rfl ?_
  refine r_aload_n (t := some a0) 0 rfl rfl rfl ?_
  obtain ⟨hk1, hE⟩ := ckE hE
  refine r_getI rfl (fl_10_59 rfl) (Or.inl rfl) rfl hk1 ?_
  refine r_iconst 1 rfl ci_1 ?_
  refine r_iadd rfl ?_
  refine r_bipush 16 rfl cb_16 ?_
  obtain ⟨hc2, hE⟩ := ckE hE
  refine r_irem rfl hc2 ?_
  obtain ⟨h3, he4, hE⟩ := ltE hE
  refine r_putI rfl (fl_10_59 rfl) finF rfl hk1 he4 ?_
  refine r_aload_n (t := some a0) 0 rfl rfl rfl ?_
  refine r_bipush 16 rfl cb_16 ?_
  refine r_aload_n (t := some a0) 0 rfl rfl rfl ?_
  refine r_getI rfl (fl_10_63 rfl) (Or.inl rfl) rfl (kwI he4 hk1) ?_
  refine r_iconst 1 rfl ci_1 ?_
  refine r_iadd rfl ?_
  refine r_mmin rfl (gt4 94 rfl rfl) mm_min1 mm_2 mm_min3 (by simp only [List.map_cons, List.map_nil, rf_cat, cat_i, cat_l, List.sum_cons, List.sum_nil]; decide) ?_
  obtain ⟨h5, he6, hE⟩ := ltE hE
  refine r_putI rfl (fl_10_63 rfl) finF rfl (kwI he4 hk1) he6 ?_
  cases hE
  exact r_ret rfl (Or.inr (Or.inr (Or.inr ⟨rfl, rfl, rfl, rfl⟩)))
def Le_keepForUndo (N : Nat) (a0 : Nat) (h : PH) : Option (Unit × PH) :=
  ck ((hK h a0).1 = 10) <|
  bd (Le_nightAt N (hR h a0 8) (hI h a0 9) h) fun v2 h3 =>
  if v2 = none then
    Le_keepForUndo_b24 N  a0 h3
  else
    ck ((hK h3 a0).1 = 10) <|
    (v2).bind fun a_7 =>
    ck ((hK h3 a_7).1 = 3) <|
    bd (Ni_copy N a_7 (hR h3 a0 6) h3) fun v10 h11 =>
    Le_keepForUndo_b24 N  a0 h11
set_option maxRecDepth 20000 in
theorem Le_keepForUndo_ok (g : GT) (N : Nat) (a0 : Nat) (h : PH) (v : Unit) (h' : PH) (hE : Le_keepForUndo N a0 h = some (v, h')) (D : Nat) (hD : 1 ≤ D) : Calls g D pLe_keepForUndo [va_rf (some a0)] h (oV v) h' := by
  refine Calls.of cok_Le_keepForUndo ht_Le_keepForUndo pl_Le_keepForUndo (fun ad => by rw [lg_len, sL_cat]; simp only [List.map_cons, List.map_nil, rf_cat, cat_i, cat_l, List.sum_cons, List.sum_nil]; decide) ?_
  rw [show lv_args 0 [va_rf (some a0)] = [(0, va_rf (some a0))] from (by simp only [lv_args, rf_cat, cat_i, cat_l]; try rfl)]
  obtain ⟨D2, rfl⟩ : ∃ d, D = d + 1 := ⟨D - 1, by omega⟩
  unfold Le_keepForUndo at hE
  refine r_aload_n (t := some a0) 0 rfl rfl rfl ?_
  obtain ⟨hk1, hE⟩ := ckE hE
  refine r_getR rfl (fl_10_55 rfl) (Or.inr ⟨_, rfl⟩) rfl hk1 ?_
  refine r_aload_n (t := some a0) 0 rfl rfl rfl ?_
  refine r_getI rfl (fl_10_59 rfl) (Or.inl rfl) rfl hk1 ?_
  obtain ⟨v2, h3, hq4, hE⟩ := bdE hE
  refine r_callS1 (rest := []) (hc := (Le_nightAt_ok g N _ _ _ _ _ hq4 D2 (by omega))) rfl pm_Le_nightAt lw_10_179 st_Le_nightAt rfl rfl (by decide) ?_
  refine r_astore_n 1 rfl rfl (by decide) ?_
  refine r_aload_n (t := v2) 1 rfl rfl rfl ?_
  refine r_ifnull (tgt := 24) rfl (by decide) (fun hc5 => ?_) (fun hc5 => ?_)
  · have hE := ifP hc5 hE
    first | exact r_sb (Le_keepForUndo_b24_ok g N _ hD   _ _ _ _ hE) ⟨rfl, trivial⟩ | exact r_sb (Le_keepForUndo_b24_ok g N _ hD   _ _ _ _ hE) (by simp only [su1, su2, dr1_rf, dr1_in, dr1_lo, dr2_rf, dr2_in, dr2_lo]; exact ⟨rfl, trivial⟩)
  · have hE := ifN hc5 hE
    refine r_aload_n (t := v2) 1 rfl rfl rfl ?_
    refine r_aload_n (t := some a0) 0 rfl rfl rfl ?_
    obtain ⟨hk6, hE⟩ := ckE hE
    refine r_getR rfl (fl_10_48 rfl) (Or.inl ⟨_, rfl⟩) rfl hk6 ?_
    obtain ⟨a_7, ha8, hE⟩ := bnE hE
    obtain ⟨hk9, hE⟩ := ckE hE
    obtain ⟨v10, h11, hq12, hE⟩ := bdE hE
    refine r_callV0 (rest := []) (hc := (Ni_copy_ok g N _ _ _ _ _ hq12 D2 (by omega))) rfl pm_Ni_copy lw_10_183 im_Ni_copy sl_Ni_copy ha8 rfl rfl (rcOK hk9 rfl) (by decide) ?_
    first | exact r_sb (Le_keepForUndo_b24_ok g N _ hD   _ _ _ _ hE) ⟨rfl, trivial⟩ | exact r_sb (Le_keepForUndo_b24_ok g N _ hD   _ _ _ _ hE) (by simp only [su1, su2, dr1_rf, dr1_in, dr1_lo, dr2_rf, dr2_in, dr2_lo]; exact ⟨rfl, trivial⟩)
def Le_come (N : Nat) (a0 : Nat) (x1 : Int32) (h : PH) : Option (Bool × PH) :=
  ck ((hK h a0).1 = 10) <|
  ((hR h a0 6)).bind fun a_2 =>
  ck ((hK h a_2).1 = 3) <|
  bd (Ni_canCome N a_2 (hR h a0 1) x1 h) fun v5 h6 =>
  if (bI v5) = 0 then
    some (false, h6)
  else
    ck ((hK h6 a0).1 = 10) <|
    bd (Le_keepForUndo N a0 h6) fun v10 h11 =>
    ck ((hK h11 a0).1 = 10) <|
    ((hR h11 a0 6)).bind fun a_14 =>
    ck ((hK h11 a_14).1 = 3) <|
    bd (Ni_arrive N a_14 (hR h11 a0 1) x1 h11) fun v17 h18 =>
    some (true, h18)
set_option maxRecDepth 20000 in
theorem Le_come_ok (g : GT) (N : Nat) (a0 : Nat) (x1 : Int32) (h : PH) (v : Bool) (h' : PH) (hE : Le_come N a0 x1 h = some (v, h')) (D : Nat) (hD : 3 ≤ D) : Calls g D pLe_come [va_rf (some a0), .int x1] h (oZ v) h' := by
  refine Calls.of cok_Le_come ht_Le_come pl_Le_come (fun ad => by rw [lg_len, sL_cat]; simp only [List.map_cons, List.map_nil, rf_cat, cat_i, cat_l, List.sum_cons, List.sum_nil]; decide) ?_
  rw [show lv_args 0 [va_rf (some a0), .int x1] = [(0, va_rf (some a0)), (1, .int x1)] from (by simp only [lv_args, rf_cat, cat_i, cat_l]; try rfl)]
  obtain ⟨D2, rfl⟩ : ∃ d, D = d + 1 := ⟨D - 1, by omega⟩
  unfold Le_come at hE
  refine r_aload_n (t := some a0) 0 rfl rfl rfl ?_
  obtain ⟨hk1, hE⟩ := ckE hE
  refine r_getR rfl (fl_10_48 rfl) (Or.inl ⟨_, rfl⟩) rfl hk1 ?_
  refine r_aload_n (t := some a0) 0 rfl rfl rfl ?_
  refine r_getR rfl (fl_10_19 rfl) (Or.inl ⟨_, rfl⟩) rfl hk1 ?_
  refine r_iload_n 1 rfl rfl rfl ?_
  obtain ⟨a_2, ha3, hE⟩ := bnE hE
  obtain ⟨hk4, hE⟩ := ckE hE
  obtain ⟨v5, h6, hq7, hE⟩ := bdE hE
  refine r_callV1 (rest := []) (hc := (Ni_canCome_ok g N _ _ _ _ _ _ hq7 D2 (by omega))) rfl pm_Ni_canCome lw_10_141 im_Ni_canCome sl_Ni_canCome ha3 rfl rfl (rcOK hk4 rfl) (by decide) ?_
  refine r_if_ne (tgt := 17) rfl (by decide) (fun hc8 => ?_) (fun hc8 => ?_)
  · have hE := ifP hc8 hE
    refine r_iconst 0 rfl ci_0 ?_
    cases hE
    exact r_ret rfl (Or.inl ⟨rfl, _, _, rfl, rfl, rfl, rfl⟩)
  · have hE := ifN hc8 hE
    refine r_aload_n (t := some a0) 0 rfl rfl rfl ?_
    obtain ⟨hk9, hE⟩ := ckE hE
    obtain ⟨v10, h11, hq12, hE⟩ := bdE hE
    refine r_callV0 (rest := []) (hc := (Le_keepForUndo_ok g N _ _ _ _ hq12 D2 (by omega))) rfl pm_Le_keepForUndo lw_10_145 im_Le_keepForUndo sl_Le_keepForUndo rfl rfl rfl (rcOK hk9 rfl) (by decide) ?_
    refine r_aload_n (t := some a0) 0 rfl rfl rfl ?_
    obtain ⟨hk13, hE⟩ := ckE hE
    refine r_getR rfl (fl_10_48 rfl) (Or.inl ⟨_, rfl⟩) rfl hk13 ?_
    refine r_aload_n (t := some a0) 0 rfl rfl rfl ?_
    refine r_getR rfl (fl_10_19 rfl) (Or.inl ⟨_, rfl⟩) rfl hk13 ?_
    refine r_iload_n 1 rfl rfl rfl ?_
    obtain ⟨a_14, ha15, hE⟩ := bnE hE
    obtain ⟨hk16, hE⟩ := ckE hE
    obtain ⟨v17, h18, hq19, hE⟩ := bdE hE
    refine r_callV0 (rest := []) (hc := (Ni_arrive_ok g N _ _ _ _ _ _ hq19 D2 (by omega))) rfl pm_Ni_arrive lw_10_148 im_Ni_arrive sl_Ni_arrive ha15 rfl rfl (rcOK hk16 rfl) (by decide) ?_
    refine r_iconst 1 rfl ci_1 ?_
    cases hE
    exact r_ret rfl (Or.inl ⟨rfl, _, _, rfl, rfl, rfl, rfl⟩)
def Le_quarter (N : Nat) (a0 : Nat) (h : PH) : Option (Int32 × PH) :=
  ck ((hK h a0).1 = 10) <|
  ((hR h a0 6)).bind fun a_2 =>
  ck ((hK h a_2).1 = 3) <|
  bd (Ni_isOver N a_2 (hR h a0 1) h) fun v5 h6 =>
  if (bI v5) = 0 then
    ck ((hK h6 a0).1 = 10) <|
    bd (Le_keepForUndo N a0 h6) fun v10 h11 =>
    ck ((hK h11 a0).1 = 10) <|
    ((hR h11 a0 6)).bind fun a_14 =>
    ck ((hK h11 a_14).1 = 3) <|
    bd (Ni_pass N a_14 (hR h11 a0 1) h11) fun v17 h18 =>
    ck ((hK h18 a0).1 = 10) <|
    ((hR h18 a0 6)).bind fun a_21 =>
    ck ((hK h18 a_21).1 = 3) <|
    some ((hI h18 a_21 0), h18)
  else
    some ((-1), h6)
set_option maxRecDepth 20000 in
theorem Le_quarter_ok (g : GT) (N : Nat) (a0 : Nat) (h : PH) (v : Int32) (h' : PH) (hE : Le_quarter N a0 h = some (v, h')) (D : Nat) (hD : 5 ≤ D) : Calls g D pLe_quarter [va_rf (some a0)] h (oI v) h' := by
  refine Calls.of cok_Le_quarter ht_Le_quarter pl_Le_quarter (fun ad => by rw [lg_len, sL_cat]; simp only [List.map_cons, List.map_nil, rf_cat, cat_i, cat_l, List.sum_cons, List.sum_nil]; decide) ?_
  rw [show lv_args 0 [va_rf (some a0)] = [(0, va_rf (some a0))] from (by simp only [lv_args, rf_cat, cat_i, cat_l]; try rfl)]
  obtain ⟨D2, rfl⟩ : ∃ d, D = d + 1 := ⟨D - 1, by omega⟩
  unfold Le_quarter at hE
  refine r_aload_n (t := some a0) 0 rfl rfl rfl ?_
  obtain ⟨hk1, hE⟩ := ckE hE
  refine r_getR rfl (fl_10_48 rfl) (Or.inl ⟨_, rfl⟩) rfl hk1 ?_
  refine r_aload_n (t := some a0) 0 rfl rfl rfl ?_
  refine r_getR rfl (fl_10_19 rfl) (Or.inl ⟨_, rfl⟩) rfl hk1 ?_
  obtain ⟨a_2, ha3, hE⟩ := bnE hE
  obtain ⟨hk4, hE⟩ := ckE hE
  obtain ⟨v5, h6, hq7, hE⟩ := bdE hE
  refine r_callV1 (rest := []) (hc := (Ni_isOver_ok g N _ _ _ _ _ hq7 D2 (by omega))) rfl pm_Ni_isOver lw_10_163 im_Ni_isOver sl_Ni_isOver ha3 rfl rfl (rcOK hk4 rfl) (by decide) ?_
  refine r_if_eq (tgt := 16) rfl (by decide) (fun hc8 => ?_) (fun hc8 => ?_)
  · have hE := ifP hc8 hE
    refine r_aload_n (t := some a0) 0 rfl rfl rfl ?_
    obtain ⟨hk9, hE⟩ := ckE hE
    obtain ⟨v10, h11, hq12, hE⟩ := bdE hE
    refine r_callV0 (rest := []) (hc := (Le_keepForUndo_ok g N _ _ _ _ hq12 D2 (by omega))) rfl pm_Le_keepForUndo lw_10_145 im_Le_keepForUndo sl_Le_keepForUndo rfl rfl rfl (rcOK hk9 rfl) (by decide) ?_
    refine r_aload_n (t := some a0) 0 rfl rfl rfl ?_
    obtain ⟨hk13, hE⟩ := ckE hE
    refine r_getR rfl (fl_10_48 rfl) (Or.inl ⟨_, rfl⟩) rfl hk13 ?_
    refine r_aload_n (t := some a0) 0 rfl rfl rfl ?_
    refine r_getR rfl (fl_10_19 rfl) (Or.inl ⟨_, rfl⟩) rfl hk13 ?_
    obtain ⟨a_14, ha15, hE⟩ := bnE hE
    obtain ⟨hk16, hE⟩ := ckE hE
    obtain ⟨v17, h18, hq19, hE⟩ := bdE hE
    refine r_callV0 (rest := []) (hc := (Ni_pass_ok g N _ _ _ _ _ hq19 D2 (by omega))) rfl pm_Ni_pass lw_10_167 im_Ni_pass sl_Ni_pass ha15 rfl rfl (rcOK hk16 rfl) (by decide) ?_
    refine r_aload_n (t := some a0) 0 rfl rfl rfl ?_
    obtain ⟨hk20, hE⟩ := ckE hE
    refine r_getR rfl (fl_10_48 rfl) (Or.inl ⟨_, rfl⟩) rfl hk20 ?_
    obtain ⟨a_21, ha22, hE⟩ := bnE hE
    obtain ⟨hk23, hE⟩ := ckE hE
    refine r_getI rfl (fl_10_170 rfl) (Or.inl rfl) ha22 hk23 ?_
    cases hE
    exact r_ret rfl (Or.inl ⟨rfl, _, _, rfl, rfl, rfl, rfl⟩)
  · have hE := ifN hc8 hE
    refine r_iconst (-1) rfl ci_m1 ?_
    cases hE
    exact r_ret rfl (Or.inl ⟨rfl, _, _, rfl, rfl, rfl, rfl⟩)
def Le_isOpen (N : Nat) (a0 : Nat) (h : PH) : Option (Bool × PH) :=
  ck ((hK h a0).1 = 10) <|
  ((hR h a0 6)).bind fun a_2 =>
  ck ((hK h a_2).1 = 3) <|
  if (bI (hZ h a_2 10)) = 0 then
    some (false, h)
  else
    bd (Ni_isOver N a_2 (hR h a0 1) h) fun v6 h7 =>
    if (bI v6) = 0 then
      some (true, h7)
    else
      some (false, h7)
set_option maxRecDepth 20000 in
theorem Le_isOpen_ok (g : GT) (N : Nat) (a0 : Nat) (h : PH) (v : Bool) (h' : PH) (hE : Le_isOpen N a0 h = some (v, h')) (D : Nat) (hD : 1 ≤ D) : Calls g D pLe_isOpen [va_rf (some a0)] h (oZ v) h' := by
  refine Calls.of cok_Le_isOpen ht_Le_isOpen pl_Le_isOpen (fun ad => by rw [lg_len, sL_cat]; simp only [List.map_cons, List.map_nil, rf_cat, cat_i, cat_l, List.sum_cons, List.sum_nil]; decide) ?_
  rw [show lv_args 0 [va_rf (some a0)] = [(0, va_rf (some a0))] from (by simp only [lv_args, rf_cat, cat_i, cat_l]; try rfl)]
  obtain ⟨D2, rfl⟩ : ∃ d, D = d + 1 := ⟨D - 1, by omega⟩
  unfold Le_isOpen at hE
  refine r_aload_n (t := some a0) 0 rfl rfl rfl ?_
  obtain ⟨hk1, hE⟩ := ckE hE
  refine r_getR rfl (fl_10_48 rfl) (Or.inl ⟨_, rfl⟩) rfl hk1 ?_
  obtain ⟨a_2, ha3, hE⟩ := bnE hE
  obtain ⟨hk4, hE⟩ := ckE hE
  refine r_getZ rfl (fl_10_249 rfl) ha3 hk4 ?_
  refine r_if_eq (tgt := 28) rfl (by decide) (fun hc5 => ?_) (fun hc5 => ?_)
  · have hE := ifP hc5 hE
    refine r_iconst 0 rfl ci_0 ?_
    cases hE
    exact r_ret rfl (Or.inl ⟨rfl, _, _, rfl, rfl, rfl, rfl⟩)
  · have hE := ifN hc5 hE
    refine r_aload_n (t := some a0) 0 rfl rfl rfl ?_
    refine r_getR rfl (fl_10_48 rfl) (Or.inl ⟨_, rfl⟩) rfl hk1 ?_
    refine r_aload_n (t := some a0) 0 rfl rfl rfl ?_
    refine r_getR rfl (fl_10_19 rfl) (Or.inl ⟨_, rfl⟩) rfl hk1 ?_
    obtain ⟨v6, h7, hq8, hE⟩ := bdE hE
    refine r_callV1 (rest := []) (hc := (Ni_isOver_ok g N _ _ _ _ _ hq8 D2 (by omega))) rfl pm_Ni_isOver lw_10_163 im_Ni_isOver sl_Ni_isOver ha3 rfl rfl (rcOK hk4 rfl) (by decide) ?_
    refine r_if_ne (tgt := 28) rfl (by decide) (fun hc9 => ?_) (fun hc9 => ?_)
    · have hE := ifP hc9 hE
      refine r_iconst 1 rfl ci_1 ?_
      refine r_goto (tgt := 29) rfl (by decide) ?_
      cases hE
      exact r_ret rfl (Or.inl ⟨rfl, _, _, rfl, rfl, rfl, rfl⟩)
    · have hE := ifN hc9 hE
      refine r_iconst 0 rfl ci_0 ?_
      cases hE
      exact r_ret rfl (Or.inl ⟨rfl, _, _, rfl, rfl, rfl, rfl⟩)
def Le_off (N : Nat) (a0 : Nat) (h : PH) : Option (Bool × PH) :=
  ck ((hK h a0).1 = 10) <|
  bd (Le_isOpen N a0 h) fun v2 h3 =>
  if (bI v2) = 0 then
    some (false, h3)
  else
    ck ((hK h3 a0).1 = 10) <|
    bd (Le_keepForUndo N a0 h3) fun v7 h8 =>
    ck ((hK h8 a0).1 = 10) <|
    ((hR h8 a0 6)).bind fun a_11 =>
    ck ((hK h8 a_11).1 = 3) <|
    bd (Ni_darken N a_11 h8) fun v14 h15 =>
    some (true, h15)
set_option maxRecDepth 20000 in
theorem Le_off_ok (g : GT) (N : Nat) (a0 : Nat) (h : PH) (v : Bool) (h' : PH) (hE : Le_off N a0 h = some (v, h')) (D : Nat) (hD : 2 ≤ D) : Calls g D pLe_off [va_rf (some a0)] h (oZ v) h' := by
  refine Calls.of cok_Le_off ht_Le_off pl_Le_off (fun ad => by rw [lg_len, sL_cat]; simp only [List.map_cons, List.map_nil, rf_cat, cat_i, cat_l, List.sum_cons, List.sum_nil]; decide) ?_
  rw [show lv_args 0 [va_rf (some a0)] = [(0, va_rf (some a0))] from (by simp only [lv_args, rf_cat, cat_i, cat_l]; try rfl)]
  obtain ⟨D2, rfl⟩ : ∃ d, D = d + 1 := ⟨D - 1, by omega⟩
  unfold Le_off at hE
  refine r_aload_n (t := some a0) 0 rfl rfl rfl ?_
  obtain ⟨hk1, hE⟩ := ckE hE
  obtain ⟨v2, h3, hq4, hE⟩ := bdE hE
  refine r_callV1 (rest := []) (hc := (Le_isOpen_ok g N _ _ _ _ hq4 D2 (by omega))) rfl pm_Le_isOpen lw_10_173 im_Le_isOpen sl_Le_isOpen rfl rfl rfl (rcOK hk1 rfl) (by decide) ?_
  refine r_if_ne (tgt := 9) rfl (by decide) (fun hc5 => ?_) (fun hc5 => ?_)
  · have hE := ifP hc5 hE
    refine r_iconst 0 rfl ci_0 ?_
    cases hE
    exact r_ret rfl (Or.inl ⟨rfl, _, _, rfl, rfl, rfl, rfl⟩)
  · have hE := ifN hc5 hE
    refine r_aload_n (t := some a0) 0 rfl rfl rfl ?_
    obtain ⟨hk6, hE⟩ := ckE hE
    obtain ⟨v7, h8, hq9, hE⟩ := bdE hE
    refine r_callV0 (rest := []) (hc := (Le_keepForUndo_ok g N _ _ _ _ hq9 D2 (by omega))) rfl pm_Le_keepForUndo lw_10_145 im_Le_keepForUndo sl_Le_keepForUndo rfl rfl rfl (rcOK hk6 rfl) (by decide) ?_
    refine r_aload_n (t := some a0) 0 rfl rfl rfl ?_
    obtain ⟨hk10, hE⟩ := ckE hE
    refine r_getR rfl (fl_10_48 rfl) (Or.inl ⟨_, rfl⟩) rfl hk10 ?_
    obtain ⟨a_11, ha12, hE⟩ := bnE hE
    obtain ⟨hk13, hE⟩ := ckE hE
    obtain ⟨v14, h15, hq16, hE⟩ := bdE hE
    refine r_callV0 (rest := []) (hc := (Ni_darken_ok g N _ _ _ _ hq16 D2 (by omega))) rfl pm_Ni_darken lw_10_176 im_Ni_darken sl_Ni_darken ha12 rfl rfl (rcOK hk13 rfl) (by decide) ?_
    refine r_iconst 1 rfl ci_1 ?_
    cases hE
    exact r_ret rfl (Or.inl ⟨rfl, _, _, rfl, rfl, rfl, rfl⟩)
def Le_undo (N : Nat) (a0 : Nat) (h : PH) : Option (Bool × PH) :=
  ck ((hK h a0).1 = 10) <|
  if 0 < (hI h a0 10) then
    ck (¬ (16 : Int32) = 0) <|
    lt0 (wI h a0 9 ((((hI h a0 9) + 16) - 1) - (((hI h a0 9) + 16) - 1) / 16 * 16)) fun h4 =>
    lt0 (wI h4 a0 10 ((hI h4 a0 10) - 1)) fun h6 =>
    bd (Le_nightAt N (hR h6 a0 8) (hI h6 a0 9) h6) fun v8 h9 =>
    ((hR h6 a0 6)).bind fun a_11 =>
    ck ((hK h9 a_11).1 = 3) <|
    bd (Ni_copy N a_11 v8 h9) fun v14 h15 =>
    some (true, h15)
  else
    some (false, h)
set_option maxRecDepth 20000 in
theorem Le_undo_ok (g : GT) (N : Nat) (a0 : Nat) (h : PH) (v : Bool) (h' : PH) (hE : Le_undo N a0 h = some (v, h')) (D : Nat) (hD : 1 ≤ D) : Calls g D pLe_undo [va_rf (some a0)] h (oZ v) h' := by
  refine Calls.of cok_Le_undo ht_Le_undo pl_Le_undo (fun ad => by rw [lg_len, sL_cat]; simp only [List.map_cons, List.map_nil, rf_cat, cat_i, cat_l, List.sum_cons, List.sum_nil]; decide) ?_
  rw [show lv_args 0 [va_rf (some a0)] = [(0, va_rf (some a0))] from (by simp only [lv_args, rf_cat, cat_i, cat_l]; try rfl)]
  obtain ⟨D2, rfl⟩ : ∃ d, D = d + 1 := ⟨D - 1, by omega⟩
  unfold Le_undo at hE
  refine r_aload_n (t := some a0) 0 rfl rfl rfl ?_
  obtain ⟨hk1, hE⟩ := ckE hE
  refine r_getI rfl (fl_10_63 rfl) (Or.inl rfl) rfl hk1 ?_
  refine r_if_gt (tgt := 9) rfl (by decide) (fun hc2 => ?_) (fun hc2 => ?_)
  · have hE := ifP hc2 hE
    refine r_aload_n (t := some a0) 0 rfl rfl rfl ?_
    refine r_aload_n (t := some a0) 0 rfl rfl rfl ?_
    refine r_getI rfl (fl_10_59 rfl) (Or.inl rfl) rfl hk1 ?_
    refine r_bipush 16 rfl cb_16 ?_
    refine r_iadd rfl ?_
    refine r_iconst 1 rfl ci_1 ?_
    refine r_isub rfl ?_
    refine r_bipush 16 rfl cb_16 ?_
    obtain ⟨hc3, hE⟩ := ckE hE
    refine r_irem rfl hc3 ?_
    obtain ⟨h4, he5, hE⟩ := ltE hE
    refine r_putI rfl (fl_10_59 rfl) finF rfl hk1 he5 ?_
    refine r_aload_n (t := some a0) 0 rfl rfl rfl ?_
    refine r_dup rfl (rf_cat _) ?_
    refine r_getI rfl (fl_10_63 rfl) (Or.inl rfl) rfl (kwI he5 hk1) ?_
    refine r_iconst 1 rfl ci_1 ?_
    refine r_isub rfl ?_
    obtain ⟨h6, he7, hE⟩ := ltE hE
    refine r_putI rfl (fl_10_63 rfl) finF rfl (kwI he5 hk1) he7 ?_
    refine r_aload_n (t := some a0) 0 rfl rfl rfl ?_
    refine r_getR rfl (fl_10_48 rfl) (Or.inl ⟨_, rfl⟩) rfl (kwI he7 (kwI he5 hk1)) ?_
    refine r_aload_n (t := some a0) 0 rfl rfl rfl ?_
    refine r_getR rfl (fl_10_55 rfl) (Or.inr ⟨_, rfl⟩) rfl (kwI he7 (kwI he5 hk1)) ?_
    refine r_aload_n (t := some a0) 0 rfl rfl rfl ?_
    refine r_getI rfl (fl_10_59 rfl) (Or.inl rfl) rfl (kwI he7 (kwI he5 hk1)) ?_
    obtain ⟨v8, h9, hq10, hE⟩ := bdE hE
    refine r_callS1 (rest := [va_rf (hR h6 a0 6)]) (hc := (Le_nightAt_ok g N _ _ _ _ _ hq10 D2 (by omega))) rfl pm_Le_nightAt lw_10_179 st_Le_nightAt rfl rfl (by simp only [List.map_cons, List.map_nil, rf_cat, cat_i, cat_l, List.sum_cons, List.sum_nil]; decide) ?_
    obtain ⟨a_11, ha12, hE⟩ := bnE hE
    obtain ⟨hk13, hE⟩ := ckE hE
    obtain ⟨v14, h15, hq16, hE⟩ := bdE hE
    refine r_callV0 (rest := []) (hc := (Ni_copy_ok g N _ _ _ _ _ hq16 D2 (by omega))) rfl pm_Ni_copy lw_10_183 im_Ni_copy sl_Ni_copy ha12 rfl rfl (rcOK hk13 rfl) (by decide) ?_
    refine r_iconst 1 rfl ci_1 ?_
    cases hE
    exact r_ret rfl (Or.inl ⟨rfl, _, _, rfl, rfl, rfl, rfl⟩)
  · have hE := ifN hc2 hE
    refine r_iconst 0 rfl ci_0 ?_
    cases hE
    exact r_ret rfl (Or.inl ⟨rfl, _, _, rfl, rfl, rfl, rfl⟩)
def Le_best (N : Nat) (a0 : Nat) (x1 : Int32) (h : PH) : Option (Int32 × PH) :=
  if x1 < 1 then
    some ((-1), h)
  else
    if 4 < x1 then
      some ((-1), h)
    else
      ck ((hK h a0).1 = 10) <|
      bd (Le_isOpen N a0 h) fun v4 h5 =>
      if (bI v4) = 0 then
        some ((-1), h5)
      else
        ck ((hK h5 a0).1 = 10) <|
        ((hR h5 a0 6)).bind fun a_9 =>
        ck ((hK h5 a_9).1 = 3) <|
        ((hR h5 a0 12)).bind fun a_12 =>
        ck ((hK h5 a_12).1 = 9) <|
        bd (Va_bestGive N a_12 (hI h5 a_9 0) (hI h5 a_9 1) (hI h5 a_9 2) x1 h5) fun v15 h16 =>
        some (v15, h16)
set_option maxRecDepth 20000 in
theorem Le_best_ok (g : GT) (N : Nat) (a0 : Nat) (x1 : Int32) (h : PH) (v : Int32) (h' : PH) (hE : Le_best N a0 x1 h = some (v, h')) (D : Nat) (hD : 8 ≤ D) : Calls g D pLe_best [va_rf (some a0), .int x1] h (oI v) h' := by
  refine Calls.of cok_Le_best ht_Le_best pl_Le_best (fun ad => by rw [lg_len, sL_cat]; simp only [List.map_cons, List.map_nil, rf_cat, cat_i, cat_l, List.sum_cons, List.sum_nil]; decide) ?_
  rw [show lv_args 0 [va_rf (some a0), .int x1] = [(0, va_rf (some a0)), (1, .int x1)] from (by simp only [lv_args, rf_cat, cat_i, cat_l]; try rfl)]
  obtain ⟨D2, rfl⟩ : ∃ d, D = d + 1 := ⟨D - 1, by omega⟩
  unfold Le_best at hE
  refine r_iload_n 1 rfl rfl rfl ?_
  refine r_iconst 1 rfl ci_1 ?_
  refine r_icmp_lt (tgt := 17) rfl (by decide) (fun hc1 => ?_) (fun hc1 => ?_)
  · have hE := ifP hc1 hE
    refine r_iconst (-1) rfl ci_m1 ?_
    cases hE
    exact r_ret rfl (Or.inl ⟨rfl, _, _, rfl, rfl, rfl, rfl⟩)
  · have hE := ifN hc1 hE
    refine r_iload_n 1 rfl rfl rfl ?_
    refine r_iconst 4 rfl ci_4 ?_
    refine r_icmp_gt (tgt := 17) rfl (by decide) (fun hc2 => ?_) (fun hc2 => ?_)
    · have hE := ifP hc2 hE
      refine r_iconst (-1) rfl ci_m1 ?_
      cases hE
      exact r_ret rfl (Or.inl ⟨rfl, _, _, rfl, rfl, rfl, rfl⟩)
    · have hE := ifN hc2 hE
      refine r_aload_n (t := some a0) 0 rfl rfl rfl ?_
      obtain ⟨hk3, hE⟩ := ckE hE
      obtain ⟨v4, h5, hq6, hE⟩ := bdE hE
      refine r_callV1 (rest := []) (hc := (Le_isOpen_ok g N _ _ _ _ hq6 D2 (by omega))) rfl pm_Le_isOpen lw_10_173 im_Le_isOpen sl_Le_isOpen rfl rfl rfl (rcOK hk3 rfl) (by decide) ?_
      refine r_if_ne (tgt := 19) rfl (by decide) (fun hc7 => ?_) (fun hc7 => ?_)
      · have hE := ifP hc7 hE
        refine r_iconst (-1) rfl ci_m1 ?_
        cases hE
        exact r_ret rfl (Or.inl ⟨rfl, _, _, rfl, rfl, rfl, rfl⟩)
      · have hE := ifN hc7 hE
        refine r_aload_n (t := some a0) 0 rfl rfl rfl ?_
        obtain ⟨hk8, hE⟩ := ckE hE
        refine r_getR rfl (fl_10_77 rfl) (Or.inl ⟨_, rfl⟩) rfl hk8 ?_
        refine r_aload_n (t := some a0) 0 rfl rfl rfl ?_
        refine r_getR rfl (fl_10_48 rfl) (Or.inl ⟨_, rfl⟩) rfl hk8 ?_
        obtain ⟨a_9, ha10, hE⟩ := bnE hE
        obtain ⟨hk11, hE⟩ := ckE hE
        refine r_getI rfl (fl_10_170 rfl) (Or.inl rfl) ha10 hk11 ?_
        refine r_aload_n (t := some a0) 0 rfl rfl rfl ?_
        refine r_getR rfl (fl_10_48 rfl) (Or.inl ⟨_, rfl⟩) rfl hk8 ?_
        refine r_getI rfl (fl_10_203 rfl) (Or.inl rfl) ha10 hk11 ?_
        refine r_aload_n (t := some a0) 0 rfl rfl rfl ?_
        refine r_getR rfl (fl_10_48 rfl) (Or.inl ⟨_, rfl⟩) rfl hk8 ?_
        refine r_getI rfl (fl_10_206 rfl) (Or.inl rfl) ha10 hk11 ?_
        refine r_iload_n 1 rfl rfl rfl ?_
        obtain ⟨a_12, ha13, hE⟩ := bnE hE
        obtain ⟨hk14, hE⟩ := ckE hE
        obtain ⟨v15, h16, hq17, hE⟩ := bdE hE
        refine r_callV1 (rest := []) (hc := (Va_bestGive_ok g N _ _ _ _ _ _ _ _ hq17 D2 (by omega))) rfl pm_Va_bestGive lw_10_212 im_Va_bestGive sl_Va_bestGive ha13 rfl rfl (rcOK hk14 rfl) (by decide) ?_
        cases hE
        exact r_ret rfl (Or.inl ⟨rfl, _, _, rfl, rfl, rfl, rfl⟩)
def Le_stay (N : Nat) (a0 : Nat) (h : PH) : Option (Int32 × PH) :=
  ck ((hK h a0).1 = 10) <|
  bd (Le_isOpen N a0 h) fun v2 h3 =>
  if (bI v2) = 0 then
    some ((-1), h3)
  else
    ck ((hK h3 a0).1 = 10) <|
    ((hR h3 a0 6)).bind fun a_7 =>
    ck ((hK h3 a_7).1 = 3) <|
    ((hR h3 a0 12)).bind fun a_10 =>
    ck ((hK h3 a_10).1 = 9) <|
    bd (Va_litWorth N a_10 (hI h3 a_7 0) (hI h3 a_7 1) (hI h3 a_7 2) (bI (hZ h3 a_7 12)) h3) fun v13 h14 =>
    ck ((hK h14 a0).1 = 10) <|
    ((hR h14 a0 6)).bind fun a_17 =>
    ck ((hK h14 a_17).1 = 3) <|
    ((hR h14 a0 1)).bind fun a_20 =>
    ck ((hK h14 a_20).1 = 0) <|
    bd (Ho_offWorth N a_20 (hI h14 a_17 0) (hI h14 a_17 1) h14) fun v23 h24 =>
    if v13 < v23 then
      some (0, h24)
    else
      some (1, h24)
set_option maxRecDepth 20000 in
theorem Le_stay_ok (g : GT) (N : Nat) (a0 : Nat) (h : PH) (v : Int32) (h' : PH) (hE : Le_stay N a0 h = some (v, h')) (D : Nat) (hD : 8 ≤ D) : Calls g D pLe_stay [va_rf (some a0)] h (oI v) h' := by
  refine Calls.of cok_Le_stay ht_Le_stay pl_Le_stay (fun ad => by rw [lg_len, sL_cat]; simp only [List.map_cons, List.map_nil, rf_cat, cat_i, cat_l, List.sum_cons, List.sum_nil]; decide) ?_
  rw [show lv_args 0 [va_rf (some a0)] = [(0, va_rf (some a0))] from (by simp only [lv_args, rf_cat, cat_i, cat_l]; try rfl)]
  obtain ⟨D2, rfl⟩ : ∃ d, D = d + 1 := ⟨D - 1, by omega⟩
  unfold Le_stay at hE
  refine r_aload_n (t := some a0) 0 rfl rfl rfl ?_
  obtain ⟨hk1, hE⟩ := ckE hE
  obtain ⟨v2, h3, hq4, hE⟩ := bdE hE
  refine r_callV1 (rest := []) (hc := (Le_isOpen_ok g N _ _ _ _ hq4 D2 (by omega))) rfl pm_Le_isOpen lw_10_173 im_Le_isOpen sl_Le_isOpen rfl rfl rfl (rcOK hk1 rfl) (by decide) ?_
  refine r_if_ne (tgt := 9) rfl (by decide) (fun hc5 => ?_) (fun hc5 => ?_)
  · have hE := ifP hc5 hE
    refine r_iconst (-1) rfl ci_m1 ?_
    cases hE
    exact r_ret rfl (Or.inl ⟨rfl, _, _, rfl, rfl, rfl, rfl⟩)
  · have hE := ifN hc5 hE
    refine r_aload_n (t := some a0) 0 rfl rfl rfl ?_
    obtain ⟨hk6, hE⟩ := ckE hE
    refine r_getR rfl (fl_10_77 rfl) (Or.inl ⟨_, rfl⟩) rfl hk6 ?_
    refine r_aload_n (t := some a0) 0 rfl rfl rfl ?_
    refine r_getR rfl (fl_10_48 rfl) (Or.inl ⟨_, rfl⟩) rfl hk6 ?_
    obtain ⟨a_7, ha8, hE⟩ := bnE hE
    obtain ⟨hk9, hE⟩ := ckE hE
    refine r_getI rfl (fl_10_170 rfl) (Or.inl rfl) ha8 hk9 ?_
    refine r_aload_n (t := some a0) 0 rfl rfl rfl ?_
    refine r_getR rfl (fl_10_48 rfl) (Or.inl ⟨_, rfl⟩) rfl hk6 ?_
    refine r_getI rfl (fl_10_203 rfl) (Or.inl rfl) ha8 hk9 ?_
    refine r_aload_n (t := some a0) 0 rfl rfl rfl ?_
    refine r_getR rfl (fl_10_48 rfl) (Or.inl ⟨_, rfl⟩) rfl hk6 ?_
    refine r_getI rfl (fl_10_206 rfl) (Or.inl rfl) ha8 hk9 ?_
    refine r_aload_n (t := some a0) 0 rfl rfl rfl ?_
    refine r_getR rfl (fl_10_48 rfl) (Or.inl ⟨_, rfl⟩) rfl hk6 ?_
    refine r_getZ rfl (fl_10_234 rfl) ha8 hk9 ?_
    obtain ⟨a_10, ha11, hE⟩ := bnE hE
    obtain ⟨hk12, hE⟩ := ckE hE
    obtain ⟨v13, h14, hq15, hE⟩ := bdE hE
    refine r_callV1 (rest := []) (hc := (Va_litWorth_ok g N _ _ _ _ _ _ _ _ hq15 D2 (by omega))) rfl pm_Va_litWorth lw_10_238 im_Va_litWorth sl_Va_litWorth ha11 rfl rfl (rcOK hk12 rfl) (by decide) ?_
    refine r_istore_n 1 rfl rfl (by decide) ?_
    refine r_iload_n 1 rfl rfl rfl ?_
    refine r_aload_n (t := some a0) 0 rfl rfl rfl ?_
    obtain ⟨hk16, hE⟩ := ckE hE
    refine r_getR rfl (fl_10_19 rfl) (Or.inl ⟨_, rfl⟩) rfl hk16 ?_
    refine r_aload_n (t := some a0) 0 rfl rfl rfl ?_
    refine r_getR rfl (fl_10_48 rfl) (Or.inl ⟨_, rfl⟩) rfl hk16 ?_
    obtain ⟨a_17, ha18, hE⟩ := bnE hE
    obtain ⟨hk19, hE⟩ := ckE hE
    refine r_getI rfl (fl_10_170 rfl) (Or.inl rfl) ha18 hk19 ?_
    refine r_aload_n (t := some a0) 0 rfl rfl rfl ?_
    refine r_getR rfl (fl_10_48 rfl) (Or.inl ⟨_, rfl⟩) rfl hk16 ?_
    refine r_getI rfl (fl_10_203 rfl) (Or.inl rfl) ha18 hk19 ?_
    obtain ⟨a_20, ha21, hE⟩ := bnE hE
    obtain ⟨hk22, hE⟩ := ckE hE
    obtain ⟨v23, h24, hq25, hE⟩ := bdE hE
    refine r_callV1 (rest := [.int v13]) (hc := (Ho_offWorth_ok g N _ _ _ _ _ _ hq25 D2 (by omega))) rfl pm_Ho_offWorth lw_10_241 im_Ho_offWorth sl_Ho_offWorth ha21 rfl rfl (rcOK hk22 rfl) (by simp only [List.map_cons, List.map_nil, rf_cat, cat_i, cat_l, List.sum_cons, List.sum_nil]; decide) ?_
    refine r_icmp_lt (tgt := 74) rfl (by decide) (fun hc26 => ?_) (fun hc26 => ?_)
    · have hE := ifP hc26 hE
      refine r_iconst 0 rfl ci_0 ?_
      cases hE
      exact r_ret rfl (Or.inl ⟨rfl, _, _, rfl, rfl, rfl, rfl⟩)
    · have hE := ifN hc26 hE
      refine r_iconst 1 rfl ci_1 ?_
      refine r_goto (tgt := 75) rfl (by decide) ?_
      cases hE
      exact r_ret rfl (Or.inl ⟨rfl, _, _, rfl, rfl, rfl, rfl⟩)
def Le_hasHabit (N : Nat) (a0 : Nat) (x1 : Int32) (h : PH) : Option (Bool × PH) :=
  if x1 < 0 then
    some (false, h)
  else
    ck ((hK h a0).1 = 10) <|
    ((hR h a0 1)).bind fun a_3 =>
    ck ((hK h a_3).1 = 0) <|
    if (hI h a_3 12) ≤ x1 then
      some (false, h)
    else
      some (true, h)
set_option maxRecDepth 20000 in
theorem Le_hasHabit_ok (g : GT) (N : Nat) (a0 : Nat) (x1 : Int32) (h : PH) (v : Bool) (h' : PH) (hE : Le_hasHabit N a0 x1 h = some (v, h')) (D : Nat) (hD : 0 ≤ D) : Calls g D pLe_hasHabit [va_rf (some a0), .int x1] h (oZ v) h' := by
  refine Calls.of cok_Le_hasHabit ht_Le_hasHabit pl_Le_hasHabit (fun ad => by rw [lg_len, sL_cat]; simp only [List.map_cons, List.map_nil, rf_cat, cat_i, cat_l, List.sum_cons, List.sum_nil]; decide) ?_
  rw [show lv_args 0 [va_rf (some a0), .int x1] = [(0, va_rf (some a0)), (1, .int x1)] from (by simp only [lv_args, rf_cat, cat_i, cat_l]; try rfl)]
  unfold Le_hasHabit at hE
  refine r_iload_n 1 rfl rfl rfl ?_
  refine r_if_lt (tgt := 19) rfl (by decide) (fun hc1 => ?_) (fun hc1 => ?_)
  · have hE := ifP hc1 hE
    refine r_iconst 0 rfl ci_0 ?_
    cases hE
    exact r_ret rfl (Or.inl ⟨rfl, _, _, rfl, rfl, rfl, rfl⟩)
  · have hE := ifN hc1 hE
    refine r_iload_n 1 rfl rfl rfl ?_
    refine r_aload_n (t := some a0) 0 rfl rfl rfl ?_
    obtain ⟨hk2, hE⟩ := ckE hE
    refine r_getR rfl (fl_10_19 rfl) (Or.inl ⟨_, rfl⟩) rfl hk2 ?_
    obtain ⟨a_3, ha4, hE⟩ := bnE hE
    obtain ⟨hk5, hE⟩ := ckE hE
    refine r_getI rfl (fl_10_267 rfl) (Or.inl rfl) ha4 hk5 ?_
    refine r_icmp_ge (tgt := 19) rfl (by decide) (fun hc6 => ?_) (fun hc6 => ?_)
    · have hE := ifP hc6 hE
      refine r_iconst 0 rfl ci_0 ?_
      cases hE
      exact r_ret rfl (Or.inl ⟨rfl, _, _, rfl, rfl, rfl, rfl⟩)
    · have hE := ifN hc6 hE
      refine r_iconst 1 rfl ci_1 ?_
      refine r_goto (tgt := 20) rfl (by decide) ?_
      cases hE
      exact r_ret rfl (Or.inl ⟨rfl, _, _, rfl, rfl, rfl, rfl⟩)
def Le_close_b93 (N : Nat) (self_53 : Nat → Int32 → Int32 → Int32 → Int32 → PH → Option (Int32 × PH)) (a0 : Nat) (x1 : Int32) (x2 : Int32) (x3 : Int32) (x4 : Int32) (h : PH) : Option (Int32 × PH) :=
  self_53 a0 x1 x2 x3 (x4 + 1) h
set_option maxRecDepth 20000 in
theorem Le_close_b93_ok (g : GT) (N : Nat) (D : Nat) (hD : 67 ≤ D) (self_53 : Nat → Int32 → Int32 → Int32 → Int32 → PH → Option (Int32 × PH)) (hself_53 : ∀ (a0 : Nat) (x1 : Int32) (x2 : Int32) (x3 : Int32) (x4 : Int32) (h : PH) (v : Int32) (h' : PH), self_53 a0 x1 x2 x3 x4 h = some (v, h') → Run g pLe_close D 53 [(0, va_rf (some a0)), (1, .int x1), (2, .int x2), (3, .int x3), (4, .int x4)] [] h (rI v) h') : ∀ (a0 : Nat) (x1 : Int32) (x2 : Int32) (x3 : Int32) (x4 : Int32) (h : PH) (v : Int32) (h' : PH), Le_close_b93 N self_53 a0 x1 x2 x3 x4 h = some (v, h') → Run g pLe_close D 93 [(0, va_rf (some a0)), (1, .int x1), (2, .int x2), (3, .int x3), (4, .int x4)] [] h (rI v) h' := by
  obtain ⟨D2, rfl⟩ : ∃ d, D = d + 1 := ⟨D - 1, by omega⟩
  intro a0 x1 x2 x3 x4 h v h' hE
  unfold Le_close_b93 at hE
  refine r_iinc _ rfl rfl (congrArg _ ci_1) (by decide) ?_
  refine r_goto (tgt := 53) rfl (by decide) ?_
  first | exact r_sb (hself_53 _ _ _ _ _ _ _ _ hE) ⟨rfl, rfl, rfl, rfl, rfl, trivial⟩ | exact r_sb (hself_53 _ _ _ _ _ _ _ _ hE) (by simp only [su1, su2, dr1_rf, dr1_in, dr1_lo, dr2_rf, dr2_in, dr2_lo]; exact ⟨rfl, rfl, rfl, rfl, rfl, trivial⟩)
def Le_close_b53 (N : Nat) : Nat → Nat → Int32 → Int32 → Int32 → Int32 → PH → Option (Int32 × PH)
  | 0 => fun _ _ _ _ _ _ => none
  | n + 1 => fun a0 x1 x2 x3 x4 h =>
    ck ((hK h a0).1 = 10) <|
    ((hR h a0 1)).bind fun a_2 =>
    ck ((hK h a_2).1 = 0) <|
    if (hI h a_2 0) < x4 then
      some (x2, h)
    else
      ((hR h a0 15)).bind fun a_6 =>
      ck ((hK h a_6).1 = 2) <|
      bd (Me_worthOf N a_6 x1 x4 (hR h a0 6) h) fun v9 h10 =>
      if v9 ≤ x3 then
        Le_close_b93 N (Le_close_b53 N n)  a0 x1 x2 x3 x4 h10
      else
        Le_close_b93 N (Le_close_b53 N n)  a0 x1 x4 v9 x4 h10
set_option maxRecDepth 20000 in
theorem Le_close_b53_ok (g : GT) (N : Nat) (D : Nat) (hD : 67 ≤ D) : ∀ (n : Nat) (a0 : Nat) (x1 : Int32) (x2 : Int32) (x3 : Int32) (x4 : Int32) (h : PH) (v : Int32) (h' : PH), Le_close_b53 N n a0 x1 x2 x3 x4 h = some (v, h') → Run g pLe_close D 53 [(0, va_rf (some a0)), (1, .int x1), (2, .int x2), (3, .int x3), (4, .int x4)] [] h (rI v) h' := by
  obtain ⟨D2, rfl⟩ : ∃ d, D = d + 1 := ⟨D - 1, by omega⟩
  intro n
  induction n with
  | zero => exact fun _ _ _ _ _ _ _ _ hE => nomatch (show none = some _ from hE)
  | succ n ih =>
    intro a0 x1 x2 x3 x4 h v h' hE
    unfold Le_close_b53 at hE
    refine r_iload rfl rfl ?_
    refine r_aload_n (t := some a0) 0 rfl rfl rfl ?_
    obtain ⟨hk1, hE⟩ := ckE hE
    refine r_getR rfl (fl_10_19 rfl) (Or.inl ⟨_, rfl⟩) rfl hk1 ?_
    obtain ⟨a_2, ha3, hE⟩ := bnE hE
    obtain ⟨hk4, hE⟩ := ckE hE
    refine r_getI rfl (fl_10_134 rfl) (Or.inl rfl) ha3 hk4 ?_
    refine r_icmp_gt (tgt := 99) rfl (by decide) (fun hc5 => ?_) (fun hc5 => ?_)
    · have hE := ifP hc5 hE
      refine r_iload_n 2 rfl rfl rfl ?_
      cases hE
      exact r_ret rfl (Or.inl ⟨rfl, _, _, rfl, rfl, rfl, rfl⟩)
    · have hE := ifN hc5 hE
      refine r_aload_n (t := some a0) 0 rfl rfl rfl ?_
      refine r_getR rfl (fl_10_92 rfl) (Or.inl ⟨_, rfl⟩) rfl hk1 ?_
      refine r_iload_n 1 rfl rfl rfl ?_
      refine r_iload rfl rfl ?_
      refine r_aload_n (t := some a0) 0 rfl rfl rfl ?_
      refine r_getR rfl (fl_10_48 rfl) (Or.inl ⟨_, rfl⟩) rfl hk1 ?_
      obtain ⟨a_6, ha7, hE⟩ := bnE hE
      obtain ⟨hk8, hE⟩ := ckE hE
      obtain ⟨v9, h10, hq11, hE⟩ := bdE hE
      refine r_callV1 (rest := []) (hc := (Me_worthOf_ok g N _ _ _ _ _ _ _ hq11 D2 (by omega))) rfl pm_Me_worthOf lw_10_252 im_Me_worthOf sl_Me_worthOf ha7 rfl rfl (rcOK hk8 rfl) (by decide) ?_
      refine r_istore rfl (by decide) ?_
      refine r_iload rfl rfl ?_
      refine r_iload_n 3 rfl rfl rfl ?_
      refine r_icmp_le (tgt := 93) rfl (by decide) (fun hc12 => ?_) (fun hc12 => ?_)
      · have hE := ifP hc12 hE
        first | exact r_sb (Le_close_b93_ok g N _ hD _ ih  _ _ _ _ _ _ _ _ hE) ⟨rfl, rfl, rfl, rfl, rfl, trivial⟩ | exact r_sb (Le_close_b93_ok g N _ hD _ ih  _ _ _ _ _ _ _ _ hE) (by simp only [su1, su2, dr1_rf, dr1_in, dr1_lo, dr2_rf, dr2_in, dr2_lo]; exact ⟨rfl, rfl, rfl, rfl, rfl, trivial⟩)
      · have hE := ifN hc12 hE
        refine r_iload rfl rfl ?_
        refine r_istore_n 3 rfl rfl (by decide) ?_
        refine r_iload rfl rfl ?_
        refine r_istore_n 2 rfl rfl (by decide) ?_
        first | exact r_sb (Le_close_b93_ok g N _ hD _ ih  _ _ _ _ _ _ _ _ hE) ⟨rfl, rfl, rfl, rfl, rfl, trivial⟩ | exact r_sb (Le_close_b93_ok g N _ hD _ ih  _ _ _ _ _ _ _ _ hE) (by simp only [su1, su2, dr1_rf, dr1_in, dr1_lo, dr2_rf, dr2_in, dr2_lo]; exact ⟨rfl, rfl, rfl, rfl, rfl, trivial⟩)
def Le_close (N : Nat) (a0 : Nat) (x1 : Int32) (h : PH) : Option (Int32 × PH) :=
  ck ((hK h a0).1 = 10) <|
  bd (Le_hasHabit N a0 x1 h) fun v2 h3 =>
  if (bI v2) = 0 then
    some ((-1), h3)
  else
    ck ((hK h3 a0).1 = 10) <|
    ((hR h3 a0 6)).bind fun a_7 =>
    ck ((hK h3 a_7).1 = 3) <|
    if (bI (hZ h3 a_7 10)) = 0 then
      some ((-1), h3)
    else
      ((hR h3 a0 15)).bind fun a_11 =>
      ck ((hK h3 a_11).1 = 2) <|
      bd (Me_worthOf N a_11 x1 (hI h3 a_7 0) (hR h3 a0 6) h3) fun v14 h15 =>
      ck ((hK h15 a0).1 = 10) <|
      ((hR h15 a0 6)).bind fun a_18 =>
      ck ((hK h15 a_18).1 = 3) <|
      Le_close_b53 N N a0 x1 (hI h3 a_7 0) v14 ((hI h15 a_18 0) + 1) h15
set_option maxRecDepth 20000 in
theorem Le_close_ok (g : GT) (N : Nat) (a0 : Nat) (x1 : Int32) (h : PH) (v : Int32) (h' : PH) (hE : Le_close N a0 x1 h = some (v, h')) (D : Nat) (hD : 67 ≤ D) : Calls g D pLe_close [va_rf (some a0), .int x1] h (oI v) h' := by
  refine Calls.of cok_Le_close ht_Le_close pl_Le_close (fun ad => by rw [lg_len, sL_cat]; simp only [List.map_cons, List.map_nil, rf_cat, cat_i, cat_l, List.sum_cons, List.sum_nil]; decide) ?_
  rw [show lv_args 0 [va_rf (some a0), .int x1] = [(0, va_rf (some a0)), (1, .int x1)] from (by simp only [lv_args, rf_cat, cat_i, cat_l]; try rfl)]
  obtain ⟨D2, rfl⟩ : ∃ d, D = d + 1 := ⟨D - 1, by omega⟩
  unfold Le_close at hE
  refine r_aload_n (t := some a0) 0 rfl rfl rfl ?_
  refine r_iload_n 1 rfl rfl rfl ?_
  obtain ⟨hk1, hE⟩ := ckE hE
  obtain ⟨v2, h3, hq4, hE⟩ := bdE hE
  refine r_callV1 (rest := []) (hc := (Le_hasHabit_ok g N _ _ _ _ _ hq4 D2 (by omega))) rfl pm_Le_hasHabit lw_10_245 im_Le_hasHabit sl_Le_hasHabit rfl rfl rfl (rcOK hk1 rfl) (by decide) ?_
  refine r_if_eq (tgt := 18) rfl (by decide) (fun hc5 => ?_) (fun hc5 => ?_)
  · have hE := ifP hc5 hE
    refine r_iconst (-1) rfl ci_m1 ?_
    cases hE
    exact r_ret rfl (Or.inl ⟨rfl, _, _, rfl, rfl, rfl, rfl⟩)
  · have hE := ifN hc5 hE
    refine r_aload_n (t := some a0) 0 rfl rfl rfl ?_
    obtain ⟨hk6, hE⟩ := ckE hE
    refine r_getR rfl (fl_10_48 rfl) (Or.inl ⟨_, rfl⟩) rfl hk6 ?_
    obtain ⟨a_7, ha8, hE⟩ := bnE hE
    obtain ⟨hk9, hE⟩ := ckE hE
    refine r_getZ rfl (fl_10_249 rfl) ha8 hk9 ?_
    refine r_if_ne (tgt := 20) rfl (by decide) (fun hc10 => ?_) (fun hc10 => ?_)
    · have hE := ifP hc10 hE
      refine r_iconst (-1) rfl ci_m1 ?_
      cases hE
      exact r_ret rfl (Or.inl ⟨rfl, _, _, rfl, rfl, rfl, rfl⟩)
    · have hE := ifN hc10 hE
      refine r_aload_n (t := some a0) 0 rfl rfl rfl ?_
      refine r_getR rfl (fl_10_48 rfl) (Or.inl ⟨_, rfl⟩) rfl hk6 ?_
      refine r_getI rfl (fl_10_170 rfl) (Or.inl rfl) ha8 hk9 ?_
      refine r_istore_n 2 rfl rfl (by decide) ?_
      refine r_aload_n (t := some a0) 0 rfl rfl rfl ?_
      refine r_getR rfl (fl_10_92 rfl) (Or.inl ⟨_, rfl⟩) rfl hk6 ?_
      refine r_iload_n 1 rfl rfl rfl ?_
      refine r_iload_n 2 rfl rfl rfl ?_
      refine r_aload_n (t := some a0) 0 rfl rfl rfl ?_
      refine r_getR rfl (fl_10_48 rfl) (Or.inl ⟨_, rfl⟩) rfl hk6 ?_
      obtain ⟨a_11, ha12, hE⟩ := bnE hE
      obtain ⟨hk13, hE⟩ := ckE hE
      obtain ⟨v14, h15, hq16, hE⟩ := bdE hE
      refine r_callV1 (rest := []) (hc := (Me_worthOf_ok g N _ _ _ _ _ _ _ hq16 D2 (by omega))) rfl pm_Me_worthOf lw_10_252 im_Me_worthOf sl_Me_worthOf ha12 rfl rfl (rcOK hk13 rfl) (by decide) ?_
      refine r_istore_n 3 rfl rfl (by decide) ?_
      refine r_aload_n (t := some a0) 0 rfl rfl rfl ?_
      obtain ⟨hk17, hE⟩ := ckE hE
      refine r_getR rfl (fl_10_48 rfl) (Or.inl ⟨_, rfl⟩) rfl hk17 ?_
      obtain ⟨a_18, ha19, hE⟩ := bnE hE
      obtain ⟨hk20, hE⟩ := ckE hE
      refine r_getI rfl (fl_10_170 rfl) (Or.inl rfl) ha19 hk20 ?_
      refine r_iconst 1 rfl ci_1 ?_
      refine r_iadd rfl ?_
      refine r_istore rfl (by decide) ?_
      first | exact r_sb (Le_close_b53_ok g N _ hD  N _ _ _ _ _ _ _ _ hE) ⟨rfl, rfl, rfl, rfl, rfl, trivial⟩ | exact r_sb (Le_close_b53_ok g N _ hD  N _ _ _ _ _ _ _ _ hE) (by simp only [su1, su2, dr1_rf, dr1_in, dr1_lo, dr2_rf, dr2_in, dr2_lo]; exact ⟨rfl, rfl, rfl, rfl, rfl, trivial⟩)
def Le_surely (N : Nat) (a0 : Nat) (x1 : Int32) (h : PH) : Option (Int32 × PH) :=
  if x1 < 1 then
    some ((-1), h)
  else
    if 3 < x1 then
      some ((-1), h)
    else
      ck ((hK h a0).1 = 10) <|
      ((hR h a0 6)).bind fun a_4 =>
      ck ((hK h a_4).1 = 3) <|
      if (bI (hZ h a_4 10)) = 0 then
        some ((-1), h)
      else
        ((hR h a0 17)).bind fun a_8 =>
        ck ((hK h a_8).1 = 7) <|
        bd (Sh_sureness N a_8 x1 (hR h a0 6) h) fun v11 h12 =>
        some (v11, h12)
set_option maxRecDepth 20000 in
theorem Le_surely_ok (g : GT) (N : Nat) (a0 : Nat) (x1 : Int32) (h : PH) (v : Int32) (h' : PH) (hE : Le_surely N a0 x1 h = some (v, h')) (D : Nat) (hD : 5 ≤ D) : Calls g D pLe_surely [va_rf (some a0), .int x1] h (oI v) h' := by
  refine Calls.of cok_Le_surely ht_Le_surely pl_Le_surely (fun ad => by rw [lg_len, sL_cat]; simp only [List.map_cons, List.map_nil, rf_cat, cat_i, cat_l, List.sum_cons, List.sum_nil]; decide) ?_
  rw [show lv_args 0 [va_rf (some a0), .int x1] = [(0, va_rf (some a0)), (1, .int x1)] from (by simp only [lv_args, rf_cat, cat_i, cat_l]; try rfl)]
  obtain ⟨D2, rfl⟩ : ∃ d, D = d + 1 := ⟨D - 1, by omega⟩
  unfold Le_surely at hE
  refine r_iload_n 1 rfl rfl rfl ?_
  refine r_iconst 1 rfl ci_1 ?_
  refine r_icmp_lt (tgt := 20) rfl (by decide) (fun hc1 => ?_) (fun hc1 => ?_)
  · have hE := ifP hc1 hE
    refine r_iconst (-1) rfl ci_m1 ?_
    cases hE
    exact r_ret rfl (Or.inl ⟨rfl, _, _, rfl, rfl, rfl, rfl⟩)
  · have hE := ifN hc1 hE
    refine r_iload_n 1 rfl rfl rfl ?_
    refine r_iconst 3 rfl ci_3 ?_
    refine r_icmp_gt (tgt := 20) rfl (by decide) (fun hc2 => ?_) (fun hc2 => ?_)
    · have hE := ifP hc2 hE
      refine r_iconst (-1) rfl ci_m1 ?_
      cases hE
      exact r_ret rfl (Or.inl ⟨rfl, _, _, rfl, rfl, rfl, rfl⟩)
    · have hE := ifN hc2 hE
      refine r_aload_n (t := some a0) 0 rfl rfl rfl ?_
      obtain ⟨hk3, hE⟩ := ckE hE
      refine r_getR rfl (fl_10_48 rfl) (Or.inl ⟨_, rfl⟩) rfl hk3 ?_
      obtain ⟨a_4, ha5, hE⟩ := bnE hE
      obtain ⟨hk6, hE⟩ := ckE hE
      refine r_getZ rfl (fl_10_249 rfl) ha5 hk6 ?_
      refine r_if_ne (tgt := 22) rfl (by decide) (fun hc7 => ?_) (fun hc7 => ?_)
      · have hE := ifP hc7 hE
        refine r_iconst (-1) rfl ci_m1 ?_
        cases hE
        exact r_ret rfl (Or.inl ⟨rfl, _, _, rfl, rfl, rfl, rfl⟩)
      · have hE := ifN hc7 hE
        refine r_aload_n (t := some a0) 0 rfl rfl rfl ?_
        refine r_getR rfl (fl_10_108 rfl) (Or.inl ⟨_, rfl⟩) rfl hk3 ?_
        refine r_iload_n 1 rfl rfl rfl ?_
        refine r_aload_n (t := some a0) 0 rfl rfl rfl ?_
        refine r_getR rfl (fl_10_48 rfl) (Or.inl ⟨_, rfl⟩) rfl hk3 ?_
        obtain ⟨a_8, ha9, hE⟩ := bnE hE
        obtain ⟨hk10, hE⟩ := ckE hE
        obtain ⟨v11, h12, hq13, hE⟩ := bdE hE
        refine r_callV1 (rest := []) (hc := (Sh_sureness_ok g N _ _ _ _ _ _ hq13 D2 (by omega))) rfl pm_Sh_sureness lw_10_260 im_Sh_sureness sl_Sh_sureness ha9 rfl rfl (rcOK hk10 rfl) (by decide) ?_
        cases hE
        exact r_ret rfl (Or.inl ⟨rfl, _, _, rfl, rfl, rfl, rfl⟩)
def Le_most_b25 (N : Nat) : Nat → Nat → Int32 → Int32 → PH → Option (Int32 × PH)
  | 0 => fun _ _ _ _ => none
  | n + 1 => fun a0 x1 x2 h =>
    if x2 < 1 then
      some ((-1), h)
    else
      ck ((hK h a0).1 = 10) <|
      ((hR h a0 17)).bind fun a_3 =>
      ck ((hK h a_3).1 = 7) <|
      bd (Sh_sureness N a_3 x2 (hR h a0 6) h) fun v6 h7 =>
      if v6 < x1 then
        (Le_most_b25 N n) a0 x1 (x2 + (-1)) h7
      else
        some (x2, h7)
set_option maxRecDepth 20000 in
theorem Le_most_b25_ok (g : GT) (N : Nat) (D : Nat) (hD : 5 ≤ D) : ∀ (n : Nat) (a0 : Nat) (x1 : Int32) (x2 : Int32) (h : PH) (v : Int32) (h' : PH), Le_most_b25 N n a0 x1 x2 h = some (v, h') → Run g pLe_most D 25 [(0, va_rf (some a0)), (1, .int x1), (2, .int x2)] [] h (rI v) h' := by
  obtain ⟨D2, rfl⟩ : ∃ d, D = d + 1 := ⟨D - 1, by omega⟩
  intro n
  induction n with
  | zero => exact fun _ _ _ _ _ _ hE => nomatch (show none = some _ from hE)
  | succ n ih =>
    intro a0 x1 x2 h v h' hE
    unfold Le_most_b25 at hE
    refine r_iload_n 2 rfl rfl rfl ?_
    refine r_iconst 1 rfl ci_1 ?_
    refine r_icmp_lt (tgt := 54) rfl (by decide) (fun hc1 => ?_) (fun hc1 => ?_)
    · have hE := ifP hc1 hE
      refine r_iconst (-1) rfl ci_m1 ?_
      cases hE
      exact r_ret rfl (Or.inl ⟨rfl, _, _, rfl, rfl, rfl, rfl⟩)
    · have hE := ifN hc1 hE
      refine r_aload_n (t := some a0) 0 rfl rfl rfl ?_
      obtain ⟨hk2, hE⟩ := ckE hE
      refine r_getR rfl (fl_10_108 rfl) (Or.inl ⟨_, rfl⟩) rfl hk2 ?_
      refine r_iload_n 2 rfl rfl rfl ?_
      refine r_aload_n (t := some a0) 0 rfl rfl rfl ?_
      refine r_getR rfl (fl_10_48 rfl) (Or.inl ⟨_, rfl⟩) rfl hk2 ?_
      obtain ⟨a_3, ha4, hE⟩ := bnE hE
      obtain ⟨hk5, hE⟩ := ckE hE
      obtain ⟨v6, h7, hq8, hE⟩ := bdE hE
      refine r_callV1 (rest := []) (hc := (Sh_sureness_ok g N _ _ _ _ _ _ hq8 D2 (by omega))) rfl pm_Sh_sureness lw_10_260 im_Sh_sureness sl_Sh_sureness ha4 rfl rfl (rcOK hk5 rfl) (by decide) ?_
      refine r_iload_n 1 rfl rfl rfl ?_
      refine r_icmp_lt (tgt := 48) rfl (by decide) (fun hc9 => ?_) (fun hc9 => ?_)
      · have hE := ifP hc9 hE
        refine r_iinc _ rfl rfl (congrArg _ ci_m1) (by decide) ?_
        refine r_goto (tgt := 25) rfl (by decide) ?_
        first | exact r_sb (ih _ _ _ _ _ _ hE) ⟨rfl, rfl, rfl, trivial⟩ | exact r_sb (ih _ _ _ _ _ _ hE) (by simp only [su1, su2, dr1_rf, dr1_in, dr1_lo, dr2_rf, dr2_in, dr2_lo]; exact ⟨rfl, rfl, rfl, trivial⟩)
      · have hE := ifN hc9 hE
        refine r_iload_n 2 rfl rfl rfl ?_
        cases hE
        exact r_ret rfl (Or.inl ⟨rfl, _, _, rfl, rfl, rfl, rfl⟩)
def Le_most (N : Nat) (a0 : Nat) (x1 : Int32) (h : PH) : Option (Int32 × PH) :=
  if x1 < 0 then
    some ((-1), h)
  else
    if 1000000 < x1 then
      some ((-1), h)
    else
      ck ((hK h a0).1 = 10) <|
      ((hR h a0 6)).bind fun a_4 =>
      ck ((hK h a_4).1 = 3) <|
      if (bI (hZ h a_4 10)) = 0 then
        some ((-1), h)
      else
        Le_most_b25 N N a0 x1 3 h
set_option maxRecDepth 20000 in
theorem Le_most_ok (g : GT) (N : Nat) (a0 : Nat) (x1 : Int32) (h : PH) (v : Int32) (h' : PH) (hE : Le_most N a0 x1 h = some (v, h')) (D : Nat) (hD : 5 ≤ D) : Calls g D pLe_most [va_rf (some a0), .int x1] h (oI v) h' := by
  refine Calls.of cok_Le_most ht_Le_most pl_Le_most (fun ad => by rw [lg_len, sL_cat]; simp only [List.map_cons, List.map_nil, rf_cat, cat_i, cat_l, List.sum_cons, List.sum_nil]; decide) ?_
  rw [show lv_args 0 [va_rf (some a0), .int x1] = [(0, va_rf (some a0)), (1, .int x1)] from (by simp only [lv_args, rf_cat, cat_i, cat_l]; try rfl)]
  obtain ⟨D2, rfl⟩ : ∃ d, D = d + 1 := ⟨D - 1, by omega⟩
  unfold Le_most at hE
  refine r_iload_n 1 rfl rfl rfl ?_
  refine r_if_lt (tgt := 21) rfl (by decide) (fun hc1 => ?_) (fun hc1 => ?_)
  · have hE := ifP hc1 hE
    refine r_iconst (-1) rfl ci_m1 ?_
    cases hE
    exact r_ret rfl (Or.inl ⟨rfl, _, _, rfl, rfl, rfl, rfl⟩)
  · have hE := ifN hc1 hE
    refine r_iload_n 1 rfl rfl rfl ?_
    refine r_ldcw rfl kc_10_263 ?_
    refine r_icmp_gt (tgt := 21) rfl (by decide) (fun hc2 => ?_) (fun hc2 => ?_)
    · have hE := ifP hc2 hE
      refine r_iconst (-1) rfl ci_m1 ?_
      cases hE
      exact r_ret rfl (Or.inl ⟨rfl, _, _, rfl, rfl, rfl, rfl⟩)
    · have hE := ifN hc2 hE
      refine r_aload_n (t := some a0) 0 rfl rfl rfl ?_
      obtain ⟨hk3, hE⟩ := ckE hE
      refine r_getR rfl (fl_10_48 rfl) (Or.inl ⟨_, rfl⟩) rfl hk3 ?_
      obtain ⟨a_4, ha5, hE⟩ := bnE hE
      obtain ⟨hk6, hE⟩ := ckE hE
      refine r_getZ rfl (fl_10_249 rfl) ha5 hk6 ?_
      refine r_if_ne (tgt := 23) rfl (by decide) (fun hc7 => ?_) (fun hc7 => ?_)
      · have hE := ifP hc7 hE
        refine r_iconst (-1) rfl ci_m1 ?_
        cases hE
        exact r_ret rfl (Or.inl ⟨rfl, _, _, rfl, rfl, rfl, rfl⟩)
      · have hE := ifN hc7 hE
        refine r_iconst 3 rfl ci_3 ?_
        refine r_istore_n 2 rfl rfl (by decide) ?_
        first | exact r_sb (Le_most_b25_ok g N _ hD  N _ _ _ _ _ _ hE) ⟨rfl, rfl, rfl, trivial⟩ | exact r_sb (Le_most_b25_ok g N _ hD  N _ _ _ _ _ _ hE) (by simp only [su1, su2, dr1_rf, dr1_in, dr1_lo, dr2_rf, dr2_in, dr2_lo]; exact ⟨rfl, rfl, rfl, trivial⟩)
def Le_enough (N : Nat) (a0 : Nat) (x1 : Int32) (x2 : Int32) (h : PH) : Option (Int32 × PH) :=
  if x1 < 1 then
    some ((-1), h)
  else
    if 3 < x1 then
      some ((-1), h)
    else
      if x2 < 0 then
        some ((-1), h)
      else
        if 1000000 < x2 then
          some ((-1), h)
        else
          ck ((hK h a0).1 = 10) <|
          ((hR h a0 6)).bind fun a_6 =>
          ck ((hK h a_6).1 = 3) <|
          if (bI (hZ h a_6 10)) = 0 then
            some ((-1), h)
          else
            ((hR h a0 17)).bind fun a_10 =>
            ck ((hK h a_10).1 = 7) <|
            bd (Sh_fewest N a_10 x1 x2 (hR h a0 6) h) fun v13 h14 =>
            some (v13, h14)
set_option maxRecDepth 20000 in
theorem Le_enough_ok (g : GT) (N : Nat) (a0 : Nat) (x1 : Int32) (x2 : Int32) (h : PH) (v : Int32) (h' : PH) (hE : Le_enough N a0 x1 x2 h = some (v, h')) (D : Nat) (hD : 5 ≤ D) : Calls g D pLe_enough [va_rf (some a0), .int x1, .int x2] h (oI v) h' := by
  refine Calls.of cok_Le_enough ht_Le_enough pl_Le_enough (fun ad => by rw [lg_len, sL_cat]; simp only [List.map_cons, List.map_nil, rf_cat, cat_i, cat_l, List.sum_cons, List.sum_nil]; decide) ?_
  rw [show lv_args 0 [va_rf (some a0), .int x1, .int x2] = [(0, va_rf (some a0)), (1, .int x1), (2, .int x2)] from (by simp only [lv_args, rf_cat, cat_i, cat_l]; try rfl)]
  obtain ⟨D2, rfl⟩ : ∃ d, D = d + 1 := ⟨D - 1, by omega⟩
  unfold Le_enough at hE
  refine r_iload_n 1 rfl rfl rfl ?_
  refine r_iconst 1 rfl ci_1 ?_
  refine r_icmp_lt (tgt := 31) rfl (by decide) (fun hc1 => ?_) (fun hc1 => ?_)
  · have hE := ifP hc1 hE
    refine r_iconst (-1) rfl ci_m1 ?_
    cases hE
    exact r_ret rfl (Or.inl ⟨rfl, _, _, rfl, rfl, rfl, rfl⟩)
  · have hE := ifN hc1 hE
    refine r_iload_n 1 rfl rfl rfl ?_
    refine r_iconst 3 rfl ci_3 ?_
    refine r_icmp_gt (tgt := 31) rfl (by decide) (fun hc2 => ?_) (fun hc2 => ?_)
    · have hE := ifP hc2 hE
      refine r_iconst (-1) rfl ci_m1 ?_
      cases hE
      exact r_ret rfl (Or.inl ⟨rfl, _, _, rfl, rfl, rfl, rfl⟩)
    · have hE := ifN hc2 hE
      refine r_iload_n 2 rfl rfl rfl ?_
      refine r_if_lt (tgt := 31) rfl (by decide) (fun hc3 => ?_) (fun hc3 => ?_)
      · have hE := ifP hc3 hE
        refine r_iconst (-1) rfl ci_m1 ?_
        cases hE
        exact r_ret rfl (Or.inl ⟨rfl, _, _, rfl, rfl, rfl, rfl⟩)
      · have hE := ifN hc3 hE
        refine r_iload_n 2 rfl rfl rfl ?_
        refine r_ldcw rfl kc_10_263 ?_
        refine r_icmp_gt (tgt := 31) rfl (by decide) (fun hc4 => ?_) (fun hc4 => ?_)
        · have hE := ifP hc4 hE
          refine r_iconst (-1) rfl ci_m1 ?_
          cases hE
          exact r_ret rfl (Or.inl ⟨rfl, _, _, rfl, rfl, rfl, rfl⟩)
        · have hE := ifN hc4 hE
          refine r_aload_n (t := some a0) 0 rfl rfl rfl ?_
          obtain ⟨hk5, hE⟩ := ckE hE
          refine r_getR rfl (fl_10_48 rfl) (Or.inl ⟨_, rfl⟩) rfl hk5 ?_
          obtain ⟨a_6, ha7, hE⟩ := bnE hE
          obtain ⟨hk8, hE⟩ := ckE hE
          refine r_getZ rfl (fl_10_249 rfl) ha7 hk8 ?_
          refine r_if_ne (tgt := 33) rfl (by decide) (fun hc9 => ?_) (fun hc9 => ?_)
          · have hE := ifP hc9 hE
            refine r_iconst (-1) rfl ci_m1 ?_
            cases hE
            exact r_ret rfl (Or.inl ⟨rfl, _, _, rfl, rfl, rfl, rfl⟩)
          · have hE := ifN hc9 hE
            refine r_aload_n (t := some a0) 0 rfl rfl rfl ?_
            refine r_getR rfl (fl_10_108 rfl) (Or.inl ⟨_, rfl⟩) rfl hk5 ?_
            refine r_iload_n 1 rfl rfl rfl ?_
            refine r_iload_n 2 rfl rfl rfl ?_
            refine r_aload_n (t := some a0) 0 rfl rfl rfl ?_
            refine r_getR rfl (fl_10_48 rfl) (Or.inl ⟨_, rfl⟩) rfl hk5 ?_
            obtain ⟨a_10, ha11, hE⟩ := bnE hE
            obtain ⟨hk12, hE⟩ := ckE hE
            obtain ⟨v13, h14, hq15, hE⟩ := bdE hE
            refine r_callV1 (rest := []) (hc := (Sh_fewest_ok g N _ _ _ _ _ _ _ hq15 D2 (by omega))) rfl pm_Sh_fewest lw_10_264 im_Sh_fewest sl_Sh_fewest ha11 rfl rfl (rcOK hk12 rfl) (by decide) ?_
            cases hE
            exact r_ret rfl (Or.inl ⟨rfl, _, _, rfl, rfl, rfl, rfl⟩)
def Le_peak_b103 (N : Nat) (self_53 : Nat → Int32 → Int32 → Int32 → Int32 → PH → Option (Int32 × PH)) (a0 : Nat) (x1 : Int32) (x2 : Int32) (x3 : Int32) (x4 : Int32) (h : PH) : Option (Int32 × PH) :=
  self_53 a0 x1 x2 x3 (x4 + 1) h
set_option maxRecDepth 20000 in
theorem Le_peak_b103_ok (g : GT) (N : Nat) (D : Nat) (hD : 8 ≤ D) (self_53 : Nat → Int32 → Int32 → Int32 → Int32 → PH → Option (Int32 × PH)) (hself_53 : ∀ (a0 : Nat) (x1 : Int32) (x2 : Int32) (x3 : Int32) (x4 : Int32) (h : PH) (v : Int32) (h' : PH), self_53 a0 x1 x2 x3 x4 h = some (v, h') → Run g pLe_peak D 53 [(0, va_rf (some a0)), (1, .int x1), (2, .int x2), (3, .int x3), (4, .int x4)] [] h (rI v) h') : ∀ (a0 : Nat) (x1 : Int32) (x2 : Int32) (x3 : Int32) (x4 : Int32) (h : PH) (v : Int32) (h' : PH), Le_peak_b103 N self_53 a0 x1 x2 x3 x4 h = some (v, h') → Run g pLe_peak D 103 [(0, va_rf (some a0)), (1, .int x1), (2, .int x2), (3, .int x3), (4, .int x4)] [] h (rI v) h' := by
  obtain ⟨D2, rfl⟩ : ∃ d, D = d + 1 := ⟨D - 1, by omega⟩
  intro a0 x1 x2 x3 x4 h v h' hE
  unfold Le_peak_b103 at hE
  refine r_iinc _ rfl rfl (congrArg _ ci_1) (by decide) ?_
  refine r_goto (tgt := 53) rfl (by decide) ?_
  first | exact r_sb (hself_53 _ _ _ _ _ _ _ _ hE) ⟨rfl, rfl, rfl, rfl, rfl, trivial⟩ | exact r_sb (hself_53 _ _ _ _ _ _ _ _ hE) (by simp only [su1, su2, dr1_rf, dr1_in, dr1_lo, dr2_rf, dr2_in, dr2_lo]; exact ⟨rfl, rfl, rfl, rfl, rfl, trivial⟩)
def Le_peak_b53 (N : Nat) : Nat → Nat → Int32 → Int32 → Int32 → Int32 → PH → Option (Int32 × PH)
  | 0 => fun _ _ _ _ _ _ => none
  | n + 1 => fun a0 x1 x2 x3 x4 h =>
    ck ((hK h a0).1 = 10) <|
    ((hR h a0 1)).bind fun a_2 =>
    ck ((hK h a_2).1 = 0) <|
    if (hI h a_2 1) < x4 then
      some (x2, h)
    else
      ((hR h a0 6)).bind fun a_6 =>
      ck ((hK h a_6).1 = 3) <|
      ((hR h a0 12)).bind fun a_9 =>
      ck ((hK h a_9).1 = 9) <|
      bd (Va_worthFrom N a_9 (hI h a_6 0) x4 x1 (bI (hZ h a_6 12)) h) fun v12 h13 =>
      if v12 ≤ x3 then
        Le_peak_b103 N (Le_peak_b53 N n)  a0 x1 x2 x3 x4 h13
      else
        Le_peak_b103 N (Le_peak_b53 N n)  a0 x1 x4 v12 x4 h13
set_option maxRecDepth 20000 in
theorem Le_peak_b53_ok (g : GT) (N : Nat) (D : Nat) (hD : 8 ≤ D) : ∀ (n : Nat) (a0 : Nat) (x1 : Int32) (x2 : Int32) (x3 : Int32) (x4 : Int32) (h : PH) (v : Int32) (h' : PH), Le_peak_b53 N n a0 x1 x2 x3 x4 h = some (v, h') → Run g pLe_peak D 53 [(0, va_rf (some a0)), (1, .int x1), (2, .int x2), (3, .int x3), (4, .int x4)] [] h (rI v) h' := by
  obtain ⟨D2, rfl⟩ : ∃ d, D = d + 1 := ⟨D - 1, by omega⟩
  intro n
  induction n with
  | zero => exact fun _ _ _ _ _ _ _ _ hE => nomatch (show none = some _ from hE)
  | succ n ih =>
    intro a0 x1 x2 x3 x4 h v h' hE
    unfold Le_peak_b53 at hE
    refine r_iload rfl rfl ?_
    refine r_aload_n (t := some a0) 0 rfl rfl rfl ?_
    obtain ⟨hk1, hE⟩ := ckE hE
    refine r_getR rfl (fl_10_19 rfl) (Or.inl ⟨_, rfl⟩) rfl hk1 ?_
    obtain ⟨a_2, ha3, hE⟩ := bnE hE
    obtain ⟨hk4, hE⟩ := ckE hE
    refine r_getI rfl (fl_10_223 rfl) (Or.inl rfl) ha3 hk4 ?_
    refine r_icmp_gt (tgt := 109) rfl (by decide) (fun hc5 => ?_) (fun hc5 => ?_)
    · have hE := ifP hc5 hE
      refine r_iload_n 2 rfl rfl rfl ?_
      cases hE
      exact r_ret rfl (Or.inl ⟨rfl, _, _, rfl, rfl, rfl, rfl⟩)
    · have hE := ifN hc5 hE
      refine r_aload_n (t := some a0) 0 rfl rfl rfl ?_
      refine r_getR rfl (fl_10_77 rfl) (Or.inl ⟨_, rfl⟩) rfl hk1 ?_
      refine r_aload_n (t := some a0) 0 rfl rfl rfl ?_
      refine r_getR rfl (fl_10_48 rfl) (Or.inl ⟨_, rfl⟩) rfl hk1 ?_
      obtain ⟨a_6, ha7, hE⟩ := bnE hE
      obtain ⟨hk8, hE⟩ := ckE hE
      refine r_getI rfl (fl_10_170 rfl) (Or.inl rfl) ha7 hk8 ?_
      refine r_iload rfl rfl ?_
      refine r_iload_n 1 rfl rfl rfl ?_
      refine r_aload_n (t := some a0) 0 rfl rfl rfl ?_
      refine r_getR rfl (fl_10_48 rfl) (Or.inl ⟨_, rfl⟩) rfl hk1 ?_
      refine r_getZ rfl (fl_10_234 rfl) ha7 hk8 ?_
      obtain ⟨a_9, ha10, hE⟩ := bnE hE
      obtain ⟨hk11, hE⟩ := ckE hE
      obtain ⟨v12, h13, hq14, hE⟩ := bdE hE
      refine r_callV1 (rest := []) (hc := (Va_worthFrom_ok g N _ _ _ _ _ _ _ _ hq14 D2 (by omega))) rfl pm_Va_worthFrom lw_10_227 im_Va_worthFrom sl_Va_worthFrom ha10 rfl rfl (rcOK hk11 rfl) (by decide) ?_
      refine r_istore rfl (by decide) ?_
      refine r_iload rfl rfl ?_
      refine r_iload_n 3 rfl rfl rfl ?_
      refine r_icmp_le (tgt := 103) rfl (by decide) (fun hc15 => ?_) (fun hc15 => ?_)
      · have hE := ifP hc15 hE
        first | exact r_sb (Le_peak_b103_ok g N _ hD _ ih  _ _ _ _ _ _ _ _ hE) ⟨rfl, rfl, rfl, rfl, rfl, trivial⟩ | exact r_sb (Le_peak_b103_ok g N _ hD _ ih  _ _ _ _ _ _ _ _ hE) (by simp only [su1, su2, dr1_rf, dr1_in, dr1_lo, dr2_rf, dr2_in, dr2_lo]; exact ⟨rfl, rfl, rfl, rfl, rfl, trivial⟩)
      · have hE := ifN hc15 hE
        refine r_iload rfl rfl ?_
        refine r_istore_n 3 rfl rfl (by decide) ?_
        refine r_iload rfl rfl ?_
        refine r_istore_n 2 rfl rfl (by decide) ?_
        first | exact r_sb (Le_peak_b103_ok g N _ hD _ ih  _ _ _ _ _ _ _ _ hE) ⟨rfl, rfl, rfl, rfl, rfl, trivial⟩ | exact r_sb (Le_peak_b103_ok g N _ hD _ ih  _ _ _ _ _ _ _ _ hE) (by simp only [su1, su2, dr1_rf, dr1_in, dr1_lo, dr2_rf, dr2_in, dr2_lo]; exact ⟨rfl, rfl, rfl, rfl, rfl, trivial⟩)
def Le_peak (N : Nat) (a0 : Nat) (x1 : Int32) (h : PH) : Option (Int32 × PH) :=
  if x1 < 0 then
    some ((-1), h)
  else
    ck ((hK h a0).1 = 10) <|
    ((hR h a0 1)).bind fun a_3 =>
    ck ((hK h a_3).1 = 0) <|
    if (hI h a_3 2) < x1 then
      some ((-1), h)
    else
      bd (Le_isOpen N a0 h) fun v7 h8 =>
      if (bI v7) = 0 then
        some ((-1), h8)
      else
        ck ((hK h8 a0).1 = 10) <|
        ((hR h8 a0 6)).bind fun a_12 =>
        ck ((hK h8 a_12).1 = 3) <|
        ((hR h8 a0 12)).bind fun a_15 =>
        ck ((hK h8 a_15).1 = 9) <|
        bd (Va_worthFrom N a_15 (hI h8 a_12 0) 0 x1 (bI (hZ h8 a_12 12)) h8) fun v18 h19 =>
        Le_peak_b53 N N a0 x1 0 v18 1 h19
set_option maxRecDepth 20000 in
theorem Le_peak_ok (g : GT) (N : Nat) (a0 : Nat) (x1 : Int32) (h : PH) (v : Int32) (h' : PH) (hE : Le_peak N a0 x1 h = some (v, h')) (D : Nat) (hD : 8 ≤ D) : Calls g D pLe_peak [va_rf (some a0), .int x1] h (oI v) h' := by
  refine Calls.of cok_Le_peak ht_Le_peak pl_Le_peak (fun ad => by rw [lg_len, sL_cat]; simp only [List.map_cons, List.map_nil, rf_cat, cat_i, cat_l, List.sum_cons, List.sum_nil]; decide) ?_
  rw [show lv_args 0 [va_rf (some a0), .int x1] = [(0, va_rf (some a0)), (1, .int x1)] from (by simp only [lv_args, rf_cat, cat_i, cat_l]; try rfl)]
  obtain ⟨D2, rfl⟩ : ∃ d, D = d + 1 := ⟨D - 1, by omega⟩
  unfold Le_peak at hE
  refine r_iload_n 1 rfl rfl rfl ?_
  refine r_if_lt (tgt := 22) rfl (by decide) (fun hc1 => ?_) (fun hc1 => ?_)
  · have hE := ifP hc1 hE
    refine r_iconst (-1) rfl ci_m1 ?_
    cases hE
    exact r_ret rfl (Or.inl ⟨rfl, _, _, rfl, rfl, rfl, rfl⟩)
  · have hE := ifN hc1 hE
    refine r_iload_n 1 rfl rfl rfl ?_
    refine r_aload_n (t := some a0) 0 rfl rfl rfl ?_
    obtain ⟨hk2, hE⟩ := ckE hE
    refine r_getR rfl (fl_10_19 rfl) (Or.inl ⟨_, rfl⟩) rfl hk2 ?_
    obtain ⟨a_3, ha4, hE⟩ := bnE hE
    obtain ⟨hk5, hE⟩ := ckE hE
    refine r_getI rfl (fl_10_226 rfl) (Or.inl rfl) ha4 hk5 ?_
    refine r_icmp_gt (tgt := 22) rfl (by decide) (fun hc6 => ?_) (fun hc6 => ?_)
    · have hE := ifP hc6 hE
      refine r_iconst (-1) rfl ci_m1 ?_
      cases hE
      exact r_ret rfl (Or.inl ⟨rfl, _, _, rfl, rfl, rfl, rfl⟩)
    · have hE := ifN hc6 hE
      refine r_aload_n (t := some a0) 0 rfl rfl rfl ?_
      obtain ⟨v7, h8, hq9, hE⟩ := bdE hE
      refine r_callV1 (rest := []) (hc := (Le_isOpen_ok g N _ _ _ _ hq9 D2 (by omega))) rfl pm_Le_isOpen lw_10_173 im_Le_isOpen sl_Le_isOpen rfl rfl rfl (rcOK hk2 rfl) (by decide) ?_
      refine r_if_ne (tgt := 24) rfl (by decide) (fun hc10 => ?_) (fun hc10 => ?_)
      · have hE := ifP hc10 hE
        refine r_iconst (-1) rfl ci_m1 ?_
        cases hE
        exact r_ret rfl (Or.inl ⟨rfl, _, _, rfl, rfl, rfl, rfl⟩)
      · have hE := ifN hc10 hE
        refine r_iconst 0 rfl ci_0 ?_
        refine r_istore_n 2 rfl rfl (by decide) ?_
        refine r_aload_n (t := some a0) 0 rfl rfl rfl ?_
        obtain ⟨hk11, hE⟩ := ckE hE
        refine r_getR rfl (fl_10_77 rfl) (Or.inl ⟨_, rfl⟩) rfl hk11 ?_
        refine r_aload_n (t := some a0) 0 rfl rfl rfl ?_
        refine r_getR rfl (fl_10_48 rfl) (Or.inl ⟨_, rfl⟩) rfl hk11 ?_
        obtain ⟨a_12, ha13, hE⟩ := bnE hE
        obtain ⟨hk14, hE⟩ := ckE hE
        refine r_getI rfl (fl_10_170 rfl) (Or.inl rfl) ha13 hk14 ?_
        refine r_iconst 0 rfl ci_0 ?_
        refine r_iload_n 1 rfl rfl rfl ?_
        refine r_aload_n (t := some a0) 0 rfl rfl rfl ?_
        refine r_getR rfl (fl_10_48 rfl) (Or.inl ⟨_, rfl⟩) rfl hk11 ?_
        refine r_getZ rfl (fl_10_234 rfl) ha13 hk14 ?_
        obtain ⟨a_15, ha16, hE⟩ := bnE hE
        obtain ⟨hk17, hE⟩ := ckE hE
        obtain ⟨v18, h19, hq20, hE⟩ := bdE hE
        refine r_callV1 (rest := []) (hc := (Va_worthFrom_ok g N _ _ _ _ _ _ _ _ hq20 D2 (by omega))) rfl pm_Va_worthFrom lw_10_227 im_Va_worthFrom sl_Va_worthFrom ha16 rfl rfl (rcOK hk17 rfl) (by decide) ?_
        refine r_istore_n 3 rfl rfl (by decide) ?_
        refine r_iconst 1 rfl ci_1 ?_
        refine r_istore rfl (by decide) ?_
        first | exact r_sb (Le_peak_b53_ok g N _ hD  N _ _ _ _ _ _ _ _ hE) ⟨rfl, rfl, rfl, rfl, rfl, trivial⟩ | exact r_sb (Le_peak_b53_ok g N _ hD  N _ _ _ _ _ _ _ _ hE) (by simp only [su1, su2, dr1_rf, dr1_in, dr1_lo, dr2_rf, dr2_in, dr2_lo]; exact ⟨rfl, rfl, rfl, rfl, rfl, trivial⟩)
def Le_habits_b89 (N : Nat) (self_46 : Nat → Int32 → Int32 → Int32 → PH → Option (Int32 × PH)) (a0 : Nat) (x1 : Int32) (x2 : Int32) (x3 : Int32) (h : PH) : Option (Int32 × PH) :=
  self_46 a0 x1 x2 (x3 + 1) h
set_option maxRecDepth 20000 in
theorem Le_habits_b89_ok (g : GT) (N : Nat) (D : Nat) (hD : 67 ≤ D) (self_46 : Nat → Int32 → Int32 → Int32 → PH → Option (Int32 × PH)) (hself_46 : ∀ (a0 : Nat) (x1 : Int32) (x2 : Int32) (x3 : Int32) (h : PH) (v : Int32) (h' : PH), self_46 a0 x1 x2 x3 h = some (v, h') → Run g pLe_habits D 46 [(0, va_rf (some a0)), (1, .int x1), (2, .int x2), (3, .int x3)] [] h (rI v) h') : ∀ (a0 : Nat) (x1 : Int32) (x2 : Int32) (x3 : Int32) (h : PH) (v : Int32) (h' : PH), Le_habits_b89 N self_46 a0 x1 x2 x3 h = some (v, h') → Run g pLe_habits D 89 [(0, va_rf (some a0)), (1, .int x1), (2, .int x2), (3, .int x3)] [] h (rI v) h' := by
  obtain ⟨D2, rfl⟩ : ∃ d, D = d + 1 := ⟨D - 1, by omega⟩
  intro a0 x1 x2 x3 h v h' hE
  unfold Le_habits_b89 at hE
  refine r_iinc _ rfl rfl (congrArg _ ci_1) (by decide) ?_
  refine r_goto (tgt := 46) rfl (by decide) ?_
  first | exact r_sb (hself_46 _ _ _ _ _ _ _ hE) ⟨rfl, rfl, rfl, rfl, trivial⟩ | exact r_sb (hself_46 _ _ _ _ _ _ _ hE) (by simp only [su1, su2, dr1_rf, dr1_in, dr1_lo, dr2_rf, dr2_in, dr2_lo]; exact ⟨rfl, rfl, rfl, rfl, trivial⟩)
def Le_habits_b46 (N : Nat) : Nat → Nat → Int32 → Int32 → Int32 → PH → Option (Int32 × PH)
  | 0 => fun _ _ _ _ _ => none
  | n + 1 => fun a0 x1 x2 x3 h =>
    ck ((hK h a0).1 = 10) <|
    ((hR h a0 1)).bind fun a_2 =>
    ck ((hK h a_2).1 = 0) <|
    if (hI h a_2 12) ≤ x3 then
      some (x1, h)
    else
      ((hR h a0 15)).bind fun a_6 =>
      ck ((hK h a_6).1 = 2) <|
      bd (Me_worthOf N a_6 x3 (hI h a_2 0) (hR h a0 6) h) fun v9 h10 =>
      if v9 ≤ x2 then
        Le_habits_b89 N (Le_habits_b46 N n)  a0 x1 x2 x3 h10
      else
        Le_habits_b89 N (Le_habits_b46 N n)  a0 x3 v9 x3 h10
set_option maxRecDepth 20000 in
theorem Le_habits_b46_ok (g : GT) (N : Nat) (D : Nat) (hD : 67 ≤ D) : ∀ (n : Nat) (a0 : Nat) (x1 : Int32) (x2 : Int32) (x3 : Int32) (h : PH) (v : Int32) (h' : PH), Le_habits_b46 N n a0 x1 x2 x3 h = some (v, h') → Run g pLe_habits D 46 [(0, va_rf (some a0)), (1, .int x1), (2, .int x2), (3, .int x3)] [] h (rI v) h' := by
  obtain ⟨D2, rfl⟩ : ∃ d, D = d + 1 := ⟨D - 1, by omega⟩
  intro n
  induction n with
  | zero => exact fun _ _ _ _ _ _ _ hE => nomatch (show none = some _ from hE)
  | succ n ih =>
    intro a0 x1 x2 x3 h v h' hE
    unfold Le_habits_b46 at hE
    refine r_iload_n 3 rfl rfl rfl ?_
    refine r_aload_n (t := some a0) 0 rfl rfl rfl ?_
    obtain ⟨hk1, hE⟩ := ckE hE
    refine r_getR rfl (fl_10_19 rfl) (Or.inl ⟨_, rfl⟩) rfl hk1 ?_
    obtain ⟨a_2, ha3, hE⟩ := bnE hE
    obtain ⟨hk4, hE⟩ := ckE hE
    refine r_getI rfl (fl_10_267 rfl) (Or.inl rfl) ha3 hk4 ?_
    refine r_icmp_ge (tgt := 95) rfl (by decide) (fun hc5 => ?_) (fun hc5 => ?_)
    · have hE := ifP hc5 hE
      refine r_iload_n 1 rfl rfl rfl ?_
      cases hE
      exact r_ret rfl (Or.inl ⟨rfl, _, _, rfl, rfl, rfl, rfl⟩)
    · have hE := ifN hc5 hE
      refine r_aload_n (t := some a0) 0 rfl rfl rfl ?_
      refine r_getR rfl (fl_10_92 rfl) (Or.inl ⟨_, rfl⟩) rfl hk1 ?_
      refine r_iload_n 3 rfl rfl rfl ?_
      refine r_aload_n (t := some a0) 0 rfl rfl rfl ?_
      refine r_getR rfl (fl_10_19 rfl) (Or.inl ⟨_, rfl⟩) rfl hk1 ?_
      refine r_getI rfl (fl_10_134 rfl) (Or.inl rfl) ha3 hk4 ?_
      refine r_aload_n (t := some a0) 0 rfl rfl rfl ?_
      refine r_getR rfl (fl_10_48 rfl) (Or.inl ⟨_, rfl⟩) rfl hk1 ?_
      obtain ⟨a_6, ha7, hE⟩ := bnE hE
      obtain ⟨hk8, hE⟩ := ckE hE
      obtain ⟨v9, h10, hq11, hE⟩ := bdE hE
      refine r_callV1 (rest := []) (hc := (Me_worthOf_ok g N _ _ _ _ _ _ _ hq11 D2 (by omega))) rfl pm_Me_worthOf lw_10_252 im_Me_worthOf sl_Me_worthOf ha7 rfl rfl (rcOK hk8 rfl) (by decide) ?_
      refine r_istore rfl (by decide) ?_
      refine r_iload rfl rfl ?_
      refine r_iload_n 2 rfl rfl rfl ?_
      refine r_icmp_le (tgt := 89) rfl (by decide) (fun hc12 => ?_) (fun hc12 => ?_)
      · have hE := ifP hc12 hE
        first | exact r_sb (Le_habits_b89_ok g N _ hD _ ih  _ _ _ _ _ _ _ hE) ⟨rfl, rfl, rfl, rfl, trivial⟩ | exact r_sb (Le_habits_b89_ok g N _ hD _ ih  _ _ _ _ _ _ _ hE) (by simp only [su1, su2, dr1_rf, dr1_in, dr1_lo, dr2_rf, dr2_in, dr2_lo]; exact ⟨rfl, rfl, rfl, rfl, trivial⟩)
      · have hE := ifN hc12 hE
        refine r_iload rfl rfl ?_
        refine r_istore_n 2 rfl rfl (by decide) ?_
        refine r_iload_n 3 rfl rfl rfl ?_
        refine r_istore_n 1 rfl rfl (by decide) ?_
        first | exact r_sb (Le_habits_b89_ok g N _ hD _ ih  _ _ _ _ _ _ _ hE) ⟨rfl, rfl, rfl, rfl, trivial⟩ | exact r_sb (Le_habits_b89_ok g N _ hD _ ih  _ _ _ _ _ _ _ hE) (by simp only [su1, su2, dr1_rf, dr1_in, dr1_lo, dr2_rf, dr2_in, dr2_lo]; exact ⟨rfl, rfl, rfl, rfl, trivial⟩)
def Le_habits (N : Nat) (a0 : Nat) (h : PH) : Option (Int32 × PH) :=
  ck ((hK h a0).1 = 10) <|
  ((hR h a0 6)).bind fun a_2 =>
  ck ((hK h a_2).1 = 3) <|
  if (bI (hZ h a_2 10)) = 0 then
    some ((-1), h)
  else
    ((hR h a0 1)).bind fun a_6 =>
    ck ((hK h a_6).1 = 0) <|
    if (hI h a_6 12) = 0 then
      some ((-1), h)
    else
      ((hR h a0 15)).bind fun a_10 =>
      ck ((hK h a_10).1 = 2) <|
      bd (Me_worthOf N a_10 0 (hI h a_6 0) (hR h a0 6) h) fun v13 h14 =>
      Le_habits_b46 N N a0 0 v13 1 h14
set_option maxRecDepth 20000 in
theorem Le_habits_ok (g : GT) (N : Nat) (a0 : Nat) (h : PH) (v : Int32) (h' : PH) (hE : Le_habits N a0 h = some (v, h')) (D : Nat) (hD : 67 ≤ D) : Calls g D pLe_habits [va_rf (some a0)] h (oI v) h' := by
  refine Calls.of cok_Le_habits ht_Le_habits pl_Le_habits (fun ad => by rw [lg_len, sL_cat]; simp only [List.map_cons, List.map_nil, rf_cat, cat_i, cat_l, List.sum_cons, List.sum_nil]; decide) ?_
  rw [show lv_args 0 [va_rf (some a0)] = [(0, va_rf (some a0))] from (by simp only [lv_args, rf_cat, cat_i, cat_l]; try rfl)]
  obtain ⟨D2, rfl⟩ : ∃ d, D = d + 1 := ⟨D - 1, by omega⟩
  unfold Le_habits at hE
  refine r_aload_n (t := some a0) 0 rfl rfl rfl ?_
  obtain ⟨hk1, hE⟩ := ckE hE
  refine r_getR rfl (fl_10_48 rfl) (Or.inl ⟨_, rfl⟩) rfl hk1 ?_
  obtain ⟨a_2, ha3, hE⟩ := bnE hE
  obtain ⟨hk4, hE⟩ := ckE hE
  refine r_getZ rfl (fl_10_249 rfl) ha3 hk4 ?_
  refine r_if_eq (tgt := 20) rfl (by decide) (fun hc5 => ?_) (fun hc5 => ?_)
  · have hE := ifP hc5 hE
    refine r_iconst (-1) rfl ci_m1 ?_
    cases hE
    exact r_ret rfl (Or.inl ⟨rfl, _, _, rfl, rfl, rfl, rfl⟩)
  · have hE := ifN hc5 hE
    refine r_aload_n (t := some a0) 0 rfl rfl rfl ?_
    refine r_getR rfl (fl_10_19 rfl) (Or.inl ⟨_, rfl⟩) rfl hk1 ?_
    obtain ⟨a_6, ha7, hE⟩ := bnE hE
    obtain ⟨hk8, hE⟩ := ckE hE
    refine r_getI rfl (fl_10_267 rfl) (Or.inl rfl) ha7 hk8 ?_
    refine r_if_ne (tgt := 22) rfl (by decide) (fun hc9 => ?_) (fun hc9 => ?_)
    · have hE := ifP hc9 hE
      refine r_iconst (-1) rfl ci_m1 ?_
      cases hE
      exact r_ret rfl (Or.inl ⟨rfl, _, _, rfl, rfl, rfl, rfl⟩)
    · have hE := ifN hc9 hE
      refine r_iconst 0 rfl ci_0 ?_
      refine r_istore_n 1 rfl rfl (by decide) ?_
      refine r_aload_n (t := some a0) 0 rfl rfl rfl ?_
      refine r_getR rfl (fl_10_92 rfl) (Or.inl ⟨_, rfl⟩) rfl hk1 ?_
      refine r_iconst 0 rfl ci_0 ?_
      refine r_aload_n (t := some a0) 0 rfl rfl rfl ?_
      refine r_getR rfl (fl_10_19 rfl) (Or.inl ⟨_, rfl⟩) rfl hk1 ?_
      refine r_getI rfl (fl_10_134 rfl) (Or.inl rfl) ha7 hk8 ?_
      refine r_aload_n (t := some a0) 0 rfl rfl rfl ?_
      refine r_getR rfl (fl_10_48 rfl) (Or.inl ⟨_, rfl⟩) rfl hk1 ?_
      obtain ⟨a_10, ha11, hE⟩ := bnE hE
      obtain ⟨hk12, hE⟩ := ckE hE
      obtain ⟨v13, h14, hq15, hE⟩ := bdE hE
      refine r_callV1 (rest := []) (hc := (Me_worthOf_ok g N _ _ _ _ _ _ _ hq15 D2 (by omega))) rfl pm_Me_worthOf lw_10_252 im_Me_worthOf sl_Me_worthOf ha11 rfl rfl (rcOK hk12 rfl) (by decide) ?_
      refine r_istore_n 2 rfl rfl (by decide) ?_
      refine r_iconst 1 rfl ci_1 ?_
      refine r_istore_n 3 rfl rfl (by decide) ?_
      first | exact r_sb (Le_habits_b46_ok g N _ hD  N _ _ _ _ _ _ _ hE) ⟨rfl, rfl, rfl, rfl, trivial⟩ | exact r_sb (Le_habits_b46_ok g N _ hD  N _ _ _ _ _ _ _ hE) (by simp only [su1, su2, dr1_rf, dr1_in, dr1_lo, dr2_rf, dr2_in, dr2_lo]; exact ⟨rfl, rfl, rfl, rfl, trivial⟩)
def Le_rains (N : Nat) (a0 : Nat) (h : PH) : Option (Int32 × PH) :=
  ck ((hK h a0).1 = 10) <|
  ((hR h a0 6)).bind fun a_2 =>
  ck ((hK h a_2).1 = 3) <|
  some ((hI h a_2 4), h)
set_option maxRecDepth 20000 in
theorem Le_rains_ok (g : GT) (N : Nat) (a0 : Nat) (h : PH) (v : Int32) (h' : PH) (hE : Le_rains N a0 h = some (v, h')) (D : Nat) (hD : 0 ≤ D) : Calls g D pLe_rains [va_rf (some a0)] h (oI v) h' := by
  refine Calls.of cok_Le_rains ht_Le_rains pl_Le_rains (fun ad => by rw [lg_len, sL_cat]; simp only [List.map_cons, List.map_nil, rf_cat, cat_i, cat_l, List.sum_cons, List.sum_nil]; decide) ?_
  rw [show lv_args 0 [va_rf (some a0)] = [(0, va_rf (some a0))] from (by simp only [lv_args, rf_cat, cat_i, cat_l]; try rfl)]
  unfold Le_rains at hE
  refine r_aload_n (t := some a0) 0 rfl rfl rfl ?_
  obtain ⟨hk1, hE⟩ := ckE hE
  refine r_getR rfl (fl_10_48 rfl) (Or.inl ⟨_, rfl⟩) rfl hk1 ?_
  obtain ⟨a_2, ha3, hE⟩ := bnE hE
  obtain ⟨hk4, hE⟩ := ckE hE
  refine r_getI rfl (fl_10_274 rfl) (Or.inl rfl) ha3 hk4 ?_
  cases hE
  exact r_ret rfl (Or.inl ⟨rfl, _, _, rfl, rfl, rfl, rfl⟩)
def Le_read (N : Nat) (a0 : Nat) (x1 : Int32) (x2 : Int32) (x3 : Int32) (x4 : Int32) (h : PH) : Option (Int32 × PH) :=
  ck ((hK h a0).1 = 10) <|
  bd (Le_hasHabit N a0 x1 h) fun v2 h3 =>
  if (bI v2) = 0 then
    some ((-1), h3)
  else
    if x2 < 0 then
      some ((-1), h3)
    else
      ck ((hK h3 a0).1 = 10) <|
      ((hR h3 a0 1)).bind fun a_8 =>
      ck ((hK h3 a_8).1 = 0) <|
      if (hI h3 a_8 0) < x2 then
        some ((-1), h3)
      else
        if x3 < 0 then
          some ((-1), h3)
        else
          if 120 < x3 then
            some ((-1), h3)
          else
            if x4 < 0 then
              some ((-1), h3)
            else
              if x4 ≤ 1 then
                ((hR h3 a0 16)).bind fun a_16 =>
                ck ((hK h3 a_16).1 = 5) <|
                bd (Rd_tell N a_16 x1 x2 h3) fun v19 h20 =>
                if x4 = 0 then
                  ck ((hK h20 a0).1 = 10) <|
                  ((hR h20 a0 16)).bind fun a_24 =>
                  ck ((hK h20 a_24).1 = 5) <|
                  bd (Rd_chanceOf N a_24 x3 h20) fun v27 h28 =>
                  some (v27, h28)
                else
                  ck ((hK h20 a0).1 = 10) <|
                  ((hR h20 a0 16)).bind fun a_31 =>
                  ck ((hK h20 a_31).1 = 5) <|
                  bd (Rd_likeliest N a_31 x3 h20) fun v34 h35 =>
                  some (v34, h35)
              else
                some ((-1), h3)
set_option maxRecDepth 20000 in
theorem Le_read_ok (g : GT) (N : Nat) (a0 : Nat) (x1 : Int32) (x2 : Int32) (x3 : Int32) (x4 : Int32) (h : PH) (v : Int32) (h' : PH) (hE : Le_read N a0 x1 x2 x3 x4 h = some (v, h')) (D : Nat) (hD : 5 ≤ D) : Calls g D pLe_read [va_rf (some a0), .int x1, .int x2, .int x3, .int x4] h (oI v) h' := by
  refine Calls.of cok_Le_read ht_Le_read pl_Le_read (fun ad => by rw [lg_len, sL_cat]; simp only [List.map_cons, List.map_nil, rf_cat, cat_i, cat_l, List.sum_cons, List.sum_nil]; decide) ?_
  rw [show lv_args 0 [va_rf (some a0), .int x1, .int x2, .int x3, .int x4] = [(0, va_rf (some a0)), (1, .int x1), (2, .int x2), (3, .int x3), (4, .int x4)] from (by simp only [lv_args, rf_cat, cat_i, cat_l]; try rfl)]
  obtain ⟨D2, rfl⟩ : ∃ d, D = d + 1 := ⟨D - 1, by omega⟩
  unfold Le_read at hE
  refine r_aload_n (t := some a0) 0 rfl rfl rfl ?_
  refine r_iload_n 1 rfl rfl rfl ?_
  obtain ⟨hk1, hE⟩ := ckE hE
  obtain ⟨v2, h3, hq4, hE⟩ := bdE hE
  refine r_callV1 (rest := []) (hc := (Le_hasHabit_ok g N _ _ _ _ _ hq4 D2 (by omega))) rfl pm_Le_hasHabit lw_10_245 im_Le_hasHabit sl_Le_hasHabit rfl rfl rfl (rcOK hk1 rfl) (by decide) ?_
  refine r_if_eq (tgt := 44) rfl (by decide) (fun hc5 => ?_) (fun hc5 => ?_)
  · have hE := ifP hc5 hE
    refine r_iconst (-1) rfl ci_m1 ?_
    cases hE
    exact r_ret rfl (Or.inl ⟨rfl, _, _, rfl, rfl, rfl, rfl⟩)
  · have hE := ifN hc5 hE
    refine r_iload_n 2 rfl rfl rfl ?_
    refine r_if_lt (tgt := 44) rfl (by decide) (fun hc6 => ?_) (fun hc6 => ?_)
    · have hE := ifP hc6 hE
      refine r_iconst (-1) rfl ci_m1 ?_
      cases hE
      exact r_ret rfl (Or.inl ⟨rfl, _, _, rfl, rfl, rfl, rfl⟩)
    · have hE := ifN hc6 hE
      refine r_iload_n 2 rfl rfl rfl ?_
      refine r_aload_n (t := some a0) 0 rfl rfl rfl ?_
      obtain ⟨hk7, hE⟩ := ckE hE
      refine r_getR rfl (fl_10_19 rfl) (Or.inl ⟨_, rfl⟩) rfl hk7 ?_
      obtain ⟨a_8, ha9, hE⟩ := bnE hE
      obtain ⟨hk10, hE⟩ := ckE hE
      refine r_getI rfl (fl_10_134 rfl) (Or.inl rfl) ha9 hk10 ?_
      refine r_icmp_gt (tgt := 44) rfl (by decide) (fun hc11 => ?_) (fun hc11 => ?_)
      · have hE := ifP hc11 hE
        refine r_iconst (-1) rfl ci_m1 ?_
        cases hE
        exact r_ret rfl (Or.inl ⟨rfl, _, _, rfl, rfl, rfl, rfl⟩)
      · have hE := ifN hc11 hE
        refine r_iload_n 3 rfl rfl rfl ?_
        refine r_if_lt (tgt := 44) rfl (by decide) (fun hc12 => ?_) (fun hc12 => ?_)
        · have hE := ifP hc12 hE
          refine r_iconst (-1) rfl ci_m1 ?_
          cases hE
          exact r_ret rfl (Or.inl ⟨rfl, _, _, rfl, rfl, rfl, rfl⟩)
        · have hE := ifN hc12 hE
          refine r_iload_n 3 rfl rfl rfl ?_
          refine r_bipush 120 rfl cb_120 ?_
          refine r_icmp_gt (tgt := 44) rfl (by decide) (fun hc13 => ?_) (fun hc13 => ?_)
          · have hE := ifP hc13 hE
            refine r_iconst (-1) rfl ci_m1 ?_
            cases hE
            exact r_ret rfl (Or.inl ⟨rfl, _, _, rfl, rfl, rfl, rfl⟩)
          · have hE := ifN hc13 hE
            refine r_iload rfl rfl ?_
            refine r_if_lt (tgt := 44) rfl (by decide) (fun hc14 => ?_) (fun hc14 => ?_)
            · have hE := ifP hc14 hE
              refine r_iconst (-1) rfl ci_m1 ?_
              cases hE
              exact r_ret rfl (Or.inl ⟨rfl, _, _, rfl, rfl, rfl, rfl⟩)
            · have hE := ifN hc14 hE
              refine r_iload rfl rfl ?_
              refine r_iconst 1 rfl ci_1 ?_
              refine r_icmp_le (tgt := 46) rfl (by decide) (fun hc15 => ?_) (fun hc15 => ?_)
              · have hE := ifP hc15 hE
                refine r_aload_n (t := some a0) 0 rfl rfl rfl ?_
                refine r_getR rfl (fl_10_101 rfl) (Or.inl ⟨_, rfl⟩) rfl hk7 ?_
                refine r_iload_n 1 rfl rfl rfl ?_
                refine r_iload_n 2 rfl rfl rfl ?_
                obtain ⟨a_16, ha17, hE⟩ := bnE hE
                obtain ⟨hk18, hE⟩ := ckE hE
                obtain ⟨v19, h20, hq21, hE⟩ := bdE hE
                refine r_callV0 (rest := []) (hc := (Rd_tell_ok g N _ _ _ _ _ _ hq21 D2 (by omega))) rfl pm_Rd_tell lw_10_279 im_Rd_tell sl_Rd_tell ha17 rfl rfl (rcOK hk18 rfl) (by decide) ?_
                refine r_iload rfl rfl ?_
                refine r_if_ne (tgt := 71) rfl (by decide) (fun hc22 => ?_) (fun hc22 => ?_)
                · have hE := ifP hc22 hE
                  refine r_aload_n (t := some a0) 0 rfl rfl rfl ?_
                  obtain ⟨hk23, hE⟩ := ckE hE
                  refine r_getR rfl (fl_10_101 rfl) (Or.inl ⟨_, rfl⟩) rfl hk23 ?_
                  refine r_iload_n 3 rfl rfl rfl ?_
                  obtain ⟨a_24, ha25, hE⟩ := bnE hE
                  obtain ⟨hk26, hE⟩ := ckE hE
                  obtain ⟨v27, h28, hq29, hE⟩ := bdE hE
                  refine r_callV1 (rest := []) (hc := (Rd_chanceOf_ok g N _ _ _ _ _ hq29 D2 (by omega))) rfl pm_Rd_chanceOf lw_10_283 im_Rd_chanceOf sl_Rd_chanceOf ha25 rfl rfl (rcOK hk26 rfl) (by decide) ?_
                  refine r_goto (tgt := 79) rfl (by decide) ?_
                  cases hE
                  exact r_ret rfl (Or.inl ⟨rfl, _, _, rfl, rfl, rfl, rfl⟩)
                · have hE := ifN hc22 hE
                  refine r_aload_n (t := some a0) 0 rfl rfl rfl ?_
                  obtain ⟨hk30, hE⟩ := ckE hE
                  refine r_getR rfl (fl_10_101 rfl) (Or.inl ⟨_, rfl⟩) rfl hk30 ?_
                  refine r_iload_n 3 rfl rfl rfl ?_
                  obtain ⟨a_31, ha32, hE⟩ := bnE hE
                  obtain ⟨hk33, hE⟩ := ckE hE
                  obtain ⟨v34, h35, hq36, hE⟩ := bdE hE
                  refine r_callV1 (rest := []) (hc := (Rd_likeliest_ok g N _ _ _ _ _ hq36 D2 (by omega))) rfl pm_Rd_likeliest lw_10_287 im_Rd_likeliest sl_Rd_likeliest ha32 rfl rfl (rcOK hk33 rfl) (by decide) ?_
                  cases hE
                  exact r_ret rfl (Or.inl ⟨rfl, _, _, rfl, rfl, rfl, rfl⟩)
              · have hE := ifN hc15 hE
                refine r_iconst (-1) rfl ci_m1 ?_
                cases hE
                exact r_ret rfl (Or.inl ⟨rfl, _, _, rfl, rfl, rfl, rfl⟩)
def Le_sheets_b70 (N : Nat) (self_34 : Nat → Int32 → Int32 → Int64 → Int64 → Int64 → Int32 → PH → Option (Int32 × PH)) (s0 : Int64) (s1 : Int64) (a0 : Nat) (x1 : Int32) (x2 : Int32) (x3 : Int64) (x7 : Int64) (x9 : Int32) (h : PH) : Option (Int32 × PH) :=
  self_34 a0 x1 x2 x3 (s0 * s1) (x7 * 10) (x9 + 1) h
set_option maxRecDepth 20000 in
theorem Le_sheets_b70_ok (g : GT) (N : Nat) (D : Nat) (hD : 0 ≤ D) (self_34 : Nat → Int32 → Int32 → Int64 → Int64 → Int64 → Int32 → PH → Option (Int32 × PH)) (hself_34 : ∀ (a0 : Nat) (x1 : Int32) (x2 : Int32) (x3 : Int64) (x5 : Int64) (x7 : Int64) (x9 : Int32) (h : PH) (v : Int32) (h' : PH), self_34 a0 x1 x2 x3 x5 x7 x9 h = some (v, h') → Run g pLe_sheets D 34 [(0, va_rf (some a0)), (1, .int x1), (2, .int x2), (3, .long x3), (5, .long x5), (7, .long x7), (9, .int x9)] [] h (rI v) h') : ∀ (s0 : Int64) (s1 : Int64) (a0 : Nat) (x1 : Int32) (x2 : Int32) (x3 : Int64) (x7 : Int64) (x9 : Int32) (h : PH) (v : Int32) (h' : PH), Le_sheets_b70 N self_34 s0 s1 a0 x1 x2 x3 x7 x9 h = some (v, h') → Run g pLe_sheets D 70 [(0, va_rf (some a0)), (1, .int x1), (2, .int x2), (3, .long x3), (7, .long x7), (9, .int x9)] [.long s1, .long s0] h (rI v) h' := by
  intro s0 s1 a0 x1 x2 x3 x7 x9 h v h' hE
  unfold Le_sheets_b70 at hE
  refine r_lmul rfl ?_
  refine r_lstore rfl (by decide) ?_
  refine r_lload rfl rfl ?_
  refine r_ldc2 rfl kc_10_293 ?_
  refine r_lmul rfl ?_
  refine r_lstore rfl (by decide) ?_
  refine r_iinc _ rfl rfl (congrArg _ ci_1) (by decide) ?_
  refine r_goto (tgt := 34) rfl (by decide) ?_
  first | exact r_sb (hself_34 _ _ _ _ _ _ _ _ _ _ hE) ⟨rfl, rfl, rfl, rfl, rfl, rfl, rfl, trivial⟩ | exact r_sb (hself_34 _ _ _ _ _ _ _ _ _ _ hE) (by simp only [su1, su2, dr1_rf, dr1_in, dr1_lo, dr2_rf, dr2_in, dr2_lo]; exact ⟨rfl, rfl, rfl, rfl, rfl, rfl, rfl, trivial⟩)
def Le_sheets_b90 (N : Nat) : Nat → Int32 → Int32 → Int64 → Int64 → Int64 → Int32 → PH → Option (Int32 × PH)
  | 0 => fun _ _ _ _ _ _ _ => none
  | n + 1 => fun x1 x2 x3 x5 x7 x9 h =>
    if x2 < x9 then
      if (lg_cmp x7 0) ≤ 0 then
        some ((-1), h)
      else
        ck (¬ x7 = 0) <|
        some ((Int64.toInt32 ((x3 * x5) / x7)), h)
    else
      ck (¬ (Int32.toInt64 x9) = 0) <|
      (Le_sheets_b90 N n) x1 x2 ((x3 * (Int32.toInt64 ((x1 - x2) + x9))) / (Int32.toInt64 x9)) x5 x7 (x9 + 1) h
set_option maxRecDepth 20000 in
theorem Le_sheets_b90_ok (g : GT) (N : Nat) (D : Nat) (hD : 0 ≤ D) : ∀ (n : Nat) (x1 : Int32) (x2 : Int32) (x3 : Int64) (x5 : Int64) (x7 : Int64) (x9 : Int32) (h : PH) (v : Int32) (h' : PH), Le_sheets_b90 N n x1 x2 x3 x5 x7 x9 h = some (v, h') → Run g pLe_sheets D 90 [(1, .int x1), (2, .int x2), (3, .long x3), (5, .long x5), (7, .long x7), (9, .int x9)] [] h (rI v) h' := by
  intro n
  induction n with
  | zero => exact fun _ _ _ _ _ _ _ _ _ hE => nomatch (show none = some _ from hE)
  | succ n ih =>
    intro x1 x2 x3 x5 x7 x9 h v h' hE
    unfold Le_sheets_b90 at hE
    refine r_iload rfl rfl ?_
    refine r_iload_n 2 rfl rfl rfl ?_
    refine r_icmp_gt (tgt := 116) rfl (by decide) (fun hc1 => ?_) (fun hc1 => ?_)
    · have hE := ifP hc1 hE
      refine r_lload rfl rfl ?_
      refine r_lconst 0 rfl cl_0 ?_
      refine r_lcmp rfl ?_
      refine r_if_le (tgt := 134) rfl (by decide) (fun hc2 => ?_) (fun hc2 => ?_)
      · have hE := ifP hc2 hE
        refine r_iconst (-1) rfl ci_m1 ?_
        cases hE
        exact r_ret rfl (Or.inl ⟨rfl, _, _, rfl, rfl, rfl, rfl⟩)
      · have hE := ifN hc2 hE
        refine r_lload_n 3 rfl rfl rfl ?_
        refine r_lload rfl rfl ?_
        refine r_lmul rfl ?_
        refine r_lload rfl rfl ?_
        obtain ⟨hc3, hE⟩ := ckE hE
        refine r_ldiv rfl hc3 ?_
        refine r_l2i rfl ?_
        refine r_goto (tgt := 135) rfl (by decide) ?_
        cases hE
        exact r_ret rfl (Or.inl ⟨rfl, _, _, rfl, rfl, rfl, rfl⟩)
    · have hE := ifN hc1 hE
      refine r_lload_n 3 rfl rfl rfl ?_
      refine r_iload_n 1 rfl rfl rfl ?_
      refine r_iload_n 2 rfl rfl rfl ?_
      refine r_isub rfl ?_
      refine r_iload rfl rfl ?_
      refine r_iadd rfl ?_
      refine r_i2l rfl ?_
      refine r_lmul rfl ?_
      refine r_iload rfl rfl ?_
      refine r_i2l rfl ?_
      obtain ⟨hc4, hE⟩ := ckE hE
      refine r_ldiv rfl hc4 ?_
      refine r_lstore_n 3 rfl rfl (by decide) ?_
      refine r_iinc _ rfl rfl (congrArg _ ci_1) (by decide) ?_
      refine r_goto (tgt := 90) rfl (by decide) ?_
      first | exact r_sb (ih _ _ _ _ _ _ _ _ _ hE) ⟨rfl, rfl, rfl, rfl, rfl, rfl, trivial⟩ | exact r_sb (ih _ _ _ _ _ _ _ _ _ hE) (by simp only [su1, su2, dr1_rf, dr1_in, dr1_lo, dr2_rf, dr2_in, dr2_lo]; exact ⟨rfl, rfl, rfl, rfl, rfl, rfl, trivial⟩)
def Le_sheets_b34 (N : Nat) : Nat → Nat → Int32 → Int32 → Int64 → Int64 → Int64 → Int32 → PH → Option (Int32 × PH)
  | 0 => fun _ _ _ _ _ _ _ _ => none
  | n + 1 => fun a0 x1 x2 x3 x5 x7 x9 h =>
    if x1 ≤ x9 then
      Le_sheets_b90 N N x1 x2 x3 x5 x7 1 h
    else
      if x2 ≤ x9 then
        ck ((hK h a0).1 = 10) <|
        ((hR h a0 1)).bind fun a_4 =>
        ck ((hK h a_4).1 = 0) <|
        Le_sheets_b70 N (Le_sheets_b34 N n)  x5 (Int32.toInt64 (10 - (hI h a_4 11))) a0 x1 x2 x3 x7 x9 h
      else
        ck ((hK h a0).1 = 10) <|
        ((hR h a0 1)).bind fun a_8 =>
        ck ((hK h a_8).1 = 0) <|
        Le_sheets_b70 N (Le_sheets_b34 N n)  x5 (Int32.toInt64 (hI h a_8 11)) a0 x1 x2 x3 x7 x9 h
set_option maxRecDepth 20000 in
theorem Le_sheets_b34_ok (g : GT) (N : Nat) (D : Nat) (hD : 0 ≤ D) : ∀ (n : Nat) (a0 : Nat) (x1 : Int32) (x2 : Int32) (x3 : Int64) (x5 : Int64) (x7 : Int64) (x9 : Int32) (h : PH) (v : Int32) (h' : PH), Le_sheets_b34 N n a0 x1 x2 x3 x5 x7 x9 h = some (v, h') → Run g pLe_sheets D 34 [(0, va_rf (some a0)), (1, .int x1), (2, .int x2), (3, .long x3), (5, .long x5), (7, .long x7), (9, .int x9)] [] h (rI v) h' := by
  intro n
  induction n with
  | zero => exact fun _ _ _ _ _ _ _ _ _ _ hE => nomatch (show none = some _ from hE)
  | succ n ih =>
    intro a0 x1 x2 x3 x5 x7 x9 h v h' hE
    unfold Le_sheets_b34 at hE
    refine r_iload rfl rfl ?_
    refine r_iload_n 1 rfl rfl rfl ?_
    refine r_icmp_ge (tgt := 87) rfl (by decide) (fun hc1 => ?_) (fun hc1 => ?_)
    · have hE := ifP hc1 hE
      refine r_iconst 1 rfl ci_1 ?_
      refine r_istore rfl (by decide) ?_
      first | exact r_sb (Le_sheets_b90_ok g N _ hD  N _ _ _ _ _ _ _ _ _ hE) ⟨rfl, rfl, rfl, rfl, rfl, rfl, trivial⟩ | exact r_sb (Le_sheets_b90_ok g N _ hD  N _ _ _ _ _ _ _ _ _ hE) (by simp only [su1, su2, dr1_rf, dr1_in, dr1_lo, dr2_rf, dr2_in, dr2_lo]; exact ⟨rfl, rfl, rfl, rfl, rfl, rfl, trivial⟩)
    · have hE := ifN hc1 hE
      refine r_lload rfl rfl ?_
      refine r_iload rfl rfl ?_
      refine r_iload_n 2 rfl rfl rfl ?_
      refine r_icmp_ge (tgt := 59) rfl (by decide) (fun hc2 => ?_) (fun hc2 => ?_)
      · have hE := ifP hc2 hE
        refine r_bipush 10 rfl cb_10 ?_
        refine r_aload_n (t := some a0) 0 rfl rfl rfl ?_
        obtain ⟨hk3, hE⟩ := ckE hE
        refine r_getR rfl (fl_10_19 rfl) (Or.inl ⟨_, rfl⟩) rfl hk3 ?_
        obtain ⟨a_4, ha5, hE⟩ := bnE hE
        obtain ⟨hk6, hE⟩ := ckE hE
        refine r_getI rfl (fl_10_290 rfl) (Or.inl rfl) ha5 hk6 ?_
        refine r_isub rfl ?_
        refine r_i2l rfl ?_
        first | exact r_sb (Le_sheets_b70_ok g N _ hD _ ih  _ _ _ _ _ _ _ _ _ _ _ hE) ⟨rfl, rfl, rfl, rfl, rfl, rfl, trivial⟩ | exact r_sb (Le_sheets_b70_ok g N _ hD _ ih  _ _ _ _ _ _ _ _ _ _ _ hE) (by simp only [su1, su2, dr1_rf, dr1_in, dr1_lo, dr2_rf, dr2_in, dr2_lo]; exact ⟨rfl, rfl, rfl, rfl, rfl, rfl, trivial⟩)
      · have hE := ifN hc2 hE
        refine r_aload_n (t := some a0) 0 rfl rfl rfl ?_
        obtain ⟨hk7, hE⟩ := ckE hE
        refine r_getR rfl (fl_10_19 rfl) (Or.inl ⟨_, rfl⟩) rfl hk7 ?_
        obtain ⟨a_8, ha9, hE⟩ := bnE hE
        obtain ⟨hk10, hE⟩ := ckE hE
        refine r_getI rfl (fl_10_290 rfl) (Or.inl rfl) ha9 hk10 ?_
        refine r_i2l rfl ?_
        refine r_goto (tgt := 70) rfl (by decide) ?_
        first | exact r_sb (Le_sheets_b70_ok g N _ hD _ ih  _ _ _ _ _ _ _ _ _ _ _ hE) ⟨rfl, rfl, rfl, rfl, rfl, rfl, trivial⟩ | exact r_sb (Le_sheets_b70_ok g N _ hD _ ih  _ _ _ _ _ _ _ _ _ _ _ hE) (by simp only [su1, su2, dr1_rf, dr1_in, dr1_lo, dr2_rf, dr2_in, dr2_lo]; exact ⟨rfl, rfl, rfl, rfl, rfl, rfl, trivial⟩)
def Le_sheets (N : Nat) (a0 : Nat) (x1 : Int32) (x2 : Int32) (h : PH) : Option (Int32 × PH) :=
  if x1 < 0 then
    some ((-1), h)
  else
    if 8 < x1 then
      some ((-1), h)
    else
      if x2 < 0 then
        some ((-1), h)
      else
        if x2 ≤ x1 then
          Le_sheets_b34 N N a0 x1 x2 1 1000000 1 0 h
        else
          some ((-1), h)
set_option maxRecDepth 20000 in
theorem Le_sheets_ok (g : GT) (N : Nat) (a0 : Nat) (x1 : Int32) (x2 : Int32) (h : PH) (v : Int32) (h' : PH) (hE : Le_sheets N a0 x1 x2 h = some (v, h')) (D : Nat) (hD : 0 ≤ D) : Calls g D pLe_sheets [va_rf (some a0), .int x1, .int x2] h (oI v) h' := by
  refine Calls.of cok_Le_sheets ht_Le_sheets pl_Le_sheets (fun ad => by rw [lg_len, sL_cat]; simp only [List.map_cons, List.map_nil, rf_cat, cat_i, cat_l, List.sum_cons, List.sum_nil]; decide) ?_
  rw [show lv_args 0 [va_rf (some a0), .int x1, .int x2] = [(0, va_rf (some a0)), (1, .int x1), (2, .int x2)] from (by simp only [lv_args, rf_cat, cat_i, cat_l]; try rfl)]
  unfold Le_sheets at hE
  refine r_iload_n 1 rfl rfl rfl ?_
  refine r_if_lt (tgt := 19) rfl (by decide) (fun hc1 => ?_) (fun hc1 => ?_)
  · have hE := ifP hc1 hE
    refine r_iconst (-1) rfl ci_m1 ?_
    cases hE
    exact r_ret rfl (Or.inl ⟨rfl, _, _, rfl, rfl, rfl, rfl⟩)
  · have hE := ifN hc1 hE
    refine r_iload_n 1 rfl rfl rfl ?_
    refine r_bipush 8 rfl cb_8 ?_
    refine r_icmp_gt (tgt := 19) rfl (by decide) (fun hc2 => ?_) (fun hc2 => ?_)
    · have hE := ifP hc2 hE
      refine r_iconst (-1) rfl ci_m1 ?_
      cases hE
      exact r_ret rfl (Or.inl ⟨rfl, _, _, rfl, rfl, rfl, rfl⟩)
    · have hE := ifN hc2 hE
      refine r_iload_n 2 rfl rfl rfl ?_
      refine r_if_lt (tgt := 19) rfl (by decide) (fun hc3 => ?_) (fun hc3 => ?_)
      · have hE := ifP hc3 hE
        refine r_iconst (-1) rfl ci_m1 ?_
        cases hE
        exact r_ret rfl (Or.inl ⟨rfl, _, _, rfl, rfl, rfl, rfl⟩)
      · have hE := ifN hc3 hE
        refine r_iload_n 2 rfl rfl rfl ?_
        refine r_iload_n 1 rfl rfl rfl ?_
        refine r_icmp_le (tgt := 21) rfl (by decide) (fun hc4 => ?_) (fun hc4 => ?_)
        · have hE := ifP hc4 hE
          refine r_lconst 1 rfl cl_1 ?_
          refine r_lstore_n 3 rfl rfl (by decide) ?_
          refine r_ldc2 rfl kc_10_277 ?_
          refine r_lstore rfl (by decide) ?_
          refine r_lconst 1 rfl cl_1 ?_
          refine r_lstore rfl (by decide) ?_
          refine r_iconst 0 rfl ci_0 ?_
          refine r_istore rfl (by decide) ?_
          first | exact r_sb (Le_sheets_b34_ok g N _ hD  N _ _ _ _ _ _ _ _ _ _ hE) ⟨rfl, rfl, rfl, rfl, rfl, rfl, rfl, trivial⟩ | exact r_sb (Le_sheets_b34_ok g N _ hD  N _ _ _ _ _ _ _ _ _ _ hE) (by simp only [su1, su2, dr1_rf, dr1_in, dr1_lo, dr2_rf, dr2_in, dr2_lo]; exact ⟨rfl, rfl, rfl, rfl, rfl, rfl, rfl, trivial⟩)
        · have hE := ifN hc4 hE
          refine r_iconst (-1) rfl ci_m1 ?_
          cases hE
          exact r_ret rfl (Or.inl ⟨rfl, _, _, rfl, rfl, rfl, rfl⟩)
def Le_callersDrawn_b5 (N : Nat) : Nat → Nat → Int32 → Int32 → Int32 → Int32 → PH → Option (Int32 × PH)
  | 0 => fun _ _ _ _ _ _ => none
  | n + 1 => fun a0 x1 x2 x3 x4 h =>
    if 3 ≤ x4 then
      some (3, h)
    else
      ck ((hK h a0).1 = 10) <|
      ((hR h a0 1)).bind fun a_3 =>
      ck ((hK h a_3).1 = 0) <|
      bd (Ho_chance N a_3 0 x1 x4 h) fun v6 h7 =>
      if (x3 + v6) ≤ x2 then
        (Le_callersDrawn_b5 N n) a0 x1 x2 (x3 + v6) (x4 + 1) h7
      else
        some (x4, h7)
set_option maxRecDepth 20000 in
theorem Le_callersDrawn_b5_ok (g : GT) (N : Nat) (D : Nat) (hD : 2 ≤ D) : ∀ (n : Nat) (a0 : Nat) (x1 : Int32) (x2 : Int32) (x3 : Int32) (x4 : Int32) (h : PH) (v : Int32) (h' : PH), Le_callersDrawn_b5 N n a0 x1 x2 x3 x4 h = some (v, h') → Run g pLe_callersDrawn D 5 [(0, va_rf (some a0)), (1, .int x1), (2, .int x2), (3, .int x3), (4, .int x4)] [] h (rI v) h' := by
  obtain ⟨D2, rfl⟩ : ∃ d, D = d + 1 := ⟨D - 1, by omega⟩
  intro n
  induction n with
  | zero => exact fun _ _ _ _ _ _ _ _ hE => nomatch (show none = some _ from hE)
  | succ n ih =>
    intro a0 x1 x2 x3 x4 h v h' hE
    unfold Le_callersDrawn_b5 at hE
    refine r_iload rfl rfl ?_
    refine r_iconst 3 rfl ci_3 ?_
    refine r_icmp_ge (tgt := 39) rfl (by decide) (fun hc1 => ?_) (fun hc1 => ?_)
    · have hE := ifP hc1 hE
      refine r_iconst 3 rfl ci_3 ?_
      cases hE
      exact r_ret rfl (Or.inl ⟨rfl, _, _, rfl, rfl, rfl, rfl⟩)
    · have hE := ifN hc1 hE
      refine r_iload_n 3 rfl rfl rfl ?_
      refine r_aload_n (t := some a0) 0 rfl rfl rfl ?_
      obtain ⟨hk2, hE⟩ := ckE hE
      refine r_getR rfl (fl_10_19 rfl) (Or.inl ⟨_, rfl⟩) rfl hk2 ?_
      refine r_iconst 0 rfl ci_0 ?_
      refine r_iload_n 1 rfl rfl rfl ?_
      refine r_iload rfl rfl ?_
      obtain ⟨a_3, ha4, hE⟩ := bnE hE
      obtain ⟨hk5, hE⟩ := ckE hE
      obtain ⟨v6, h7, hq8, hE⟩ := bdE hE
      refine r_callV1 (rest := [.int x3]) (hc := (Ho_chance_ok g N _ _ _ _ _ _ _ hq8 D2 (by omega))) rfl pm_Ho_chance lw_10_137 im_Ho_chance sl_Ho_chance ha4 rfl rfl (rcOK hk5 rfl) (by simp only [List.map_cons, List.map_nil, rf_cat, cat_i, cat_l, List.sum_cons, List.sum_nil]; decide) ?_
      refine r_iadd rfl ?_
      refine r_istore_n 3 rfl rfl (by decide) ?_
      refine r_iload_n 2 rfl rfl rfl ?_
      refine r_iload_n 3 rfl rfl rfl ?_
      refine r_icmp_ge (tgt := 33) rfl (by decide) (fun hc9 => ?_) (fun hc9 => ?_)
      · have hE := ifP hc9 hE
        refine r_iinc _ rfl rfl (congrArg _ ci_1) (by decide) ?_
        refine r_goto (tgt := 5) rfl (by decide) ?_
        first | exact r_sb (ih _ _ _ _ _ _ _ _ hE) ⟨rfl, rfl, rfl, rfl, rfl, trivial⟩ | exact r_sb (ih _ _ _ _ _ _ _ _ hE) (by simp only [su1, su2, dr1_rf, dr1_in, dr1_lo, dr2_rf, dr2_in, dr2_lo]; exact ⟨rfl, rfl, rfl, rfl, rfl, trivial⟩)
      · have hE := ifN hc9 hE
        refine r_iload rfl rfl ?_
        cases hE
        exact r_ret rfl (Or.inl ⟨rfl, _, _, rfl, rfl, rfl, rfl⟩)
def Le_callersDrawn (N : Nat) (a0 : Nat) (x1 : Int32) (x2 : Int32) (h : PH) : Option (Int32 × PH) :=
  Le_callersDrawn_b5 N N a0 x1 x2 0 0 h
set_option maxRecDepth 20000 in
theorem Le_callersDrawn_ok (g : GT) (N : Nat) (a0 : Nat) (x1 : Int32) (x2 : Int32) (h : PH) (v : Int32) (h' : PH) (hE : Le_callersDrawn N a0 x1 x2 h = some (v, h')) (D : Nat) (hD : 2 ≤ D) : Calls g D pLe_callersDrawn [va_rf (some a0), .int x1, .int x2] h (oI v) h' := by
  refine Calls.of cok_Le_callersDrawn ht_Le_callersDrawn pl_Le_callersDrawn (fun ad => by rw [lg_len, sL_cat]; simp only [List.map_cons, List.map_nil, rf_cat, cat_i, cat_l, List.sum_cons, List.sum_nil]; decide) ?_
  rw [show lv_args 0 [va_rf (some a0), .int x1, .int x2] = [(0, va_rf (some a0)), (1, .int x1), (2, .int x2)] from (by simp only [lv_args, rf_cat, cat_i, cat_l]; try rfl)]
  obtain ⟨D2, rfl⟩ : ∃ d, D = d + 1 := ⟨D - 1, by omega⟩
  unfold Le_callersDrawn at hE
  refine r_iconst 0 rfl ci_0 ?_
  refine r_istore_n 3 rfl rfl (by decide) ?_
  refine r_iconst 0 rfl ci_0 ?_
  refine r_istore rfl (by decide) ?_
  first | exact r_sb (Le_callersDrawn_b5_ok g N _ hD  N _ _ _ _ _ _ _ _ hE) ⟨rfl, rfl, rfl, rfl, rfl, trivial⟩ | exact r_sb (Le_callersDrawn_b5_ok g N _ hD  N _ _ _ _ _ _ _ _ hE) (by simp only [su1, su2, dr1_rf, dr1_in, dr1_lo, dr2_rf, dr2_in, dr2_lo]; exact ⟨rfl, rfl, rfl, rfl, rfl, trivial⟩)
def Le_drawEvening_b136 (N : Nat) (self_17 : Nat → Int32 → Int64 → Int32 → PH → Option (Int64 × PH)) (a0 : Nat) (x3 : Int32) (x4 : Int64) (x6 : Int32) (h : PH) : Option (Int64 × PH) :=
  ck ((hK h a0).1 = 10) <|
  ((hR h a0 7)).bind fun a_2 =>
  ck ((hK h a_2).1 = 3) <|
  bd (Ni_pass N a_2 (hR h a0 1) h) fun v5 h6 =>
  self_17 a0 x3 x4 (x6 + 1) h6
set_option maxRecDepth 20000 in
theorem Le_drawEvening_b136_ok (g : GT) (N : Nat) (D : Nat) (hD : 5 ≤ D) (self_17 : Nat → Int32 → Int64 → Int32 → PH → Option (Int64 × PH)) (hself_17 : ∀ (a0 : Nat) (x3 : Int32) (x4 : Int64) (x6 : Int32) (h : PH) (v : Int64) (h' : PH), self_17 a0 x3 x4 x6 h = some (v, h') → Run g pLe_drawEvening D 17 [(0, va_rf (some a0)), (3, .int x3), (4, .long x4), (6, .int x6)] [] h (rJ v) h') : ∀ (a0 : Nat) (x3 : Int32) (x4 : Int64) (x6 : Int32) (h : PH) (v : Int64) (h' : PH), Le_drawEvening_b136 N self_17 a0 x3 x4 x6 h = some (v, h') → Run g pLe_drawEvening D 136 [(0, va_rf (some a0)), (3, .int x3), (4, .long x4), (6, .int x6)] [] h (rJ v) h' := by
  obtain ⟨D2, rfl⟩ : ∃ d, D = d + 1 := ⟨D - 1, by omega⟩
  intro a0 x3 x4 x6 h v h' hE
  unfold Le_drawEvening_b136 at hE
  refine r_aload_n (t := some a0) 0 rfl rfl rfl ?_
  obtain ⟨hk1, hE⟩ := ckE hE
  refine r_getR rfl (fl_10_52 rfl) (Or.inl ⟨_, rfl⟩) rfl hk1 ?_
  refine r_aload_n (t := some a0) 0 rfl rfl rfl ?_
  refine r_getR rfl (fl_10_19 rfl) (Or.inl ⟨_, rfl⟩) rfl hk1 ?_
  obtain ⟨a_2, ha3, hE⟩ := bnE hE
  obtain ⟨hk4, hE⟩ := ckE hE
  obtain ⟨v5, h6, hq7, hE⟩ := bdE hE
  refine r_callV0 (rest := []) (hc := (Ni_pass_ok g N _ _ _ _ _ hq7 D2 (by omega))) rfl pm_Ni_pass lw_10_167 im_Ni_pass sl_Ni_pass ha3 rfl rfl (rcOK hk4 rfl) (by decide) ?_
  refine r_iinc _ rfl rfl (congrArg _ ci_1) (by decide) ?_
  refine r_goto (tgt := 17) rfl (by decide) ?_
  first | exact r_sb (hself_17 _ _ _ _ _ _ _ hE) ⟨rfl, rfl, rfl, rfl, trivial⟩ | exact r_sb (hself_17 _ _ _ _ _ _ _ hE) (by simp only [su1, su2, dr1_rf, dr1_in, dr1_lo, dr2_rf, dr2_in, dr2_lo]; exact ⟨rfl, rfl, rfl, rfl, trivial⟩)
def Le_drawEvening_b77 (N : Nat) (self_17 : Nat → Int32 → Int64 → Int32 → PH → Option (Int64 × PH)) (s0 : Int32) (s1 : Int32) (a0 : Nat) (x3 : Int32) (x4 : Int64) (x6 : Int32) (h : PH) : Option (Int64 × PH) :=
  ck ((hK h a0).1 = 10) <|
  ((hR h a0 7)).bind fun a_2 =>
  ck ((hK h a_2).1 = 3) <|
  bd (Ni_arrive N a_2 (hR h a0 1) (s0 + s1) h) fun v5 h6 =>
  if (s0 + s1) ≤ 0 then
    Le_drawEvening_b136 N self_17  a0 x3 x4 x6 h6
  else
    ck ((hK h6 a0).1 = 10) <|
    ((hR h6 a0 7)).bind fun a_10 =>
    ck ((hK h6 a_10).1 = 3) <|
    ((hR h6 a0 15)).bind fun a_13 =>
    ck ((hK h6 a_13).1 = 2) <|
    bd (Me_giveOf N a_13 x3 x6 (hI h6 a_10 1) (hI h6 a_10 2) (s0 + s1) h6) fun v16 h17 =>
    ck ((hK h17 a_10).1 = 3) <|
    bd (Ni_hand N a_10 (hR h6 a0 1) v16 h17) fun v20 h21 =>
    Le_drawEvening_b136 N self_17  a0 x3 x4 x6 h21
set_option maxRecDepth 20000 in
theorem Le_drawEvening_b77_ok (g : GT) (N : Nat) (D : Nat) (hD : 5 ≤ D) (self_17 : Nat → Int32 → Int64 → Int32 → PH → Option (Int64 × PH)) (hself_17 : ∀ (a0 : Nat) (x3 : Int32) (x4 : Int64) (x6 : Int32) (h : PH) (v : Int64) (h' : PH), self_17 a0 x3 x4 x6 h = some (v, h') → Run g pLe_drawEvening D 17 [(0, va_rf (some a0)), (3, .int x3), (4, .long x4), (6, .int x6)] [] h (rJ v) h') : ∀ (s0 : Int32) (s1 : Int32) (a0 : Nat) (x3 : Int32) (x4 : Int64) (x6 : Int32) (h : PH) (v : Int64) (h' : PH), Le_drawEvening_b77 N self_17 s0 s1 a0 x3 x4 x6 h = some (v, h') → Run g pLe_drawEvening D 77 [(0, va_rf (some a0)), (3, .int x3), (4, .long x4), (6, .int x6)] [.int s1, .int s0] h (rJ v) h' := by
  obtain ⟨D2, rfl⟩ : ∃ d, D = d + 1 := ⟨D - 1, by omega⟩
  intro s0 s1 a0 x3 x4 x6 h v h' hE
  unfold Le_drawEvening_b77 at hE
  refine r_iadd rfl ?_
  refine r_istore rfl (by decide) ?_
  refine r_aload_n (t := some a0) 0 rfl rfl rfl ?_
  obtain ⟨hk1, hE⟩ := ckE hE
  refine r_getR rfl (fl_10_52 rfl) (Or.inl ⟨_, rfl⟩) rfl hk1 ?_
  refine r_aload_n (t := some a0) 0 rfl rfl rfl ?_
  refine r_getR rfl (fl_10_19 rfl) (Or.inl ⟨_, rfl⟩) rfl hk1 ?_
  refine r_iload rfl rfl ?_
  obtain ⟨a_2, ha3, hE⟩ := bnE hE
  obtain ⟨hk4, hE⟩ := ckE hE
  obtain ⟨v5, h6, hq7, hE⟩ := bdE hE
  refine r_callV0 (rest := []) (hc := (Ni_arrive_ok g N _ _ _ _ _ _ hq7 D2 (by omega))) rfl pm_Ni_arrive lw_10_148 im_Ni_arrive sl_Ni_arrive ha3 rfl rfl (rcOK hk4 rfl) (by decide) ?_
  refine r_iload rfl rfl ?_
  refine r_if_le (tgt := 136) rfl (by decide) (fun hc8 => ?_) (fun hc8 => ?_)
  · have hE := ifP hc8 hE
    first | exact r_sb (Le_drawEvening_b136_ok g N _ hD _ hself_17  _ _ _ _ _ _ _ hE) ⟨rfl, rfl, rfl, rfl, trivial⟩ | exact r_sb (Le_drawEvening_b136_ok g N _ hD _ hself_17  _ _ _ _ _ _ _ hE) (by simp only [su1, su2, dr1_rf, dr1_in, dr1_lo, dr2_rf, dr2_in, dr2_lo]; exact ⟨rfl, rfl, rfl, rfl, trivial⟩)
  · have hE := ifN hc8 hE
    refine r_aload_n (t := some a0) 0 rfl rfl rfl ?_
    obtain ⟨hk9, hE⟩ := ckE hE
    refine r_getR rfl (fl_10_52 rfl) (Or.inl ⟨_, rfl⟩) rfl hk9 ?_
    refine r_aload_n (t := some a0) 0 rfl rfl rfl ?_
    refine r_getR rfl (fl_10_19 rfl) (Or.inl ⟨_, rfl⟩) rfl hk9 ?_
    refine r_aload_n (t := some a0) 0 rfl rfl rfl ?_
    refine r_getR rfl (fl_10_92 rfl) (Or.inl ⟨_, rfl⟩) rfl hk9 ?_
    refine r_iload_n 3 rfl rfl rfl ?_
    refine r_iload rfl rfl ?_
    refine r_aload_n (t := some a0) 0 rfl rfl rfl ?_
    refine r_getR rfl (fl_10_52 rfl) (Or.inl ⟨_, rfl⟩) rfl hk9 ?_
    obtain ⟨a_10, ha11, hE⟩ := bnE hE
    obtain ⟨hk12, hE⟩ := ckE hE
    refine r_getI rfl (fl_10_203 rfl) (Or.inl rfl) ha11 hk12 ?_
    refine r_aload_n (t := some a0) 0 rfl rfl rfl ?_
    refine r_getR rfl (fl_10_52 rfl) (Or.inl ⟨_, rfl⟩) rfl hk9 ?_
    refine r_getI rfl (fl_10_206 rfl) (Or.inl rfl) ha11 hk12 ?_
    refine r_iload rfl rfl ?_
    obtain ⟨a_13, ha14, hE⟩ := bnE hE
    obtain ⟨hk15, hE⟩ := ckE hE
    obtain ⟨v16, h17, hq18, hE⟩ := bdE hE
    refine r_callV1 (rest := [va_rf (hR h6 a0 1), va_rf (hR h6 a0 7)]) (hc := (Me_giveOf_ok g N _ _ _ _ _ _ _ _ _ hq18 D2 (by omega))) rfl pm_Me_giveOf lw_10_344 im_Me_giveOf sl_Me_giveOf ha14 rfl rfl (rcOK hk15 rfl) (by simp only [List.map_cons, List.map_nil, rf_cat, cat_i, cat_l, List.sum_cons, List.sum_nil]; decide) ?_
    obtain ⟨hk19, hE⟩ := ckE hE
    obtain ⟨v20, h21, hq22, hE⟩ := bdE hE
    refine r_callV1 (rest := []) (hc := (Ni_hand_ok g N _ _ _ _ _ _ hq22 D2 (by omega))) rfl pm_Ni_hand lw_10_159 im_Ni_hand sl_Ni_hand ha11 rfl rfl (rcOK hk19 rfl) (by decide) ?_
    refine r_pop rfl rfl ?_
    first | exact r_sb (Le_drawEvening_b136_ok g N _ hD _ hself_17  _ _ _ _ _ _ _ hE) ⟨rfl, rfl, rfl, rfl, trivial⟩ | exact r_sb (Le_drawEvening_b136_ok g N _ hD _ hself_17  _ _ _ _ _ _ _ hE) (by simp only [su1, su2, dr1_rf, dr1_in, dr1_lo, dr2_rf, dr2_in, dr2_lo]; exact ⟨rfl, rfl, rfl, rfl, trivial⟩)
def Le_drawEvening_b17 (N : Nat) : Nat → Nat → Int32 → Int64 → Int32 → PH → Option (Int64 × PH)
  | 0 => fun _ _ _ _ _ => none
  | n + 1 => fun a0 x3 x4 x6 h =>
    ck ((hK h a0).1 = 10) <|
    ((hR h a0 1)).bind fun a_2 =>
    ck ((hK h a_2).1 = 0) <|
    if (hI h a_2 0) ≤ x6 then
      some (x4, h)
    else
      ck (¬ (2147483648 : Int64) = 0) <|
      ck (¬ (65536 : Int64) = 0) <|
      ck (¬ (10 : Int64) = 0) <|
      bd (Le_callersDrawn N a0 x6 (Int64.toInt32 (((((x4 * 1103515245) + 12345) - ((x4 * 1103515245) + 12345) / 2147483648 * 2147483648) / 65536) - ((((x4 * 1103515245) + 12345) - ((x4 * 1103515245) + 12345) / 2147483648 * 2147483648) / 65536) / 10 * 10)) h) fun v9 h10 =>
      ck ((hK h10 a0).1 = 10) <|
      ((hR h10 a0 7)).bind fun a_13 =>
      ck ((hK h10 a_13).1 = 3) <|
      if (bI (hZ h10 a_13 12)) = 0 then
        Le_drawEvening_b77 N (Le_drawEvening_b17 N n)  v9 0 a0 x3 (((x4 * 1103515245) + 12345) - ((x4 * 1103515245) + 12345) / 2147483648 * 2147483648) x6 h10
      else
        Le_drawEvening_b77 N (Le_drawEvening_b17 N n)  v9 1 a0 x3 (((x4 * 1103515245) + 12345) - ((x4 * 1103515245) + 12345) / 2147483648 * 2147483648) x6 h10
set_option maxRecDepth 20000 in
theorem Le_drawEvening_b17_ok (g : GT) (N : Nat) (D : Nat) (hD : 5 ≤ D) : ∀ (n : Nat) (a0 : Nat) (x3 : Int32) (x4 : Int64) (x6 : Int32) (h : PH) (v : Int64) (h' : PH), Le_drawEvening_b17 N n a0 x3 x4 x6 h = some (v, h') → Run g pLe_drawEvening D 17 [(0, va_rf (some a0)), (3, .int x3), (4, .long x4), (6, .int x6)] [] h (rJ v) h' := by
  obtain ⟨D2, rfl⟩ : ∃ d, D = d + 1 := ⟨D - 1, by omega⟩
  intro n
  induction n with
  | zero => exact fun _ _ _ _ _ _ _ hE => nomatch (show none = some _ from hE)
  | succ n ih =>
    intro a0 x3 x4 x6 h v h' hE
    unfold Le_drawEvening_b17 at hE
    refine r_iload rfl rfl ?_
    refine r_aload_n (t := some a0) 0 rfl rfl rfl ?_
    obtain ⟨hk1, hE⟩ := ckE hE
    refine r_getR rfl (fl_10_19 rfl) (Or.inl ⟨_, rfl⟩) rfl hk1 ?_
    obtain ⟨a_2, ha3, hE⟩ := bnE hE
    obtain ⟨hk4, hE⟩ := ckE hE
    refine r_getI rfl (fl_10_134 rfl) (Or.inl rfl) ha3 hk4 ?_
    refine r_icmp_ge (tgt := 153) rfl (by decide) (fun hc5 => ?_) (fun hc5 => ?_)
    · have hE := ifP hc5 hE
      refine r_lload rfl rfl ?_
      cases hE
      exact r_ret rfl (Or.inr (Or.inl ⟨rfl, _, rfl, rfl, rfl⟩))
    · have hE := ifN hc5 hE
      refine r_lload rfl rfl ?_
      refine r_ldc2 rfl kc_10_333 ?_
      refine r_lmul rfl ?_
      refine r_ldc2 rfl kc_10_335 ?_
      refine r_ladd rfl ?_
      refine r_ldc2 rfl kc_10_337 ?_
      obtain ⟨hc6, hE⟩ := ckE hE
      refine r_lrem rfl hc6 ?_
      refine r_lstore rfl (by decide) ?_
      refine r_aload_n (t := some a0) 0 rfl rfl rfl ?_
      refine r_iload rfl rfl ?_
      refine r_lload rfl rfl ?_
      refine r_ldc2 rfl kc_10_339 ?_
      obtain ⟨hc7, hE⟩ := ckE hE
      refine r_ldiv rfl hc7 ?_
      refine r_ldc2 rfl kc_10_293 ?_
      obtain ⟨hc8, hE⟩ := ckE hE
      refine r_lrem rfl hc8 ?_
      refine r_l2i rfl ?_
      obtain ⟨v9, h10, hq11, hE⟩ := bdE hE
      refine r_callV1 (rest := []) (hc := (Le_callersDrawn_ok g N _ _ _ _ _ _ hq11 D2 (by omega))) rfl pm_Le_callersDrawn lw_10_341 im_Le_callersDrawn sl_Le_callersDrawn rfl rfl rfl (rcOK hk1 rfl) (by decide) ?_
      refine r_aload_n (t := some a0) 0 rfl rfl rfl ?_
      obtain ⟨hk12, hE⟩ := ckE hE
      refine r_getR rfl (fl_10_52 rfl) (Or.inl ⟨_, rfl⟩) rfl hk12 ?_
      obtain ⟨a_13, ha14, hE⟩ := bnE hE
      obtain ⟨hk15, hE⟩ := ckE hE
      refine r_getZ rfl (fl_10_234 rfl) ha14 hk15 ?_
      refine r_if_eq (tgt := 76) rfl (by decide) (fun hc16 => ?_) (fun hc16 => ?_)
      · have hE := ifP hc16 hE
        refine r_iconst 0 rfl ci_0 ?_
        first | exact r_sb (Le_drawEvening_b77_ok g N _ hD _ ih  _ _ _ _ _ _ _ _ _ hE) ⟨rfl, rfl, rfl, rfl, trivial⟩ | exact r_sb (Le_drawEvening_b77_ok g N _ hD _ ih  _ _ _ _ _ _ _ _ _ hE) (by simp only [su1, su2, dr1_rf, dr1_in, dr1_lo, dr2_rf, dr2_in, dr2_lo]; exact ⟨rfl, rfl, rfl, rfl, trivial⟩)
      · have hE := ifN hc16 hE
        refine r_iconst 1 rfl ci_1 ?_
        refine r_goto (tgt := 77) rfl (by decide) ?_
        first | exact r_sb (Le_drawEvening_b77_ok g N _ hD _ ih  _ _ _ _ _ _ _ _ _ hE) ⟨rfl, rfl, rfl, rfl, trivial⟩ | exact r_sb (Le_drawEvening_b77_ok g N _ hD _ ih  _ _ _ _ _ _ _ _ _ hE) (by simp only [su1, su2, dr1_rf, dr1_in, dr1_lo, dr2_rf, dr2_in, dr2_lo]; exact ⟨rfl, rfl, rfl, rfl, trivial⟩)
def Le_drawEvening (N : Nat) (a0 : Nat) (x1 : Int64) (x3 : Int32) (h : PH) : Option (Int64 × PH) :=
  ck ((hK h a0).1 = 10) <|
  ((hR h a0 7)).bind fun a_2 =>
  ck ((hK h a_2).1 = 3) <|
  bd (Ni_begin N a_2 (hR h a0 1) h) fun v5 h6 =>
  Le_drawEvening_b17 N N a0 x3 x1 0 h6
set_option maxRecDepth 20000 in
theorem Le_drawEvening_ok (g : GT) (N : Nat) (a0 : Nat) (x1 : Int64) (x3 : Int32) (h : PH) (v : Int64) (h' : PH) (hE : Le_drawEvening N a0 x1 x3 h = some (v, h')) (D : Nat) (hD : 5 ≤ D) : Calls g D pLe_drawEvening [va_rf (some a0), .long x1, .int x3] h (oJ v) h' := by
  refine Calls.of cok_Le_drawEvening ht_Le_drawEvening pl_Le_drawEvening (fun ad => by rw [lg_len, sL_cat]; simp only [List.map_cons, List.map_nil, rf_cat, cat_i, cat_l, List.sum_cons, List.sum_nil]; decide) ?_
  rw [show lv_args 0 [va_rf (some a0), .long x1, .int x3] = [(0, va_rf (some a0)), (1, .long x1), (3, .int x3)] from (by simp only [lv_args, rf_cat, cat_i, cat_l]; try rfl)]
  obtain ⟨D2, rfl⟩ : ∃ d, D = d + 1 := ⟨D - 1, by omega⟩
  unfold Le_drawEvening at hE
  refine r_lload_n 1 rfl rfl rfl ?_
  refine r_lstore rfl (by decide) ?_
  refine r_aload_n (t := some a0) 0 rfl rfl rfl ?_
  obtain ⟨hk1, hE⟩ := ckE hE
  refine r_getR rfl (fl_10_52 rfl) (Or.inl ⟨_, rfl⟩) rfl hk1 ?_
  refine r_aload_n (t := some a0) 0 rfl rfl rfl ?_
  refine r_getR rfl (fl_10_19 rfl) (Or.inl ⟨_, rfl⟩) rfl hk1 ?_
  obtain ⟨a_2, ha3, hE⟩ := bnE hE
  obtain ⟨hk4, hE⟩ := ckE hE
  obtain ⟨v5, h6, hq7, hE⟩ := bdE hE
  refine r_callV0 (rest := []) (hc := (Ni_begin_ok g N _ _ _ _ _ hq7 D2 (by omega))) rfl pm_Ni_begin lw_10_186 im_Ni_begin sl_Ni_begin ha3 rfl rfl (rcOK hk4 rfl) (by decide) ?_
  refine r_iconst 0 rfl ci_0 ?_
  refine r_istore rfl (by decide) ?_
  first | exact r_sb (Le_drawEvening_b17_ok g N _ hD  N _ _ _ _ _ _ _ hE) ⟨rfl, rfl, rfl, rfl, trivial⟩ | exact r_sb (Le_drawEvening_b17_ok g N _ hD  N _ _ _ _ _ _ _ hE) (by simp only [su1, su2, dr1_rf, dr1_in, dr1_lo, dr2_rf, dr2_in, dr2_lo]; exact ⟨rfl, rfl, rfl, rfl, trivial⟩)
def Le_years_b59 (N : Nat) : Nat → Nat → Int32 → Int32 → Int32 → Int64 → Int32 → Int32 → Int32 → Int32 → PH → Option (Int32 × PH)
  | 0 => fun _ _ _ _ _ _ _ _ _ _ => none
  | n + 1 => fun a0 x2 x3 x4 x5 x7 x8 x9 x10 h =>
    if x2 ≤ x10 then
      if x4 = 0 then
        some ((mxI 0 x7), h)
      else
        if x4 = 1 then
          some (x8, h)
        else
          some (x9, h)
    else
      ck ((hK h a0).1 = 10) <|
      bd (Le_drawEvening N a0 x5 x3 h) fun v5 h6 =>
      ck ((hK h6 a0).1 = 10) <|
      ((hR h6 a0 7)).bind fun a_9 =>
      ck ((hK h6 a_9).1 = 3) <|
      (Le_years_b59 N n) a0 x2 x3 x4 v5 (x7 + (hI h6 a_9 5)) (x8 + (hI h6 a_9 1)) (x9 + (hI h6 a_9 7)) (x10 + 1) h6
set_option maxRecDepth 20000 in
theorem Le_years_b59_ok (g : GT) (N : Nat) (D : Nat) (hD : 6 ≤ D) : ∀ (n : Nat) (a0 : Nat) (x2 : Int32) (x3 : Int32) (x4 : Int32) (x5 : Int64) (x7 : Int32) (x8 : Int32) (x9 : Int32) (x10 : Int32) (h : PH) (v : Int32) (h' : PH), Le_years_b59 N n a0 x2 x3 x4 x5 x7 x8 x9 x10 h = some (v, h') → Run g pLe_years D 59 [(0, va_rf (some a0)), (2, .int x2), (3, .int x3), (4, .int x4), (5, .long x5), (7, .int x7), (8, .int x8), (9, .int x9), (10, .int x10)] [] h (rI v) h' := by
  obtain ⟨D2, rfl⟩ : ∃ d, D = d + 1 := ⟨D - 1, by omega⟩
  intro n
  induction n with
  | zero => exact fun _ _ _ _ _ _ _ _ _ _ _ _ hE => nomatch (show none = some _ from hE)
  | succ n ih =>
    intro a0 x2 x3 x4 x5 x7 x8 x9 x10 h v h' hE
    unfold Le_years_b59 at hE
    refine r_iload rfl rfl ?_
    refine r_iload_n 2 rfl rfl rfl ?_
    refine r_icmp_ge (tgt := 116) rfl (by decide) (fun hc1 => ?_) (fun hc1 => ?_)
    · have hE := ifP hc1 hE
      refine r_iload rfl rfl ?_
      refine r_if_ne (tgt := 130) rfl (by decide) (fun hc2 => ?_) (fun hc2 => ?_)
      · have hE := ifP hc2 hE
        refine r_iconst 0 rfl ci_0 ?_
        refine r_iload rfl rfl ?_
        refine r_mmax rfl (gt4 178 rfl rfl) mm_max1 mm_2 mm_max3 (by decide) ?_
        refine r_goto (tgt := 143) rfl (by decide) ?_
        cases hE
        exact r_ret rfl (Or.inl ⟨rfl, _, _, rfl, rfl, rfl, rfl⟩)
      · have hE := ifN hc2 hE
        refine r_iload rfl rfl ?_
        refine r_iconst 1 rfl ci_1 ?_
        refine r_icmp_ne (tgt := 141) rfl (by decide) (fun hc3 => ?_) (fun hc3 => ?_)
        · have hE := ifP hc3 hE
          refine r_iload rfl rfl ?_
          refine r_goto (tgt := 143) rfl (by decide) ?_
          cases hE
          exact r_ret rfl (Or.inl ⟨rfl, _, _, rfl, rfl, rfl, rfl⟩)
        · have hE := ifN hc3 hE
          refine r_iload rfl rfl ?_
          cases hE
          exact r_ret rfl (Or.inl ⟨rfl, _, _, rfl, rfl, rfl, rfl⟩)
    · have hE := ifN hc1 hE
      refine r_aload_n (t := some a0) 0 rfl rfl rfl ?_
      refine r_lload rfl rfl ?_
      refine r_iload_n 3 rfl rfl rfl ?_
      obtain ⟨hk4, hE⟩ := ckE hE
      obtain ⟨v5, h6, hq7, hE⟩ := bdE hE
      refine r_callV1 (rest := []) (hc := (Le_drawEvening_ok g N _ _ _ _ _ _ hq7 D2 (by omega))) rfl pm_Le_drawEvening lw_10_295 im_Le_drawEvening sl_Le_drawEvening rfl rfl rfl (rcOK hk4 rfl) (by decide) ?_
      refine r_lstore rfl (by decide) ?_
      refine r_iload rfl rfl ?_
      refine r_aload_n (t := some a0) 0 rfl rfl rfl ?_
      obtain ⟨hk8, hE⟩ := ckE hE
      refine r_getR rfl (fl_10_52 rfl) (Or.inl ⟨_, rfl⟩) rfl hk8 ?_
      obtain ⟨a_9, ha10, hE⟩ := bnE hE
      obtain ⟨hk11, hE⟩ := ckE hE
      refine r_getI rfl (fl_10_220 rfl) (Or.inl rfl) ha10 hk11 ?_
      refine r_iadd rfl ?_
      refine r_istore rfl (by decide) ?_
      refine r_iload rfl rfl ?_
      refine r_aload_n (t := some a0) 0 rfl rfl rfl ?_
      refine r_getR rfl (fl_10_52 rfl) (Or.inl ⟨_, rfl⟩) rfl hk8 ?_
      refine r_getI rfl (fl_10_203 rfl) (Or.inl rfl) ha10 hk11 ?_
      refine r_iadd rfl ?_
      refine r_istore rfl (by decide) ?_
      refine r_iload rfl rfl ?_
      refine r_aload_n (t := some a0) 0 rfl rfl rfl ?_
      refine r_getR rfl (fl_10_52 rfl) (Or.inl ⟨_, rfl⟩) rfl hk8 ?_
      refine r_getI rfl (fl_10_299 rfl) (Or.inl rfl) ha10 hk11 ?_
      refine r_iadd rfl ?_
      refine r_istore rfl (by decide) ?_
      refine r_iinc _ rfl rfl (congrArg _ ci_1) (by decide) ?_
      refine r_goto (tgt := 59) rfl (by decide) ?_
      first | exact r_sb (ih _ _ _ _ _ _ _ _ _ _ _ _ hE) ⟨rfl, rfl, rfl, rfl, rfl, rfl, rfl, rfl, rfl, trivial⟩ | exact r_sb (ih _ _ _ _ _ _ _ _ _ _ _ _ hE) (by simp only [su1, su2, dr1_rf, dr1_in, dr1_lo, dr2_rf, dr2_in, dr2_lo]; exact ⟨rfl, rfl, rfl, rfl, rfl, rfl, rfl, rfl, rfl, trivial⟩)
def Le_years (N : Nat) (a0 : Nat) (x1 : Int32) (x2 : Int32) (x3 : Int32) (x4 : Int32) (h : PH) : Option (Int32 × PH) :=
  if x1 < 0 then
    some ((-1), h)
  else
    if 9999 < x1 then
      some ((-1), h)
    else
      if x2 < 1 then
        some ((-1), h)
      else
        if 20 < x2 then
          some ((-1), h)
        else
          ck ((hK h a0).1 = 10) <|
          bd (Le_hasHabit N a0 x3 h) fun v6 h7 =>
          if (bI v6) = 0 then
            some ((-1), h7)
          else
            if x4 < 0 then
              some ((-1), h7)
            else
              if x4 ≤ 2 then
                Le_years_b59 N N a0 x2 x3 x4 (Int32.toInt64 x1) 0 0 0 0 h7
              else
                some ((-1), h7)
set_option maxRecDepth 20000 in
theorem Le_years_ok (g : GT) (N : Nat) (a0 : Nat) (x1 : Int32) (x2 : Int32) (x3 : Int32) (x4 : Int32) (h : PH) (v : Int32) (h' : PH) (hE : Le_years N a0 x1 x2 x3 x4 h = some (v, h')) (D : Nat) (hD : 6 ≤ D) : Calls g D pLe_years [va_rf (some a0), .int x1, .int x2, .int x3, .int x4] h (oI v) h' := by
  refine Calls.of cok_Le_years ht_Le_years pl_Le_years (fun ad => by rw [lg_len, sL_cat]; simp only [List.map_cons, List.map_nil, rf_cat, cat_i, cat_l, List.sum_cons, List.sum_nil]; decide) ?_
  rw [show lv_args 0 [va_rf (some a0), .int x1, .int x2, .int x3, .int x4] = [(0, va_rf (some a0)), (1, .int x1), (2, .int x2), (3, .int x3), (4, .int x4)] from (by simp only [lv_args, rf_cat, cat_i, cat_l]; try rfl)]
  obtain ⟨D2, rfl⟩ : ∃ d, D = d + 1 := ⟨D - 1, by omega⟩
  unfold Le_years at hE
  refine r_iload_n 1 rfl rfl rfl ?_
  refine r_if_lt (tgt := 41) rfl (by decide) (fun hc1 => ?_) (fun hc1 => ?_)
  · have hE := ifP hc1 hE
    refine r_iconst (-1) rfl ci_m1 ?_
    cases hE
    exact r_ret rfl (Or.inl ⟨rfl, _, _, rfl, rfl, rfl, rfl⟩)
  · have hE := ifN hc1 hE
    refine r_iload_n 1 rfl rfl rfl ?_
    refine r_sipush 9999 rfl cs_9999 ?_
    refine r_icmp_gt (tgt := 41) rfl (by decide) (fun hc2 => ?_) (fun hc2 => ?_)
    · have hE := ifP hc2 hE
      refine r_iconst (-1) rfl ci_m1 ?_
      cases hE
      exact r_ret rfl (Or.inl ⟨rfl, _, _, rfl, rfl, rfl, rfl⟩)
    · have hE := ifN hc2 hE
      refine r_iload_n 2 rfl rfl rfl ?_
      refine r_iconst 1 rfl ci_1 ?_
      refine r_icmp_lt (tgt := 41) rfl (by decide) (fun hc3 => ?_) (fun hc3 => ?_)
      · have hE := ifP hc3 hE
        refine r_iconst (-1) rfl ci_m1 ?_
        cases hE
        exact r_ret rfl (Or.inl ⟨rfl, _, _, rfl, rfl, rfl, rfl⟩)
      · have hE := ifN hc3 hE
        refine r_iload_n 2 rfl rfl rfl ?_
        refine r_bipush 20 rfl cb_20 ?_
        refine r_icmp_gt (tgt := 41) rfl (by decide) (fun hc4 => ?_) (fun hc4 => ?_)
        · have hE := ifP hc4 hE
          refine r_iconst (-1) rfl ci_m1 ?_
          cases hE
          exact r_ret rfl (Or.inl ⟨rfl, _, _, rfl, rfl, rfl, rfl⟩)
        · have hE := ifN hc4 hE
          refine r_aload_n (t := some a0) 0 rfl rfl rfl ?_
          refine r_iload_n 3 rfl rfl rfl ?_
          obtain ⟨hk5, hE⟩ := ckE hE
          obtain ⟨v6, h7, hq8, hE⟩ := bdE hE
          refine r_callV1 (rest := []) (hc := (Le_hasHabit_ok g N _ _ _ _ _ hq8 D2 (by omega))) rfl pm_Le_hasHabit lw_10_245 im_Le_hasHabit sl_Le_hasHabit rfl rfl rfl (rcOK hk5 rfl) (by decide) ?_
          refine r_if_eq (tgt := 41) rfl (by decide) (fun hc9 => ?_) (fun hc9 => ?_)
          · have hE := ifP hc9 hE
            refine r_iconst (-1) rfl ci_m1 ?_
            cases hE
            exact r_ret rfl (Or.inl ⟨rfl, _, _, rfl, rfl, rfl, rfl⟩)
          · have hE := ifN hc9 hE
            refine r_iload rfl rfl ?_
            refine r_if_lt (tgt := 41) rfl (by decide) (fun hc10 => ?_) (fun hc10 => ?_)
            · have hE := ifP hc10 hE
              refine r_iconst (-1) rfl ci_m1 ?_
              cases hE
              exact r_ret rfl (Or.inl ⟨rfl, _, _, rfl, rfl, rfl, rfl⟩)
            · have hE := ifN hc10 hE
              refine r_iload rfl rfl ?_
              refine r_iconst 2 rfl ci_2 ?_
              refine r_icmp_le (tgt := 43) rfl (by decide) (fun hc11 => ?_) (fun hc11 => ?_)
              · have hE := ifP hc11 hE
                refine r_iload_n 1 rfl rfl rfl ?_
                refine r_i2l rfl ?_
                refine r_lstore rfl (by decide) ?_
                refine r_iconst 0 rfl ci_0 ?_
                refine r_istore rfl (by decide) ?_
                refine r_iconst 0 rfl ci_0 ?_
                refine r_istore rfl (by decide) ?_
                refine r_iconst 0 rfl ci_0 ?_
                refine r_istore rfl (by decide) ?_
                refine r_iconst 0 rfl ci_0 ?_
                refine r_istore rfl (by decide) ?_
                first | exact r_sb (Le_years_b59_ok g N _ hD  N _ _ _ _ _ _ _ _ _ _ _ _ hE) ⟨rfl, rfl, rfl, rfl, rfl, rfl, rfl, rfl, rfl, trivial⟩ | exact r_sb (Le_years_b59_ok g N _ hD  N _ _ _ _ _ _ _ _ _ _ _ _ hE) (by simp only [su1, su2, dr1_rf, dr1_in, dr1_lo, dr2_rf, dr2_in, dr2_lo]; exact ⟨rfl, rfl, rfl, rfl, rfl, rfl, rfl, rfl, rfl, trivial⟩)
              · have hE := ifN hc11 hE
                refine r_iconst (-1) rfl ci_m1 ?_
                cases hE
                exact r_ret rfl (Or.inl ⟨rfl, _, _, rfl, rfl, rfl, rfl⟩)
def Le_mark_b39 (N : Nat) (a0 : Nat) (x2 : Int32) (x3 : Option Nat) (h : PH) : Option (Bool × PH) :=
  if x2 = 0 then
    (x3).bind fun a_2 =>
    ck ((hK h a_2).1 = 1) <|
    ck ((hK h a0).1 = 10) <|
    ((hR h a_2 0)).bind fun a_6 =>
    ck ((hK h a_6).1 = 3) <|
    bd (Ni_copy N a_6 (hR h a0 6) h) fun v9 h10 =>
    ck ((hK h10 a_2).1 = 1) <|
    ck ((hK h10 a0).1 = 10) <|
    ((hR h10 a_2 1)).bind fun a_14 =>
    ck ((hK h10 a_14).1 = 6) <|
    bd (Sc_copy N a_14 (hR h10 a0 3) h10) fun v17 h18 =>
    ck ((hK h18 a_2).1 = 1) <|
    lt0 (wZ h18 a_2 2 (tb 1)) fun h21 =>
    some (true, h21)
  else
    ck ((hK h a0).1 = 10) <|
    (x3).bind fun a_24 =>
    ck ((hK h a_24).1 = 1) <|
    ((hR h a0 6)).bind fun a_27 =>
    ck ((hK h a_27).1 = 3) <|
    bd (Ni_copy N a_27 (hR h a_24 0) h) fun v30 h31 =>
    ck ((hK h31 a0).1 = 10) <|
    ck ((hK h31 a_24).1 = 1) <|
    ((hR h31 a0 3)).bind fun a_35 =>
    ck ((hK h31 a_35).1 = 6) <|
    bd (Sc_copy N a_35 (hR h31 a_24 1) h31) fun v38 h39 =>
    ck ((hK h39 a0).1 = 10) <|
    bd (Le_forgetPast N a0 h39) fun v42 h43 =>
    some (true, h43)
set_option maxRecDepth 20000 in
theorem Le_mark_b39_ok (g : GT) (N : Nat) (D : Nat) (hD : 2 ≤ D) : ∀ (a0 : Nat) (x2 : Int32) (x3 : Option Nat) (h : PH) (v : Bool) (h' : PH), Le_mark_b39 N a0 x2 x3 h = some (v, h') → Run g pLe_mark D 39 [(0, va_rf (some a0)), (2, .int x2), (3, va_rf x3)] [] h (rZ v) h' := by
  obtain ⟨D2, rfl⟩ : ∃ d, D = d + 1 := ⟨D - 1, by omega⟩
  intro a0 x2 x3 h v h' hE
  unfold Le_mark_b39 at hE
  refine r_iload_n 2 rfl rfl rfl ?_
  refine r_if_eq (tgt := 72) rfl (by decide) (fun hc1 => ?_) (fun hc1 => ?_)
  · have hE := ifP hc1 hE
    refine r_aload_n (t := x3) 3 rfl rfl rfl ?_
    obtain ⟨a_2, ha3, hE⟩ := bnE hE
    obtain ⟨hk4, hE⟩ := ckE hE
    refine r_getR rfl (fl_10_310 rfl) (Or.inl ⟨_, rfl⟩) ha3 hk4 ?_
    refine r_aload_n (t := some a0) 0 rfl rfl rfl ?_
    obtain ⟨hk5, hE⟩ := ckE hE
    refine r_getR rfl (fl_10_48 rfl) (Or.inl ⟨_, rfl⟩) rfl hk5 ?_
    obtain ⟨a_6, ha7, hE⟩ := bnE hE
    obtain ⟨hk8, hE⟩ := ckE hE
    obtain ⟨v9, h10, hq11, hE⟩ := bdE hE
    refine r_callV0 (rest := []) (hc := (Ni_copy_ok g N _ _ _ _ _ hq11 D2 (by omega))) rfl pm_Ni_copy lw_10_183 im_Ni_copy sl_Ni_copy ha7 rfl rfl (rcOK hk8 rfl) (by decide) ?_
    refine r_aload_n (t := x3) 3 rfl rfl rfl ?_
    obtain ⟨hk12, hE⟩ := ckE hE
    refine r_getR rfl (fl_10_313 rfl) (Or.inl ⟨_, rfl⟩) ha3 hk12 ?_
    refine r_aload_n (t := some a0) 0 rfl rfl rfl ?_
    obtain ⟨hk13, hE⟩ := ckE hE
    refine r_getR rfl (fl_10_29 rfl) (Or.inl ⟨_, rfl⟩) rfl hk13 ?_
    obtain ⟨a_14, ha15, hE⟩ := bnE hE
    obtain ⟨hk16, hE⟩ := ckE hE
    obtain ⟨v17, h18, hq19, hE⟩ := bdE hE
    refine r_callV0 (rest := []) (hc := (Sc_copy_ok g N _ _ _ _ _ hq19 D2 (by omega))) rfl pm_Sc_copy lw_10_130 im_Sc_copy sl_Sc_copy ha15 rfl rfl (rcOK hk16 rfl) (by decide) ?_
    refine r_aload_n (t := x3) 3 rfl rfl rfl ?_
    refine r_iconst 1 rfl ci_1 ?_
    obtain ⟨hk20, hE⟩ := ckE hE
    obtain ⟨h21, he22, hE⟩ := ltE hE
    refine r_putZ rfl (fl_10_307 rfl) finF ha3 hk20 rfl he22 ?_
    refine r_iconst 1 rfl ci_1 ?_
    cases hE
    exact r_ret rfl (Or.inl ⟨rfl, _, _, rfl, rfl, rfl, rfl⟩)
  · have hE := ifN hc1 hE
    refine r_aload_n (t := some a0) 0 rfl rfl rfl ?_
    obtain ⟨hk23, hE⟩ := ckE hE
    refine r_getR rfl (fl_10_48 rfl) (Or.inl ⟨_, rfl⟩) rfl hk23 ?_
    refine r_aload_n (t := x3) 3 rfl rfl rfl ?_
    obtain ⟨a_24, ha25, hE⟩ := bnE hE
    obtain ⟨hk26, hE⟩ := ckE hE
    refine r_getR rfl (fl_10_310 rfl) (Or.inl ⟨_, rfl⟩) ha25 hk26 ?_
    obtain ⟨a_27, ha28, hE⟩ := bnE hE
    obtain ⟨hk29, hE⟩ := ckE hE
    obtain ⟨v30, h31, hq32, hE⟩ := bdE hE
    refine r_callV0 (rest := []) (hc := (Ni_copy_ok g N _ _ _ _ _ hq32 D2 (by omega))) rfl pm_Ni_copy lw_10_183 im_Ni_copy sl_Ni_copy ha28 rfl rfl (rcOK hk29 rfl) (by decide) ?_
    refine r_aload_n (t := some a0) 0 rfl rfl rfl ?_
    obtain ⟨hk33, hE⟩ := ckE hE
    refine r_getR rfl (fl_10_29 rfl) (Or.inl ⟨_, rfl⟩) rfl hk33 ?_
    refine r_aload_n (t := x3) 3 rfl rfl rfl ?_
    obtain ⟨hk34, hE⟩ := ckE hE
    refine r_getR rfl (fl_10_313 rfl) (Or.inl ⟨_, rfl⟩) ha25 hk34 ?_
    obtain ⟨a_35, ha36, hE⟩ := bnE hE
    obtain ⟨hk37, hE⟩ := ckE hE
    obtain ⟨v38, h39, hq40, hE⟩ := bdE hE
    refine r_callV0 (rest := []) (hc := (Sc_copy_ok g N _ _ _ _ _ hq40 D2 (by omega))) rfl pm_Sc_copy lw_10_130 im_Sc_copy sl_Sc_copy ha36 rfl rfl (rcOK hk37 rfl) (by decide) ?_
    refine r_aload_n (t := some a0) 0 rfl rfl rfl ?_
    obtain ⟨hk41, hE⟩ := ckE hE
    obtain ⟨v42, h43, hq44, hE⟩ := bdE hE
    refine r_callV0 (rest := []) (hc := (Le_forgetPast_ok g N _ _ _ _ hq44 D2 (by omega))) rfl pm_Le_forgetPast lw_10_314 im_Le_forgetPast sl_Le_forgetPast rfl rfl rfl (rcOK hk41 rfl) (by decide) ?_
    refine r_goto (tgt := 99) rfl (by decide) ?_
    refine r_iconst 1 rfl ci_1 ?_
    cases hE
    exact r_ret rfl (Or.inl ⟨rfl, _, _, rfl, rfl, rfl, rfl⟩)
def Le_mark (N : Nat) (a0 : Nat) (x1 : Int32) (x2 : Int32) (h : PH) : Option (Bool × PH) :=
  if x1 < 0 then
    some (false, h)
  else
    ck ((hK h a0).1 = 10) <|
    ((hR h a0 11)).bind fun a_3 =>
    ck ((hK h a_3).1 = 25) <|
    if x1 < (Int32.ofNat (hK h a_3).2) then
      ck (inb x1 (hK h a_3).2 = true) <|
      if (hR h a_3 (ix x1)) = none then
        some (false, h)
      else
        if x2 = 0 then
          Le_mark_b39 N  a0 x2 (hR h a_3 (ix x1)) h
        else
          ((hR h a_3 (ix x1))).bind fun a_10 =>
          ck ((hK h a_10).1 = 1) <|
          if (bI (hZ h a_10 2)) = 0 then
            some (false, h)
          else
            Le_mark_b39 N  a0 x2 (hR h a_3 (ix x1)) h
    else
      some (false, h)
set_option maxRecDepth 20000 in
theorem Le_mark_ok (g : GT) (N : Nat) (a0 : Nat) (x1 : Int32) (x2 : Int32) (h : PH) (v : Bool) (h' : PH) (hE : Le_mark N a0 x1 x2 h = some (v, h')) (D : Nat) (hD : 2 ≤ D) : Calls g D pLe_mark [va_rf (some a0), .int x1, .int x2] h (oZ v) h' := by
  refine Calls.of cok_Le_mark ht_Le_mark pl_Le_mark (fun ad => by rw [lg_len, sL_cat]; simp only [List.map_cons, List.map_nil, rf_cat, cat_i, cat_l, List.sum_cons, List.sum_nil]; decide) ?_
  rw [show lv_args 0 [va_rf (some a0), .int x1, .int x2] = [(0, va_rf (some a0)), (1, .int x1), (2, .int x2)] from (by simp only [lv_args, rf_cat, cat_i, cat_l]; try rfl)]
  obtain ⟨D2, rfl⟩ : ∃ d, D = d + 1 := ⟨D - 1, by omega⟩
  unfold Le_mark at hE
  refine r_iload_n 1 rfl rfl rfl ?_
  refine r_if_lt (tgt := 13) rfl (by decide) (fun hc1 => ?_) (fun hc1 => ?_)
  · have hE := ifP hc1 hE
    refine r_iconst 0 rfl ci_0 ?_
    cases hE
    exact r_ret rfl (Or.inl ⟨rfl, _, _, rfl, rfl, rfl, rfl⟩)
  · have hE := ifN hc1 hE
    refine r_iload_n 1 rfl rfl rfl ?_
    refine r_aload_n (t := some a0) 0 rfl rfl rfl ?_
    obtain ⟨hk2, hE⟩ := ckE hE
    refine r_getR rfl (fl_10_68 rfl) (Or.inr ⟨_, rfl⟩) rfl hk2 ?_
    obtain ⟨a_3, ha4, hE⟩ := bnE hE
    obtain ⟨hk5, hE⟩ := ckE hE
    refine r_alen (kd := 25) rfl (by decide) (by decide) ha4 hk5 ?_
    refine r_icmp_lt (tgt := 15) rfl (by decide) (fun hc6 => ?_) (fun hc6 => ?_)
    · have hE := ifP hc6 hE
      refine r_aload_n (t := some a0) 0 rfl rfl rfl ?_
      refine r_getR rfl (fl_10_68 rfl) (Or.inr ⟨_, rfl⟩) rfl hk2 ?_
      refine r_iload_n 1 rfl rfl rfl ?_
      obtain ⟨hi7, hE⟩ := ckE hE
      refine r_aald rfl (Or.inr rfl) ha4 hk5 hi7 ?_
      refine r_astore_n 3 rfl rfl (by decide) ?_
      refine r_aload_n (t := (hR h a_3 (ix x1))) 3 rfl rfl rfl ?_
      refine r_ifnull (tgt := 37) rfl (by decide) (fun hc8 => ?_) (fun hc8 => ?_)
      · have hE := ifP hc8 hE
        refine r_iconst 0 rfl ci_0 ?_
        cases hE
        exact r_ret rfl (Or.inl ⟨rfl, _, _, rfl, rfl, rfl, rfl⟩)
      · have hE := ifN hc8 hE
        refine r_iload_n 2 rfl rfl rfl ?_
        refine r_if_eq (tgt := 39) rfl (by decide) (fun hc9 => ?_) (fun hc9 => ?_)
        · have hE := ifP hc9 hE
          first | exact r_sb (Le_mark_b39_ok g N _ hD   _ _ _ _ _ _ hE) ⟨rfl, rfl, rfl, trivial⟩ | exact r_sb (Le_mark_b39_ok g N _ hD   _ _ _ _ _ _ hE) (by simp only [su1, su2, dr1_rf, dr1_in, dr1_lo, dr2_rf, dr2_in, dr2_lo]; exact ⟨rfl, rfl, rfl, trivial⟩)
        · have hE := ifN hc9 hE
          refine r_aload_n (t := (hR h a_3 (ix x1))) 3 rfl rfl rfl ?_
          obtain ⟨a_10, ha11, hE⟩ := bnE hE
          obtain ⟨hk12, hE⟩ := ckE hE
          refine r_getZ rfl (fl_10_307 rfl) ha11 hk12 ?_
          refine r_if_ne (tgt := 39) rfl (by decide) (fun hc13 => ?_) (fun hc13 => ?_)
          · have hE := ifP hc13 hE
            refine r_iconst 0 rfl ci_0 ?_
            cases hE
            exact r_ret rfl (Or.inl ⟨rfl, _, _, rfl, rfl, rfl, rfl⟩)
          · have hE := ifN hc13 hE
            first | exact r_sb (Le_mark_b39_ok g N _ hD   _ _ _ _ _ _ hE) ⟨rfl, rfl, rfl, trivial⟩ | exact r_sb (Le_mark_b39_ok g N _ hD   _ _ _ _ _ _ hE) (by simp only [su1, su2, dr1_rf, dr1_in, dr1_lo, dr2_rf, dr2_in, dr2_lo]; exact ⟨rfl, rfl, rfl, trivial⟩)
    · have hE := ifN hc6 hE
      refine r_iconst 0 rfl ci_0 ?_
      cases hE
      exact r_ret rfl (Or.inl ⟨rfl, _, _, rfl, rfl, rfl, rfl⟩)
def Le_score (N : Nat) (a0 : Nat) (h : PH) : Option (Int32 × PH) :=
  ck ((hK h a0).1 = 10) <|
  ((hR h a0 6)).bind fun a_2 =>
  ck ((hK h a_2).1 = 3) <|
  some ((hI h a_2 5), h)
set_option maxRecDepth 20000 in
theorem Le_score_ok (g : GT) (N : Nat) (a0 : Nat) (h : PH) (v : Int32) (h' : PH) (hE : Le_score N a0 h = some (v, h')) (D : Nat) (hD : 0 ≤ D) : Calls g D pLe_score [va_rf (some a0)] h (oI v) h' := by
  refine Calls.of cok_Le_score ht_Le_score pl_Le_score (fun ad => by rw [lg_len, sL_cat]; simp only [List.map_cons, List.map_nil, rf_cat, cat_i, cat_l, List.sum_cons, List.sum_nil]; decide) ?_
  rw [show lv_args 0 [va_rf (some a0)] = [(0, va_rf (some a0))] from (by simp only [lv_args, rf_cat, cat_i, cat_l]; try rfl)]
  unfold Le_score at hE
  refine r_aload_n (t := some a0) 0 rfl rfl rfl ?_
  obtain ⟨hk1, hE⟩ := ckE hE
  refine r_getR rfl (fl_10_48 rfl) (Or.inl ⟨_, rfl⟩) rfl hk1 ?_
  obtain ⟨a_2, ha3, hE⟩ := bnE hE
  obtain ⟨hk4, hE⟩ := ckE hE
  refine r_getI rfl (fl_10_220 rfl) (Or.inl rfl) ha3 hk4 ?_
  cases hE
  exact r_ret rfl (Or.inl ⟨rfl, _, _, rfl, rfl, rfl, rfl⟩)
def Le_count (N : Nat) (a0 : Nat) (x1 : Int32) (h : PH) : Option (Int32 × PH) :=
  if (Int32.toInt x1 < 0 ∨ 14 < Int32.toInt x1) then
    some ((-1), h)
  else if x1 = 0 then
    ck ((hK h a0).1 = 10) <|
    ((hR h a0 1)).bind fun a_4 =>
    ck ((hK h a_4).1 = 0) <|
    some ((hI h a_4 0), h)
  else if x1 = 1 then
    ck ((hK h a0).1 = 10) <|
    ((hR h a0 6)).bind fun a_9 =>
    ck ((hK h a_9).1 = 3) <|
    some ((hI h a_9 0), h)
  else if x1 = 2 then
    ck ((hK h a0).1 = 10) <|
    ((hR h a0 6)).bind fun a_14 =>
    ck ((hK h a_14).1 = 3) <|
    some ((hI h a_14 1), h)
  else if x1 = 3 then
    ck ((hK h a0).1 = 10) <|
    ((hR h a0 6)).bind fun a_19 =>
    ck ((hK h a_19).1 = 3) <|
    some ((hI h a_19 2), h)
  else if x1 = 4 then
    ck ((hK h a0).1 = 10) <|
    ((hR h a0 6)).bind fun a_24 =>
    ck ((hK h a_24).1 = 3) <|
    some ((hI h a_24 3), h)
  else if x1 = 5 then
    ck ((hK h a0).1 = 10) <|
    ((hR h a0 6)).bind fun a_29 =>
    ck ((hK h a_29).1 = 3) <|
    if (bI (hZ h a_29 9)) = 0 then
      some (0, h)
    else
      some (1, h)
  else if x1 = 6 then
    ck ((hK h a0).1 = 10) <|
    ((hR h a0 6)).bind fun a_35 =>
    ck ((hK h a_35).1 = 3) <|
    if (bI (hZ h a_35 10)) = 0 then
      some (0, h)
    else
      some (1, h)
  else if x1 = 7 then
    ck ((hK h a0).1 = 10) <|
    ((hR h a0 6)).bind fun a_41 =>
    ck ((hK h a_41).1 = 3) <|
    if (bI (hZ h a_41 12)) = 0 then
      some (0, h)
    else
      some (1, h)
  else if x1 = 8 then
    ck ((hK h a0).1 = 10) <|
    ((hR h a0 1)).bind fun a_47 =>
    ck ((hK h a_47).1 = 0) <|
    some ((hI h a_47 12), h)
  else if x1 = 9 then
    ck ((hK h a0).1 = 10) <|
    ((hR h a0 6)).bind fun a_52 =>
    ck ((hK h a_52).1 = 3) <|
    some ((hI h a_52 6), h)
  else if x1 = 10 then
    ck ((hK h a0).1 = 10) <|
    ((hR h a0 6)).bind fun a_57 =>
    ck ((hK h a_57).1 = 3) <|
    some ((hI h a_57 7), h)
  else if x1 = 11 then
    ck ((hK h a0).1 = 10) <|
    ((hR h a0 3)).bind fun a_62 =>
    ck ((hK h a_62).1 = 6) <|
    some ((hI h a_62 2), h)
  else if x1 = 12 then
    ck ((hK h a0).1 = 10) <|
    some ((hI h a0 10), h)
  else if x1 = 13 then
    ck ((hK h a0).1 = 10) <|
    ((hR h a0 0)).bind fun a_69 =>
    ck ((hK h a_69).1 = 8) <|
    some ((hI h a_69 1), h)
  else if x1 = 14 then
    ck ((hK h a0).1 = 10) <|
    ((hR h a0 6)).bind fun a_74 =>
    ck ((hK h a_74).1 = 3) <|
    if (bI (hZ h a_74 8)) = 0 then
      some (0, h)
    else
      some (1, h)
  else none
set_option maxRecDepth 20000 in
theorem Le_count_ok (g : GT) (N : Nat) (a0 : Nat) (x1 : Int32) (h : PH) (v : Int32) (h' : PH) (hE : Le_count N a0 x1 h = some (v, h')) (D : Nat) (hD : 0 ≤ D) : Calls g D pLe_count [va_rf (some a0), .int x1] h (oI v) h' := by
  refine Calls.of cok_Le_count ht_Le_count pl_Le_count (fun ad => by rw [lg_len, sL_cat]; simp only [List.map_cons, List.map_nil, rf_cat, cat_i, cat_l, List.sum_cons, List.sum_nil]; decide) ?_
  rw [show lv_args 0 [va_rf (some a0), .int x1] = [(0, va_rf (some a0)), (1, .int x1)] from (by simp only [lv_args, rf_cat, cat_i, cat_l]; try rfl)]
  unfold Le_count at hE
  refine r_iload_n 1 rfl rfl rfl ?_
  rcases Decidable.em (Int32.toInt x1 < 0 ∨ 14 < Int32.toInt x1) with hc1 | hc1
  · have hE := ifP hc1 hE
    refine r_tabOut (tgt := 225) rfl hc1 (by decide) ?_
    refine r_iconst (-1) rfl ci_m1 ?_
    cases hE
    exact r_ret rfl (Or.inl ⟨rfl, _, _, rfl, rfl, rfl, rfl⟩)
  · have hE := ifN hc1 hE
    rcases Decidable.em (x1 = 0) with hx2 | hx2
    · have hE := ifP hx2 hE
      refine r_tabIn (tgt := 76) 0 rfl hc1 (by rw [hx2]; decide +kernel) rfl (by decide) ?_
      refine r_aload_n (t := some a0) 0 rfl rfl rfl ?_
      obtain ⟨hk3, hE⟩ := ckE hE
      refine r_getR rfl (fl_10_19 rfl) (Or.inl ⟨_, rfl⟩) rfl hk3 ?_
      obtain ⟨a_4, ha5, hE⟩ := bnE hE
      obtain ⟨hk6, hE⟩ := ckE hE
      refine r_getI rfl (fl_10_134 rfl) (Or.inl rfl) ha5 hk6 ?_
      cases hE
      exact r_ret rfl (Or.inl ⟨rfl, _, _, rfl, rfl, rfl, rfl⟩)
    have hE := ifN hx2 hE
    rcases Decidable.em (x1 = 1) with hx7 | hx7
    · have hE := ifP hx7 hE
      refine r_tabIn (tgt := 84) 1 rfl hc1 (by rw [hx7]; decide +kernel) rfl (by decide) ?_
      refine r_aload_n (t := some a0) 0 rfl rfl rfl ?_
      obtain ⟨hk8, hE⟩ := ckE hE
      refine r_getR rfl (fl_10_48 rfl) (Or.inl ⟨_, rfl⟩) rfl hk8 ?_
      obtain ⟨a_9, ha10, hE⟩ := bnE hE
      obtain ⟨hk11, hE⟩ := ckE hE
      refine r_getI rfl (fl_10_170 rfl) (Or.inl rfl) ha10 hk11 ?_
      cases hE
      exact r_ret rfl (Or.inl ⟨rfl, _, _, rfl, rfl, rfl, rfl⟩)
    have hE := ifN hx7 hE
    rcases Decidable.em (x1 = 2) with hx12 | hx12
    · have hE := ifP hx12 hE
      refine r_tabIn (tgt := 92) 2 rfl hc1 (by rw [hx12]; decide +kernel) rfl (by decide) ?_
      refine r_aload_n (t := some a0) 0 rfl rfl rfl ?_
      obtain ⟨hk13, hE⟩ := ckE hE
      refine r_getR rfl (fl_10_48 rfl) (Or.inl ⟨_, rfl⟩) rfl hk13 ?_
      obtain ⟨a_14, ha15, hE⟩ := bnE hE
      obtain ⟨hk16, hE⟩ := ckE hE
      refine r_getI rfl (fl_10_203 rfl) (Or.inl rfl) ha15 hk16 ?_
      cases hE
      exact r_ret rfl (Or.inl ⟨rfl, _, _, rfl, rfl, rfl, rfl⟩)
    have hE := ifN hx12 hE
    rcases Decidable.em (x1 = 3) with hx17 | hx17
    · have hE := ifP hx17 hE
      refine r_tabIn (tgt := 100) 3 rfl hc1 (by rw [hx17]; decide +kernel) rfl (by decide) ?_
      refine r_aload_n (t := some a0) 0 rfl rfl rfl ?_
      obtain ⟨hk18, hE⟩ := ckE hE
      refine r_getR rfl (fl_10_48 rfl) (Or.inl ⟨_, rfl⟩) rfl hk18 ?_
      obtain ⟨a_19, ha20, hE⟩ := bnE hE
      obtain ⟨hk21, hE⟩ := ckE hE
      refine r_getI rfl (fl_10_206 rfl) (Or.inl rfl) ha20 hk21 ?_
      cases hE
      exact r_ret rfl (Or.inl ⟨rfl, _, _, rfl, rfl, rfl, rfl⟩)
    have hE := ifN hx17 hE
    rcases Decidable.em (x1 = 4) with hx22 | hx22
    · have hE := ifP hx22 hE
      refine r_tabIn (tgt := 108) 4 rfl hc1 (by rw [hx22]; decide +kernel) rfl (by decide) ?_
      refine r_aload_n (t := some a0) 0 rfl rfl rfl ?_
      obtain ⟨hk23, hE⟩ := ckE hE
      refine r_getR rfl (fl_10_48 rfl) (Or.inl ⟨_, rfl⟩) rfl hk23 ?_
      obtain ⟨a_24, ha25, hE⟩ := bnE hE
      obtain ⟨hk26, hE⟩ := ckE hE
      refine r_getI rfl (fl_10_209 rfl) (Or.inl rfl) ha25 hk26 ?_
      cases hE
      exact r_ret rfl (Or.inl ⟨rfl, _, _, rfl, rfl, rfl, rfl⟩)
    have hE := ifN hx22 hE
    rcases Decidable.em (x1 = 5) with hx27 | hx27
    · have hE := ifP hx27 hE
      refine r_tabIn (tgt := 116) 5 rfl hc1 (by rw [hx27]; decide +kernel) rfl (by decide) ?_
      refine r_aload_n (t := some a0) 0 rfl rfl rfl ?_
      obtain ⟨hk28, hE⟩ := ckE hE
      refine r_getR rfl (fl_10_48 rfl) (Or.inl ⟨_, rfl⟩) rfl hk28 ?_
      obtain ⟨a_29, ha30, hE⟩ := bnE hE
      obtain ⟨hk31, hE⟩ := ckE hE
      refine r_getZ rfl (fl_10_317 rfl) ha30 hk31 ?_
      refine r_if_eq (tgt := 130) rfl (by decide) (fun hc32 => ?_) (fun hc32 => ?_)
      · have hE := ifP hc32 hE
        refine r_iconst 0 rfl ci_0 ?_
        cases hE
        exact r_ret rfl (Or.inl ⟨rfl, _, _, rfl, rfl, rfl, rfl⟩)
      · have hE := ifN hc32 hE
        refine r_iconst 1 rfl ci_1 ?_
        refine r_goto (tgt := 131) rfl (by decide) ?_
        cases hE
        exact r_ret rfl (Or.inl ⟨rfl, _, _, rfl, rfl, rfl, rfl⟩)
    have hE := ifN hx27 hE
    rcases Decidable.em (x1 = 6) with hx33 | hx33
    · have hE := ifP hx33 hE
      refine r_tabIn (tgt := 132) 6 rfl hc1 (by rw [hx33]; decide +kernel) rfl (by decide) ?_
      refine r_aload_n (t := some a0) 0 rfl rfl rfl ?_
      obtain ⟨hk34, hE⟩ := ckE hE
      refine r_getR rfl (fl_10_48 rfl) (Or.inl ⟨_, rfl⟩) rfl hk34 ?_
      obtain ⟨a_35, ha36, hE⟩ := bnE hE
      obtain ⟨hk37, hE⟩ := ckE hE
      refine r_getZ rfl (fl_10_249 rfl) ha36 hk37 ?_
      refine r_if_eq (tgt := 146) rfl (by decide) (fun hc38 => ?_) (fun hc38 => ?_)
      · have hE := ifP hc38 hE
        refine r_iconst 0 rfl ci_0 ?_
        cases hE
        exact r_ret rfl (Or.inl ⟨rfl, _, _, rfl, rfl, rfl, rfl⟩)
      · have hE := ifN hc38 hE
        refine r_iconst 1 rfl ci_1 ?_
        refine r_goto (tgt := 147) rfl (by decide) ?_
        cases hE
        exact r_ret rfl (Or.inl ⟨rfl, _, _, rfl, rfl, rfl, rfl⟩)
    have hE := ifN hx33 hE
    rcases Decidable.em (x1 = 7) with hx39 | hx39
    · have hE := ifP hx39 hE
      refine r_tabIn (tgt := 148) 7 rfl hc1 (by rw [hx39]; decide +kernel) rfl (by decide) ?_
      refine r_aload_n (t := some a0) 0 rfl rfl rfl ?_
      obtain ⟨hk40, hE⟩ := ckE hE
      refine r_getR rfl (fl_10_48 rfl) (Or.inl ⟨_, rfl⟩) rfl hk40 ?_
      obtain ⟨a_41, ha42, hE⟩ := bnE hE
      obtain ⟨hk43, hE⟩ := ckE hE
      refine r_getZ rfl (fl_10_234 rfl) ha42 hk43 ?_
      refine r_if_eq (tgt := 162) rfl (by decide) (fun hc44 => ?_) (fun hc44 => ?_)
      · have hE := ifP hc44 hE
        refine r_iconst 0 rfl ci_0 ?_
        cases hE
        exact r_ret rfl (Or.inl ⟨rfl, _, _, rfl, rfl, rfl, rfl⟩)
      · have hE := ifN hc44 hE
        refine r_iconst 1 rfl ci_1 ?_
        refine r_goto (tgt := 163) rfl (by decide) ?_
        cases hE
        exact r_ret rfl (Or.inl ⟨rfl, _, _, rfl, rfl, rfl, rfl⟩)
    have hE := ifN hx39 hE
    rcases Decidable.em (x1 = 8) with hx45 | hx45
    · have hE := ifP hx45 hE
      refine r_tabIn (tgt := 164) 8 rfl hc1 (by rw [hx45]; decide +kernel) rfl (by decide) ?_
      refine r_aload_n (t := some a0) 0 rfl rfl rfl ?_
      obtain ⟨hk46, hE⟩ := ckE hE
      refine r_getR rfl (fl_10_19 rfl) (Or.inl ⟨_, rfl⟩) rfl hk46 ?_
      obtain ⟨a_47, ha48, hE⟩ := bnE hE
      obtain ⟨hk49, hE⟩ := ckE hE
      refine r_getI rfl (fl_10_267 rfl) (Or.inl rfl) ha48 hk49 ?_
      cases hE
      exact r_ret rfl (Or.inl ⟨rfl, _, _, rfl, rfl, rfl, rfl⟩)
    have hE := ifN hx45 hE
    rcases Decidable.em (x1 = 9) with hx50 | hx50
    · have hE := ifP hx50 hE
      refine r_tabIn (tgt := 172) 9 rfl hc1 (by rw [hx50]; decide +kernel) rfl (by decide) ?_
      refine r_aload_n (t := some a0) 0 rfl rfl rfl ?_
      obtain ⟨hk51, hE⟩ := ckE hE
      refine r_getR rfl (fl_10_48 rfl) (Or.inl ⟨_, rfl⟩) rfl hk51 ?_
      obtain ⟨a_52, ha53, hE⟩ := bnE hE
      obtain ⟨hk54, hE⟩ := ckE hE
      refine r_getI rfl (fl_10_320 rfl) (Or.inl rfl) ha53 hk54 ?_
      cases hE
      exact r_ret rfl (Or.inl ⟨rfl, _, _, rfl, rfl, rfl, rfl⟩)
    have hE := ifN hx50 hE
    rcases Decidable.em (x1 = 10) with hx55 | hx55
    · have hE := ifP hx55 hE
      refine r_tabIn (tgt := 180) 10 rfl hc1 (by rw [hx55]; decide +kernel) rfl (by decide) ?_
      refine r_aload_n (t := some a0) 0 rfl rfl rfl ?_
      obtain ⟨hk56, hE⟩ := ckE hE
      refine r_getR rfl (fl_10_48 rfl) (Or.inl ⟨_, rfl⟩) rfl hk56 ?_
      obtain ⟨a_57, ha58, hE⟩ := bnE hE
      obtain ⟨hk59, hE⟩ := ckE hE
      refine r_getI rfl (fl_10_299 rfl) (Or.inl rfl) ha58 hk59 ?_
      cases hE
      exact r_ret rfl (Or.inl ⟨rfl, _, _, rfl, rfl, rfl, rfl⟩)
    have hE := ifN hx55 hE
    rcases Decidable.em (x1 = 11) with hx60 | hx60
    · have hE := ifP hx60 hE
      refine r_tabIn (tgt := 188) 11 rfl hc1 (by rw [hx60]; decide +kernel) rfl (by decide) ?_
      refine r_aload_n (t := some a0) 0 rfl rfl rfl ?_
      obtain ⟨hk61, hE⟩ := ckE hE
      refine r_getR rfl (fl_10_29 rfl) (Or.inl ⟨_, rfl⟩) rfl hk61 ?_
      obtain ⟨a_62, ha63, hE⟩ := bnE hE
      obtain ⟨hk64, hE⟩ := ckE hE
      refine r_getI rfl (fl_10_189 rfl) (Or.inl rfl) ha63 hk64 ?_
      cases hE
      exact r_ret rfl (Or.inl ⟨rfl, _, _, rfl, rfl, rfl, rfl⟩)
    have hE := ifN hx60 hE
    rcases Decidable.em (x1 = 12) with hx65 | hx65
    · have hE := ifP hx65 hE
      refine r_tabIn (tgt := 196) 12 rfl hc1 (by rw [hx65]; decide +kernel) rfl (by decide) ?_
      refine r_aload_n (t := some a0) 0 rfl rfl rfl ?_
      obtain ⟨hk66, hE⟩ := ckE hE
      refine r_getI rfl (fl_10_63 rfl) (Or.inl rfl) rfl hk66 ?_
      cases hE
      exact r_ret rfl (Or.inl ⟨rfl, _, _, rfl, rfl, rfl, rfl⟩)
    have hE := ifN hx65 hE
    rcases Decidable.em (x1 = 13) with hx67 | hx67
    · have hE := ifP hx67 hE
      refine r_tabIn (tgt := 201) 13 rfl hc1 (by rw [hx67]; decide +kernel) rfl (by decide) ?_
      refine r_aload_n (t := some a0) 0 rfl rfl rfl ?_
      obtain ⟨hk68, hE⟩ := ckE hE
      refine r_getR rfl (fl_10_12 rfl) (Or.inl ⟨_, rfl⟩) rfl hk68 ?_
      obtain ⟨a_69, ha70, hE⟩ := bnE hE
      obtain ⟨hk71, hE⟩ := ckE hE
      refine r_getI rfl (fl_10_120 rfl) (Or.inl rfl) ha70 hk71 ?_
      cases hE
      exact r_ret rfl (Or.inl ⟨rfl, _, _, rfl, rfl, rfl, rfl⟩)
    have hE := ifN hx67 hE
    rcases Decidable.em (x1 = 14) with hx72 | hx72
    · have hE := ifP hx72 hE
      refine r_tabIn (tgt := 209) 14 rfl hc1 (by rw [hx72]; decide +kernel) rfl (by decide) ?_
      refine r_aload_n (t := some a0) 0 rfl rfl rfl ?_
      obtain ⟨hk73, hE⟩ := ckE hE
      refine r_getR rfl (fl_10_48 rfl) (Or.inl ⟨_, rfl⟩) rfl hk73 ?_
      obtain ⟨a_74, ha75, hE⟩ := bnE hE
      obtain ⟨hk76, hE⟩ := ckE hE
      refine r_getZ rfl (fl_10_323 rfl) ha75 hk76 ?_
      refine r_if_eq (tgt := 223) rfl (by decide) (fun hc77 => ?_) (fun hc77 => ?_)
      · have hE := ifP hc77 hE
        refine r_iconst 0 rfl ci_0 ?_
        cases hE
        exact r_ret rfl (Or.inl ⟨rfl, _, _, rfl, rfl, rfl, rfl⟩)
      · have hE := ifN hc77 hE
        refine r_iconst 1 rfl ci_1 ?_
        refine r_goto (tgt := 224) rfl (by decide) ?_
        cases hE
        exact r_ret rfl (Or.inl ⟨rfl, _, _, rfl, rfl, rfl, rfl⟩)
    have hE := ifN hx72 hE
    exact nomatch hE
def Le_give_b19 (N : Nat)  (h : PH) : Option (Option Int32 × PH) :=
  some (none, tw h)
set_option maxRecDepth 20000 in
theorem Le_give_b19_ok (g : GT) (hst : (gl g).stackTraces = false) (N : Nat) (D : Nat) (hD : 7 ≤ D) : ∀  (h : PH) (v : Option Int32) (h' : PH), Le_give_b19 N  h = some (v, h') → Run g pLe_give D 19 [] [] h (rX v) h' := by
  obtain ⟨D2, rfl⟩ : ∃ d, D = d + 1 := ⟨D - 1, by omega⟩
  intro  h v h' hE
  unfold Le_give_b19 at hE
  cases hE
  exact r_throw (st := []) ⟨156, 158, cok_Le_give.dec (pc := 19) rfl, cok_Le_give.dec (pc := 22) rfl, cok_Le_give.dec (pc := 23) rfl, cok_Le_give.dec (pc := 26) rfl, rfl, rfl⟩
def Le_give (N : Nat) (a0 : Nat) (x1 : Int32) (h : PH) : Option (Option Int32 × PH) :=
  if x1 < 0 then
    Le_give_b19 N   h
  else
    if 4 < x1 then
      Le_give_b19 N   h
    else
      ck ((hK h a0).1 = 10) <|
      ((hR h a0 6)).bind fun a_4 =>
      ck ((hK h a_4).1 = 3) <|
      bd (Ni_canBeGiven N a_4 h) fun v7 h8 =>
      if (bI v7) = 0 then
        Le_give_b19 N   h8
      else
        ck ((hK h8 a0).1 = 10) <|
        bd (Le_keepForUndo N a0 h8) fun v12 h13 =>
        ck ((hK h13 a0).1 = 10) <|
        ((hR h13 a0 6)).bind fun a_16 =>
        ck ((hK h13 a_16).1 = 3) <|
        bd (Ni_hand N a_16 (hR h13 a0 1) x1 h13) fun v19 h20 =>
        some (some v19, h20)
set_option maxRecDepth 20000 in
theorem Le_give_ok (g : GT) (hst : (gl g).stackTraces = false) (N : Nat) (a0 : Nat) (x1 : Int32) (h : PH) (v : Option Int32) (h' : PH) (hE : Le_give N a0 x1 h = some (v, h')) (D : Nat) (hD : 7 ≤ D) : XCalls g D pLe_give [va_rf (some a0), .int x1] h (rX v) h' := by
  refine XCalls.of hst cok_Le_give ht_Le_give rfl pl_Le_give (fun ad => by rw [lg_len, sL_cat]; simp only [List.map_cons, List.map_nil, rf_cat, cat_i, cat_l, List.sum_cons, List.sum_nil]; decide) (by omega) cw_x ini_x ?_
  rw [show lv_args 0 [va_rf (some a0), .int x1] = [(0, va_rf (some a0)), (1, .int x1)] from (by simp only [lv_args, rf_cat, cat_i, cat_l]; try rfl)]
  obtain ⟨D2, rfl⟩ : ∃ d, D = d + 1 := ⟨D - 1, by omega⟩
  unfold Le_give at hE
  refine r_iload_n 1 rfl rfl rfl ?_
  refine r_if_lt (tgt := 19) rfl (by decide) (fun hc1 => ?_) (fun hc1 => ?_)
  · have hE := ifP hc1 hE
    exact r_sb (Le_give_b19_ok g hst N _ hD    _ _ _ hE) trivial
  · have hE := ifN hc1 hE
    refine r_iload_n 1 rfl rfl rfl ?_
    refine r_iconst 4 rfl ci_4 ?_
    refine r_icmp_gt (tgt := 19) rfl (by decide) (fun hc2 => ?_) (fun hc2 => ?_)
    · have hE := ifP hc2 hE
      exact r_sb (Le_give_b19_ok g hst N _ hD    _ _ _ hE) trivial
    · have hE := ifN hc2 hE
      refine r_aload_n (t := some a0) 0 rfl rfl rfl ?_
      obtain ⟨hk3, hE⟩ := ckE hE
      refine r_getR rfl (fl_10_48 rfl) (Or.inl ⟨_, rfl⟩) rfl hk3 ?_
      obtain ⟨a_4, ha5, hE⟩ := bnE hE
      obtain ⟨hk6, hE⟩ := ckE hE
      obtain ⟨v7, h8, hq9, hE⟩ := bdE hE
      refine r_callV1 (rest := []) (hc := (Ni_canBeGiven_ok g N _ _ _ _ hq9 D2 (by omega))) rfl pm_Ni_canBeGiven lw_10_152 im_Ni_canBeGiven sl_Ni_canBeGiven ha5 rfl rfl (rcOK hk6 rfl) (by decide) ?_
      refine r_if_ne (tgt := 27) rfl (by decide) (fun hc10 => ?_) (fun hc10 => ?_)
      · have hE := ifP hc10 hE
        exact r_sb (Le_give_b19_ok g hst N _ hD    _ _ _ hE) trivial
      · have hE := ifN hc10 hE
        refine r_aload_n (t := some a0) 0 rfl rfl rfl ?_
        obtain ⟨hk11, hE⟩ := ckE hE
        obtain ⟨v12, h13, hq14, hE⟩ := bdE hE
        refine r_callV0 (rest := []) (hc := (Le_keepForUndo_ok g N _ _ _ _ hq14 D2 (by omega))) rfl pm_Le_keepForUndo lw_10_145 im_Le_keepForUndo sl_Le_keepForUndo rfl rfl rfl (rcOK hk11 rfl) (by decide) ?_
        refine r_aload_n (t := some a0) 0 rfl rfl rfl ?_
        obtain ⟨hk15, hE⟩ := ckE hE
        refine r_getR rfl (fl_10_48 rfl) (Or.inl ⟨_, rfl⟩) rfl hk15 ?_
        refine r_aload_n (t := some a0) 0 rfl rfl rfl ?_
        refine r_getR rfl (fl_10_19 rfl) (Or.inl ⟨_, rfl⟩) rfl hk15 ?_
        refine r_iload_n 1 rfl rfl rfl ?_
        obtain ⟨a_16, ha17, hE⟩ := bnE hE
        obtain ⟨hk18, hE⟩ := ckE hE
        obtain ⟨v19, h20, hq21, hE⟩ := bdE hE
        refine r_callV1 (rest := []) (hc := (Ni_hand_ok g N _ _ _ _ _ _ hq21 D2 (by omega))) rfl pm_Ni_hand lw_10_159 im_Ni_hand sl_Ni_hand ha17 rfl rfl (rcOK hk18 rfl) (by decide) ?_
        cases hE
        exact r_ret rfl (Or.inl ⟨rfl, _, _, rfl, rfl, rfl, rfl⟩)
def Le_judged_b9 (N : Nat)  (h : PH) : Option (Option Int32 × PH) :=
  some (none, tw h)
set_option maxRecDepth 20000 in
theorem Le_judged_b9_ok (g : GT) (hst : (gl g).stackTraces = false) (N : Nat) (D : Nat) (hD : 8 ≤ D) : ∀  (h : PH) (v : Option Int32) (h' : PH), Le_judged_b9 N  h = some (v, h') → Run g pLe_judged D 9 [] [] h (rX v) h' := by
  obtain ⟨D2, rfl⟩ : ∃ d, D = d + 1 := ⟨D - 1, by omega⟩
  intro  h v h' hE
  unfold Le_judged_b9 at hE
  cases hE
  exact r_throw (st := []) ⟨156, 158, cok_Le_judged.dec (pc := 9) rfl, cok_Le_judged.dec (pc := 12) rfl, cok_Le_judged.dec (pc := 13) rfl, cok_Le_judged.dec (pc := 16) rfl, rfl, rfl⟩
def Le_judged_b171 (N : Nat) (self_35 : Nat → Int32 → Int32 → Int32 → Int32 → PH → Option (Option Int32 × PH)) (a0 : Nat) (x1 : Int32) (x2 : Int32) (x3 : Int32) (x4 : Int32) (h : PH) : Option (Option Int32 × PH) :=
  self_35 a0 x1 x2 x3 (x4 + 1) h
set_option maxRecDepth 20000 in
theorem Le_judged_b171_ok (g : GT) (hst : (gl g).stackTraces = false) (N : Nat) (D : Nat) (hD : 8 ≤ D) (self_35 : Nat → Int32 → Int32 → Int32 → Int32 → PH → Option (Option Int32 × PH)) (hself_35 : ∀ (a0 : Nat) (x1 : Int32) (x2 : Int32) (x3 : Int32) (x4 : Int32) (h : PH) (v : Option Int32) (h' : PH), self_35 a0 x1 x2 x3 x4 h = some (v, h') → Run g pLe_judged D 35 [(0, va_rf (some a0)), (1, .int x1), (2, .int x2), (3, .int x3), (4, .int x4)] [] h (rX v) h') : ∀ (a0 : Nat) (x1 : Int32) (x2 : Int32) (x3 : Int32) (x4 : Int32) (h : PH) (v : Option Int32) (h' : PH), Le_judged_b171 N self_35 a0 x1 x2 x3 x4 h = some (v, h') → Run g pLe_judged D 171 [(0, va_rf (some a0)), (1, .int x1), (2, .int x2), (3, .int x3), (4, .int x4)] [] h (rX v) h' := by
  obtain ⟨D2, rfl⟩ : ∃ d, D = d + 1 := ⟨D - 1, by omega⟩
  intro a0 x1 x2 x3 x4 h v h' hE
  unfold Le_judged_b171 at hE
  refine r_iinc _ rfl rfl (congrArg _ ci_1) (by decide) ?_
  refine r_goto (tgt := 35) rfl (by decide) ?_
  first | exact r_sb (hself_35 _ _ _ _ _ _ _ _ hE) ⟨rfl, rfl, rfl, rfl, rfl, trivial⟩ | exact r_sb (hself_35 _ _ _ _ _ _ _ _ hE) (by simp only [su1, su2, dr1_rf, dr1_in, dr1_lo, dr2_rf, dr2_in, dr2_lo]; exact ⟨rfl, rfl, rfl, rfl, rfl, trivial⟩)
def Le_judged_b145 (N : Nat) (self_35 : Nat → Int32 → Int32 → Int32 → Int32 → PH → Option (Option Int32 × PH)) (a0 : Nat) (x1 : Int32) (x2 : Int32) (x3 : Int32) (x4 : Int32) (x5 : Int32) (x6 : Int32) (h : PH) : Option (Option Int32 × PH) :=
  ck ((hK h a0).1 = 10) <|
  ((hR h a0 7)).bind fun a_2 =>
  ck ((hK h a_2).1 = 3) <|
  bd (Ni_act N a_2 (hR h a0 1) x5 x6 h) fun v5 h6 =>
  if (bI v5) = 0 then
    if x2 = (-1) then
      Le_judged_b171 N self_35  a0 x1 x4 x3 x4 h6
    else
      Le_judged_b171 N self_35  a0 x1 x2 x3 x4 h6
  else
    Le_judged_b171 N self_35  a0 x1 x2 x3 x4 h6
set_option maxRecDepth 20000 in
theorem Le_judged_b145_ok (g : GT) (hst : (gl g).stackTraces = false) (N : Nat) (D : Nat) (hD : 8 ≤ D) (self_35 : Nat → Int32 → Int32 → Int32 → Int32 → PH → Option (Option Int32 × PH)) (hself_35 : ∀ (a0 : Nat) (x1 : Int32) (x2 : Int32) (x3 : Int32) (x4 : Int32) (h : PH) (v : Option Int32) (h' : PH), self_35 a0 x1 x2 x3 x4 h = some (v, h') → Run g pLe_judged D 35 [(0, va_rf (some a0)), (1, .int x1), (2, .int x2), (3, .int x3), (4, .int x4)] [] h (rX v) h') : ∀ (a0 : Nat) (x1 : Int32) (x2 : Int32) (x3 : Int32) (x4 : Int32) (x5 : Int32) (x6 : Int32) (h : PH) (v : Option Int32) (h' : PH), Le_judged_b145 N self_35 a0 x1 x2 x3 x4 x5 x6 h = some (v, h') → Run g pLe_judged D 145 [(0, va_rf (some a0)), (1, .int x1), (2, .int x2), (3, .int x3), (4, .int x4), (5, .int x5), (6, .int x6)] [] h (rX v) h' := by
  obtain ⟨D2, rfl⟩ : ∃ d, D = d + 1 := ⟨D - 1, by omega⟩
  intro a0 x1 x2 x3 x4 x5 x6 h v h' hE
  unfold Le_judged_b145 at hE
  refine r_aload_n (t := some a0) 0 rfl rfl rfl ?_
  obtain ⟨hk1, hE⟩ := ckE hE
  refine r_getR rfl (fl_10_52 rfl) (Or.inl ⟨_, rfl⟩) rfl hk1 ?_
  refine r_aload_n (t := some a0) 0 rfl rfl rfl ?_
  refine r_getR rfl (fl_10_19 rfl) (Or.inl ⟨_, rfl⟩) rfl hk1 ?_
  refine r_iload rfl rfl ?_
  refine r_iload rfl rfl ?_
  obtain ⟨a_2, ha3, hE⟩ := bnE hE
  obtain ⟨hk4, hE⟩ := ckE hE
  obtain ⟨v5, h6, hq7, hE⟩ := bdE hE
  refine r_callV1 (rest := []) (hc := (Ni_act_ok g N _ _ _ _ _ _ _ hq7 D2 (by omega))) rfl pm_Ni_act lw_10_216 im_Ni_act sl_Ni_act ha3 rfl rfl (rcOK hk4 rfl) (by decide) ?_
  refine r_if_ne (tgt := 171) rfl (by decide) (fun hc8 => ?_) (fun hc8 => ?_)
  · have hE := ifP hc8 hE
    refine r_iload_n 2 rfl rfl rfl ?_
    refine r_iconst (-1) rfl ci_m1 ?_
    refine r_icmp_ne (tgt := 171) rfl (by decide) (fun hc9 => ?_) (fun hc9 => ?_)
    · have hE := ifP hc9 hE
      refine r_iload rfl rfl ?_
      refine r_istore_n 2 rfl rfl (by decide) ?_
      first | exact r_sb (Le_judged_b171_ok g hst N _ hD _ hself_35  _ _ _ _ _ _ _ _ hE) ⟨rfl, rfl, rfl, rfl, rfl, trivial⟩ | exact r_sb (Le_judged_b171_ok g hst N _ hD _ hself_35  _ _ _ _ _ _ _ _ hE) (by simp only [su1, su2, dr1_rf, dr1_in, dr1_lo, dr2_rf, dr2_in, dr2_lo]; exact ⟨rfl, rfl, rfl, rfl, rfl, trivial⟩)
    · have hE := ifN hc9 hE
      first | exact r_sb (Le_judged_b171_ok g hst N _ hD _ hself_35  _ _ _ _ _ _ _ _ hE) ⟨rfl, rfl, rfl, rfl, rfl, trivial⟩ | exact r_sb (Le_judged_b171_ok g hst N _ hD _ hself_35  _ _ _ _ _ _ _ _ hE) (by simp only [su1, su2, dr1_rf, dr1_in, dr1_lo, dr2_rf, dr2_in, dr2_lo]; exact ⟨rfl, rfl, rfl, rfl, rfl, trivial⟩)
  · have hE := ifN hc8 hE
    first | exact r_sb (Le_judged_b171_ok g hst N _ hD _ hself_35  _ _ _ _ _ _ _ _ hE) ⟨rfl, rfl, rfl, rfl, rfl, trivial⟩ | exact r_sb (Le_judged_b171_ok g hst N _ hD _ hself_35  _ _ _ _ _ _ _ _ hE) (by simp only [su1, su2, dr1_rf, dr1_in, dr1_lo, dr2_rf, dr2_in, dr2_lo]; exact ⟨rfl, rfl, rfl, rfl, rfl, trivial⟩)
def Le_judged_b35 (N : Nat) : Nat → Nat → Int32 → Int32 → Int32 → Int32 → PH → Option (Option Int32 × PH)
  | 0 => fun _ _ _ _ _ _ => none
  | n + 1 => fun a0 x1 x2 x3 x4 h =>
    ck ((hK h a0).1 = 10) <|
    ((hR h a0 3)).bind fun a_2 =>
    ck ((hK h a_2).1 = 6) <|
    if (hI h a_2 2) ≤ x4 then
      if x1 = 0 then
        some (some x2, h)
      else
        if x1 = 1 then
          some (some x3, h)
        else
          ((hR h a0 7)).bind fun a_8 =>
          ck ((hK h a_8).1 = 3) <|
          some (some (hI h a_8 5), h)
    else
      bd (Le_at N (hR h a_2 0) x4 h) fun v11 h12 =>
      ck ((hK h12 a0).1 = 10) <|
      ((hR h12 a0 3)).bind fun a_15 =>
      ck ((hK h12 a_15).1 = 6) <|
      bd (Le_at N (hR h12 a_15 1) x4 h12) fun v18 h19 =>
      if x1 = 1 then
        if x3 = (-1) then
          if v11 = 17 then
            ck ((hK h19 a0).1 = 10) <|
            ((hR h19 a0 7)).bind fun a_25 =>
            ck ((hK h19 a_25).1 = 3) <|
            bd (Ni_canBeGiven N a_25 h19) fun v28 h29 =>
            if (bI v28) = 0 then
              Le_judged_b145 N (Le_judged_b35 N n)  a0 x1 x2 x3 x4 v11 v18 h29
            else
              ck ((hK h29 a0).1 = 10) <|
              ((hR h29 a0 7)).bind fun a_33 =>
              ck ((hK h29 a_33).1 = 3) <|
              ((hR h29 a0 12)).bind fun a_36 =>
              ck ((hK h29 a_36).1 = 9) <|
              bd (Va_bestGive N a_36 (hI h29 a_33 0) (hI h29 a_33 1) (hI h29 a_33 2) (hI h29 a_33 3) h29) fun v39 h40 =>
              if v18 = v39 then
                Le_judged_b145 N (Le_judged_b35 N n)  a0 x1 x2 x3 x4 v11 v18 h40
              else
                Le_judged_b145 N (Le_judged_b35 N n)  a0 x1 x2 x4 x4 v11 v18 h40
          else
            Le_judged_b145 N (Le_judged_b35 N n)  a0 x1 x2 x3 x4 v11 v18 h19
        else
          Le_judged_b145 N (Le_judged_b35 N n)  a0 x1 x2 x3 x4 v11 v18 h19
      else
        Le_judged_b145 N (Le_judged_b35 N n)  a0 x1 x2 x3 x4 v11 v18 h19
set_option maxRecDepth 20000 in
theorem Le_judged_b35_ok (g : GT) (hst : (gl g).stackTraces = false) (N : Nat) (D : Nat) (hD : 8 ≤ D) : ∀ (n : Nat) (a0 : Nat) (x1 : Int32) (x2 : Int32) (x3 : Int32) (x4 : Int32) (h : PH) (v : Option Int32) (h' : PH), Le_judged_b35 N n a0 x1 x2 x3 x4 h = some (v, h') → Run g pLe_judged D 35 [(0, va_rf (some a0)), (1, .int x1), (2, .int x2), (3, .int x3), (4, .int x4)] [] h (rX v) h' := by
  obtain ⟨D2, rfl⟩ : ∃ d, D = d + 1 := ⟨D - 1, by omega⟩
  intro n
  induction n with
  | zero => exact fun _ _ _ _ _ _ _ _ hE => nomatch (show none = some _ from hE)
  | succ n ih =>
    intro a0 x1 x2 x3 x4 h v h' hE
    unfold Le_judged_b35 at hE
    refine r_iload rfl rfl ?_
    refine r_aload_n (t := some a0) 0 rfl rfl rfl ?_
    obtain ⟨hk1, hE⟩ := ckE hE
    refine r_getR rfl (fl_10_29 rfl) (Or.inl ⟨_, rfl⟩) rfl hk1 ?_
    obtain ⟨a_2, ha3, hE⟩ := bnE hE
    obtain ⟨hk4, hE⟩ := ckE hE
    refine r_getI rfl (fl_10_189 rfl) (Or.inl rfl) ha3 hk4 ?_
    refine r_icmp_ge (tgt := 177) rfl (by decide) (fun hc5 => ?_) (fun hc5 => ?_)
    · have hE := ifP hc5 hE
      refine r_iload_n 1 rfl rfl rfl ?_
      refine r_if_ne (tgt := 185) rfl (by decide) (fun hc6 => ?_) (fun hc6 => ?_)
      · have hE := ifP hc6 hE
        refine r_iload_n 2 rfl rfl rfl ?_
        refine r_goto (tgt := 201) rfl (by decide) ?_
        cases hE
        exact r_ret rfl (Or.inl ⟨rfl, _, _, rfl, rfl, rfl, rfl⟩)
      · have hE := ifN hc6 hE
        refine r_iload_n 1 rfl rfl rfl ?_
        refine r_iconst 1 rfl ci_1 ?_
        refine r_icmp_ne (tgt := 194) rfl (by decide) (fun hc7 => ?_) (fun hc7 => ?_)
        · have hE := ifP hc7 hE
          refine r_iload_n 3 rfl rfl rfl ?_
          refine r_goto (tgt := 201) rfl (by decide) ?_
          cases hE
          exact r_ret rfl (Or.inl ⟨rfl, _, _, rfl, rfl, rfl, rfl⟩)
        · have hE := ifN hc7 hE
          refine r_aload_n (t := some a0) 0 rfl rfl rfl ?_
          refine r_getR rfl (fl_10_52 rfl) (Or.inl ⟨_, rfl⟩) rfl hk1 ?_
          obtain ⟨a_8, ha9, hE⟩ := bnE hE
          obtain ⟨hk10, hE⟩ := ckE hE
          refine r_getI rfl (fl_10_220 rfl) (Or.inl rfl) ha9 hk10 ?_
          cases hE
          exact r_ret rfl (Or.inl ⟨rfl, _, _, rfl, rfl, rfl, rfl⟩)
    · have hE := ifN hc5 hE
      refine r_aload_n (t := some a0) 0 rfl rfl rfl ?_
      refine r_getR rfl (fl_10_29 rfl) (Or.inl ⟨_, rfl⟩) rfl hk1 ?_
      refine r_getR rfl (fl_10_192 rfl) (Or.inr ⟨_, rfl⟩) ha3 hk4 ?_
      refine r_iload rfl rfl ?_
      obtain ⟨v11, h12, hq13, hE⟩ := bdE hE
      refine r_callS1 (rest := []) (hc := (Le_at_ok g N _ _ _ _ _ hq13 D2 (by omega))) rfl pm_Le_at lw_10_196 st_Le_at rfl rfl (by decide) ?_
      refine r_istore rfl (by decide) ?_
      refine r_aload_n (t := some a0) 0 rfl rfl rfl ?_
      obtain ⟨hk14, hE⟩ := ckE hE
      refine r_getR rfl (fl_10_29 rfl) (Or.inl ⟨_, rfl⟩) rfl hk14 ?_
      obtain ⟨a_15, ha16, hE⟩ := bnE hE
      obtain ⟨hk17, hE⟩ := ckE hE
      refine r_getR rfl (fl_10_200 rfl) (Or.inr ⟨_, rfl⟩) ha16 hk17 ?_
      refine r_iload rfl rfl ?_
      obtain ⟨v18, h19, hq20, hE⟩ := bdE hE
      refine r_callS1 (rest := []) (hc := (Le_at_ok g N _ _ _ _ _ hq20 D2 (by omega))) rfl pm_Le_at lw_10_196 st_Le_at rfl rfl (by decide) ?_
      refine r_istore rfl (by decide) ?_
      refine r_iload_n 1 rfl rfl rfl ?_
      refine r_iconst 1 rfl ci_1 ?_
      refine r_icmp_ne (tgt := 145) rfl (by decide) (fun hc21 => ?_) (fun hc21 => ?_)
      · have hE := ifP hc21 hE
        refine r_iload_n 3 rfl rfl rfl ?_
        refine r_iconst (-1) rfl ci_m1 ?_
        refine r_icmp_ne (tgt := 145) rfl (by decide) (fun hc22 => ?_) (fun hc22 => ?_)
        · have hE := ifP hc22 hE
          refine r_iload rfl rfl ?_
          refine r_bipush 17 rfl cb_17 ?_
          refine r_icmp_ne (tgt := 145) rfl (by decide) (fun hc23 => ?_) (fun hc23 => ?_)
          · have hE := ifP hc23 hE
            refine r_aload_n (t := some a0) 0 rfl rfl rfl ?_
            obtain ⟨hk24, hE⟩ := ckE hE
            refine r_getR rfl (fl_10_52 rfl) (Or.inl ⟨_, rfl⟩) rfl hk24 ?_
            obtain ⟨a_25, ha26, hE⟩ := bnE hE
            obtain ⟨hk27, hE⟩ := ckE hE
            obtain ⟨v28, h29, hq30, hE⟩ := bdE hE
            refine r_callV1 (rest := []) (hc := (Ni_canBeGiven_ok g N _ _ _ _ hq30 D2 (by omega))) rfl pm_Ni_canBeGiven lw_10_152 im_Ni_canBeGiven sl_Ni_canBeGiven ha26 rfl rfl (rcOK hk27 rfl) (by decide) ?_
            refine r_if_eq (tgt := 145) rfl (by decide) (fun hc31 => ?_) (fun hc31 => ?_)
            · have hE := ifP hc31 hE
              first | exact r_sb (Le_judged_b145_ok g hst N _ hD _ ih  _ _ _ _ _ _ _ _ _ _ hE) ⟨rfl, rfl, rfl, rfl, rfl, rfl, rfl, trivial⟩ | exact r_sb (Le_judged_b145_ok g hst N _ hD _ ih  _ _ _ _ _ _ _ _ _ _ hE) (by simp only [su1, su2, dr1_rf, dr1_in, dr1_lo, dr2_rf, dr2_in, dr2_lo]; exact ⟨rfl, rfl, rfl, rfl, rfl, rfl, rfl, trivial⟩)
            · have hE := ifN hc31 hE
              refine r_iload rfl rfl ?_
              refine r_aload_n (t := some a0) 0 rfl rfl rfl ?_
              obtain ⟨hk32, hE⟩ := ckE hE
              refine r_getR rfl (fl_10_77 rfl) (Or.inl ⟨_, rfl⟩) rfl hk32 ?_
              refine r_aload_n (t := some a0) 0 rfl rfl rfl ?_
              refine r_getR rfl (fl_10_52 rfl) (Or.inl ⟨_, rfl⟩) rfl hk32 ?_
              obtain ⟨a_33, ha34, hE⟩ := bnE hE
              obtain ⟨hk35, hE⟩ := ckE hE
              refine r_getI rfl (fl_10_170 rfl) (Or.inl rfl) ha34 hk35 ?_
              refine r_aload_n (t := some a0) 0 rfl rfl rfl ?_
              refine r_getR rfl (fl_10_52 rfl) (Or.inl ⟨_, rfl⟩) rfl hk32 ?_
              refine r_getI rfl (fl_10_203 rfl) (Or.inl rfl) ha34 hk35 ?_
              refine r_aload_n (t := some a0) 0 rfl rfl rfl ?_
              refine r_getR rfl (fl_10_52 rfl) (Or.inl ⟨_, rfl⟩) rfl hk32 ?_
              refine r_getI rfl (fl_10_206 rfl) (Or.inl rfl) ha34 hk35 ?_
              refine r_aload_n (t := some a0) 0 rfl rfl rfl ?_
              refine r_getR rfl (fl_10_52 rfl) (Or.inl ⟨_, rfl⟩) rfl hk32 ?_
              refine r_getI rfl (fl_10_209 rfl) (Or.inl rfl) ha34 hk35 ?_
              obtain ⟨a_36, ha37, hE⟩ := bnE hE
              obtain ⟨hk38, hE⟩ := ckE hE
              obtain ⟨v39, h40, hq41, hE⟩ := bdE hE
              refine r_callV1 (rest := [.int v18]) (hc := (Va_bestGive_ok g N _ _ _ _ _ _ _ _ hq41 D2 (by omega))) rfl pm_Va_bestGive lw_10_212 im_Va_bestGive sl_Va_bestGive ha37 rfl rfl (rcOK hk38 rfl) (by simp only [List.map_cons, List.map_nil, rf_cat, cat_i, cat_l, List.sum_cons, List.sum_nil]; decide) ?_
              refine r_icmp_eq (tgt := 145) rfl (by decide) (fun hc42 => ?_) (fun hc42 => ?_)
              · have hE := ifP hc42 hE
                first | exact r_sb (Le_judged_b145_ok g hst N _ hD _ ih  _ _ _ _ _ _ _ _ _ _ hE) ⟨rfl, rfl, rfl, rfl, rfl, rfl, rfl, trivial⟩ | exact r_sb (Le_judged_b145_ok g hst N _ hD _ ih  _ _ _ _ _ _ _ _ _ _ hE) (by simp only [su1, su2, dr1_rf, dr1_in, dr1_lo, dr2_rf, dr2_in, dr2_lo]; exact ⟨rfl, rfl, rfl, rfl, rfl, rfl, rfl, trivial⟩)
              · have hE := ifN hc42 hE
                refine r_iload rfl rfl ?_
                refine r_istore_n 3 rfl rfl (by decide) ?_
                first | exact r_sb (Le_judged_b145_ok g hst N _ hD _ ih  _ _ _ _ _ _ _ _ _ _ hE) ⟨rfl, rfl, rfl, rfl, rfl, rfl, rfl, trivial⟩ | exact r_sb (Le_judged_b145_ok g hst N _ hD _ ih  _ _ _ _ _ _ _ _ _ _ hE) (by simp only [su1, su2, dr1_rf, dr1_in, dr1_lo, dr2_rf, dr2_in, dr2_lo]; exact ⟨rfl, rfl, rfl, rfl, rfl, rfl, rfl, trivial⟩)
          · have hE := ifN hc23 hE
            first | exact r_sb (Le_judged_b145_ok g hst N _ hD _ ih  _ _ _ _ _ _ _ _ _ _ hE) ⟨rfl, rfl, rfl, rfl, rfl, rfl, rfl, trivial⟩ | exact r_sb (Le_judged_b145_ok g hst N _ hD _ ih  _ _ _ _ _ _ _ _ _ _ hE) (by simp only [su1, su2, dr1_rf, dr1_in, dr1_lo, dr2_rf, dr2_in, dr2_lo]; exact ⟨rfl, rfl, rfl, rfl, rfl, rfl, rfl, trivial⟩)
        · have hE := ifN hc22 hE
          first | exact r_sb (Le_judged_b145_ok g hst N _ hD _ ih  _ _ _ _ _ _ _ _ _ _ hE) ⟨rfl, rfl, rfl, rfl, rfl, rfl, rfl, trivial⟩ | exact r_sb (Le_judged_b145_ok g hst N _ hD _ ih  _ _ _ _ _ _ _ _ _ _ hE) (by simp only [su1, su2, dr1_rf, dr1_in, dr1_lo, dr2_rf, dr2_in, dr2_lo]; exact ⟨rfl, rfl, rfl, rfl, rfl, rfl, rfl, trivial⟩)
      · have hE := ifN hc21 hE
        first | exact r_sb (Le_judged_b145_ok g hst N _ hD _ ih  _ _ _ _ _ _ _ _ _ _ hE) ⟨rfl, rfl, rfl, rfl, rfl, rfl, rfl, trivial⟩ | exact r_sb (Le_judged_b145_ok g hst N _ hD _ ih  _ _ _ _ _ _ _ _ _ _ hE) (by simp only [su1, su2, dr1_rf, dr1_in, dr1_lo, dr2_rf, dr2_in, dr2_lo]; exact ⟨rfl, rfl, rfl, rfl, rfl, rfl, rfl, trivial⟩)
def Le_judged (N : Nat) (a0 : Nat) (x1 : Int32) (h : PH) : Option (Option Int32 × PH) :=
  if x1 < 0 then
    Le_judged_b9 N   h
  else
    if x1 ≤ 2 then
      ck ((hK h a0).1 = 10) <|
      ((hR h a0 7)).bind fun a_4 =>
      ck ((hK h a_4).1 = 3) <|
      bd (Ni_begin N a_4 (hR h a0 1) h) fun v7 h8 =>
      Le_judged_b35 N N a0 x1 (-1) (-1) 0 h8
    else
      Le_judged_b9 N   h
set_option maxRecDepth 20000 in
theorem Le_judged_ok (g : GT) (hst : (gl g).stackTraces = false) (N : Nat) (a0 : Nat) (x1 : Int32) (h : PH) (v : Option Int32) (h' : PH) (hE : Le_judged N a0 x1 h = some (v, h')) (D : Nat) (hD : 8 ≤ D) : XCalls g D pLe_judged [va_rf (some a0), .int x1] h (rX v) h' := by
  refine XCalls.of hst cok_Le_judged ht_Le_judged rfl pl_Le_judged (fun ad => by rw [lg_len, sL_cat]; simp only [List.map_cons, List.map_nil, rf_cat, cat_i, cat_l, List.sum_cons, List.sum_nil]; decide) (by omega) cw_x ini_x ?_
  rw [show lv_args 0 [va_rf (some a0), .int x1] = [(0, va_rf (some a0)), (1, .int x1)] from (by simp only [lv_args, rf_cat, cat_i, cat_l]; try rfl)]
  obtain ⟨D2, rfl⟩ : ∃ d, D = d + 1 := ⟨D - 1, by omega⟩
  unfold Le_judged at hE
  refine r_iload_n 1 rfl rfl rfl ?_
  refine r_if_lt (tgt := 9) rfl (by decide) (fun hc1 => ?_) (fun hc1 => ?_)
  · have hE := ifP hc1 hE
    exact r_sb (Le_judged_b9_ok g hst N _ hD    _ _ _ hE) trivial
  · have hE := ifN hc1 hE
    refine r_iload_n 1 rfl rfl rfl ?_
    refine r_iconst 2 rfl ci_2 ?_
    refine r_icmp_le (tgt := 17) rfl (by decide) (fun hc2 => ?_) (fun hc2 => ?_)
    · have hE := ifP hc2 hE
      refine r_iconst (-1) rfl ci_m1 ?_
      refine r_istore_n 2 rfl rfl (by decide) ?_
      refine r_iconst (-1) rfl ci_m1 ?_
      refine r_istore_n 3 rfl rfl (by decide) ?_
      refine r_aload_n (t := some a0) 0 rfl rfl rfl ?_
      obtain ⟨hk3, hE⟩ := ckE hE
      refine r_getR rfl (fl_10_52 rfl) (Or.inl ⟨_, rfl⟩) rfl hk3 ?_
      refine r_aload_n (t := some a0) 0 rfl rfl rfl ?_
      refine r_getR rfl (fl_10_19 rfl) (Or.inl ⟨_, rfl⟩) rfl hk3 ?_
      obtain ⟨a_4, ha5, hE⟩ := bnE hE
      obtain ⟨hk6, hE⟩ := ckE hE
      obtain ⟨v7, h8, hq9, hE⟩ := bdE hE
      refine r_callV0 (rest := []) (hc := (Ni_begin_ok g N _ _ _ _ _ hq9 D2 (by omega))) rfl pm_Ni_begin lw_10_186 im_Ni_begin sl_Ni_begin ha5 rfl rfl (rcOK hk6 rfl) (by decide) ?_
      refine r_iconst 0 rfl ci_0 ?_
      refine r_istore rfl (by decide) ?_
      first | exact r_sb (Le_judged_b35_ok g hst N _ hD  N _ _ _ _ _ _ _ _ hE) ⟨rfl, rfl, rfl, rfl, rfl, trivial⟩ | exact r_sb (Le_judged_b35_ok g hst N _ hD  N _ _ _ _ _ _ _ _ hE) (by simp only [su1, su2, dr1_rf, dr1_in, dr1_lo, dr2_rf, dr2_in, dr2_lo]; exact ⟨rfl, rfl, rfl, rfl, rfl, trivial⟩)
    · have hE := ifN hc2 hE
      exact r_sb (Le_judged_b9_ok g hst N _ hD    _ _ _ hE) trivial
def Le_value_b45 (N : Nat)  (h : PH) : Option (Option Int32 × PH) :=
  some (none, tw h)
set_option maxRecDepth 20000 in
theorem Le_value_b45_ok (g : GT) (hst : (gl g).stackTraces = false) (N : Nat) (D : Nat) (hD : 8 ≤ D) : ∀  (h : PH) (v : Option Int32) (h' : PH), Le_value_b45 N  h = some (v, h') → Run g pLe_value D 45 [] [] h (rX v) h' := by
  obtain ⟨D2, rfl⟩ : ∃ d, D = d + 1 := ⟨D - 1, by omega⟩
  intro  h v h' hE
  unfold Le_value_b45 at hE
  cases hE
  exact r_throw (st := []) ⟨156, 158, cok_Le_value.dec (pc := 45) rfl, cok_Le_value.dec (pc := 48) rfl, cok_Le_value.dec (pc := 49) rfl, cok_Le_value.dec (pc := 52) rfl, rfl, rfl⟩
def Le_value (N : Nat) (a0 : Nat) (x1 : Int32) (x2 : Int32) (x3 : Int32) (x4 : Int32) (h : PH) : Option (Option Int32 × PH) :=
  if x1 < 0 then
    Le_value_b45 N   h
  else
    ck ((hK h a0).1 = 10) <|
    ((hR h a0 1)).bind fun a_3 =>
    ck ((hK h a_3).1 = 0) <|
    if (hI h a_3 0) < x1 then
      Le_value_b45 N   h
    else
      if x2 < 0 then
        Le_value_b45 N   h
      else
        if (hI h a_3 1) < x2 then
          Le_value_b45 N   h
        else
          if x3 < 0 then
            Le_value_b45 N   h
          else
            if x3 ≤ (hI h a_3 2) then
              ((hR h a0 12)).bind fun a_11 =>
              ck ((hK h a_11).1 = 9) <|
              bd (Va_worthFrom N a_11 x1 x2 x3 x4 h) fun v14 h15 =>
              some (some v14, h15)
            else
              Le_value_b45 N   h
set_option maxRecDepth 20000 in
theorem Le_value_ok (g : GT) (hst : (gl g).stackTraces = false) (N : Nat) (a0 : Nat) (x1 : Int32) (x2 : Int32) (x3 : Int32) (x4 : Int32) (h : PH) (v : Option Int32) (h' : PH) (hE : Le_value N a0 x1 x2 x3 x4 h = some (v, h')) (D : Nat) (hD : 8 ≤ D) : XCalls g D pLe_value [va_rf (some a0), .int x1, .int x2, .int x3, .int x4] h (rX v) h' := by
  refine XCalls.of hst cok_Le_value ht_Le_value rfl pl_Le_value (fun ad => by rw [lg_len, sL_cat]; simp only [List.map_cons, List.map_nil, rf_cat, cat_i, cat_l, List.sum_cons, List.sum_nil]; decide) (by omega) cw_x ini_x ?_
  rw [show lv_args 0 [va_rf (some a0), .int x1, .int x2, .int x3, .int x4] = [(0, va_rf (some a0)), (1, .int x1), (2, .int x2), (3, .int x3), (4, .int x4)] from (by simp only [lv_args, rf_cat, cat_i, cat_l]; try rfl)]
  obtain ⟨D2, rfl⟩ : ∃ d, D = d + 1 := ⟨D - 1, by omega⟩
  unfold Le_value at hE
  refine r_iload_n 1 rfl rfl rfl ?_
  refine r_if_lt (tgt := 45) rfl (by decide) (fun hc1 => ?_) (fun hc1 => ?_)
  · have hE := ifP hc1 hE
    exact r_sb (Le_value_b45_ok g hst N _ hD    _ _ _ hE) trivial
  · have hE := ifN hc1 hE
    refine r_iload_n 1 rfl rfl rfl ?_
    refine r_aload_n (t := some a0) 0 rfl rfl rfl ?_
    obtain ⟨hk2, hE⟩ := ckE hE
    refine r_getR rfl (fl_10_19 rfl) (Or.inl ⟨_, rfl⟩) rfl hk2 ?_
    obtain ⟨a_3, ha4, hE⟩ := bnE hE
    obtain ⟨hk5, hE⟩ := ckE hE
    refine r_getI rfl (fl_10_134 rfl) (Or.inl rfl) ha4 hk5 ?_
    refine r_icmp_gt (tgt := 45) rfl (by decide) (fun hc6 => ?_) (fun hc6 => ?_)
    · have hE := ifP hc6 hE
      exact r_sb (Le_value_b45_ok g hst N _ hD    _ _ _ hE) trivial
    · have hE := ifN hc6 hE
      refine r_iload_n 2 rfl rfl rfl ?_
      refine r_if_lt (tgt := 45) rfl (by decide) (fun hc7 => ?_) (fun hc7 => ?_)
      · have hE := ifP hc7 hE
        exact r_sb (Le_value_b45_ok g hst N _ hD    _ _ _ hE) trivial
      · have hE := ifN hc7 hE
        refine r_iload_n 2 rfl rfl rfl ?_
        refine r_aload_n (t := some a0) 0 rfl rfl rfl ?_
        refine r_getR rfl (fl_10_19 rfl) (Or.inl ⟨_, rfl⟩) rfl hk2 ?_
        refine r_getI rfl (fl_10_223 rfl) (Or.inl rfl) ha4 hk5 ?_
        refine r_icmp_gt (tgt := 45) rfl (by decide) (fun hc8 => ?_) (fun hc8 => ?_)
        · have hE := ifP hc8 hE
          exact r_sb (Le_value_b45_ok g hst N _ hD    _ _ _ hE) trivial
        · have hE := ifN hc8 hE
          refine r_iload_n 3 rfl rfl rfl ?_
          refine r_if_lt (tgt := 45) rfl (by decide) (fun hc9 => ?_) (fun hc9 => ?_)
          · have hE := ifP hc9 hE
            exact r_sb (Le_value_b45_ok g hst N _ hD    _ _ _ hE) trivial
          · have hE := ifN hc9 hE
            refine r_iload_n 3 rfl rfl rfl ?_
            refine r_aload_n (t := some a0) 0 rfl rfl rfl ?_
            refine r_getR rfl (fl_10_19 rfl) (Or.inl ⟨_, rfl⟩) rfl hk2 ?_
            refine r_getI rfl (fl_10_226 rfl) (Or.inl rfl) ha4 hk5 ?_
            refine r_icmp_le (tgt := 53) rfl (by decide) (fun hc10 => ?_) (fun hc10 => ?_)
            · have hE := ifP hc10 hE
              refine r_aload_n (t := some a0) 0 rfl rfl rfl ?_
              refine r_getR rfl (fl_10_77 rfl) (Or.inl ⟨_, rfl⟩) rfl hk2 ?_
              refine r_iload_n 1 rfl rfl rfl ?_
              refine r_iload_n 2 rfl rfl rfl ?_
              refine r_iload_n 3 rfl rfl rfl ?_
              refine r_iload rfl rfl ?_
              obtain ⟨a_11, ha12, hE⟩ := bnE hE
              obtain ⟨hk13, hE⟩ := ckE hE
              obtain ⟨v14, h15, hq16, hE⟩ := bdE hE
              refine r_callV1 (rest := []) (hc := (Va_worthFrom_ok g N _ _ _ _ _ _ _ _ hq16 D2 (by omega))) rfl pm_Va_worthFrom lw_10_227 im_Va_worthFrom sl_Va_worthFrom ha12 rfl rfl (rcOK hk13 rfl) (by decide) ?_
              cases hE
              exact r_ret rfl (Or.inl ⟨rfl, _, _, rfl, rfl, rfl, rfl⟩)
            · have hE := ifN hc10 hE
              exact r_sb (Le_value_b45_ok g hst N _ hD    _ _ _ hE) trivial
def Le_may_b16 (N : Nat)  (h : PH) : Option (Option Int32 × PH) :=
  some (none, tw h)
set_option maxRecDepth 20000 in
theorem Le_may_b16_ok (g : GT) (hst : (gl g).stackTraces = false) (N : Nat) (D : Nat) (hD : 8 ≤ D) : ∀  (h : PH) (v : Option Int32) (h' : PH), Le_may_b16 N  h = some (v, h') → Run g pLe_may D 16 [] [] h (rX v) h' := by
  obtain ⟨D2, rfl⟩ : ∃ d, D = d + 1 := ⟨D - 1, by omega⟩
  intro  h v h' hE
  unfold Le_may_b16 at hE
  cases hE
  exact r_throw (st := []) ⟨156, 158, cok_Le_may.dec (pc := 16) rfl, cok_Le_may.dec (pc := 19) rfl, cok_Le_may.dec (pc := 20) rfl, cok_Le_may.dec (pc := 23) rfl, rfl, rfl⟩
def Le_may (N : Nat) (a0 : Nat) (x1 : Int32) (h : PH) : Option (Option Int32 × PH) :=
  if x1 < 0 then
    Le_may_b16 N   h
  else
    if 4 < x1 then
      Le_may_b16 N   h
    else
      ck ((hK h a0).1 = 10) <|
      bd (Le_isOpen N a0 h) fun v4 h5 =>
      if (bI v4) = 0 then
        Le_may_b16 N   h5
      else
        ck ((hK h5 a0).1 = 10) <|
        ((hR h5 a0 6)).bind fun a_9 =>
        ck ((hK h5 a_9).1 = 3) <|
        ((hR h5 a0 12)).bind fun a_12 =>
        ck ((hK h5 a_12).1 = 9) <|
        bd (Va_bestWorth N a_12 (hI h5 a_9 0) (hI h5 a_9 1) (hI h5 a_9 2) x1 h5) fun v15 h16 =>
        some (some v15, h16)
set_option maxRecDepth 20000 in
theorem Le_may_ok (g : GT) (hst : (gl g).stackTraces = false) (N : Nat) (a0 : Nat) (x1 : Int32) (h : PH) (v : Option Int32) (h' : PH) (hE : Le_may N a0 x1 h = some (v, h')) (D : Nat) (hD : 8 ≤ D) : XCalls g D pLe_may [va_rf (some a0), .int x1] h (rX v) h' := by
  refine XCalls.of hst cok_Le_may ht_Le_may rfl pl_Le_may (fun ad => by rw [lg_len, sL_cat]; simp only [List.map_cons, List.map_nil, rf_cat, cat_i, cat_l, List.sum_cons, List.sum_nil]; decide) (by omega) cw_x ini_x ?_
  rw [show lv_args 0 [va_rf (some a0), .int x1] = [(0, va_rf (some a0)), (1, .int x1)] from (by simp only [lv_args, rf_cat, cat_i, cat_l]; try rfl)]
  obtain ⟨D2, rfl⟩ : ∃ d, D = d + 1 := ⟨D - 1, by omega⟩
  unfold Le_may at hE
  refine r_iload_n 1 rfl rfl rfl ?_
  refine r_if_lt (tgt := 16) rfl (by decide) (fun hc1 => ?_) (fun hc1 => ?_)
  · have hE := ifP hc1 hE
    exact r_sb (Le_may_b16_ok g hst N _ hD    _ _ _ hE) trivial
  · have hE := ifN hc1 hE
    refine r_iload_n 1 rfl rfl rfl ?_
    refine r_iconst 4 rfl ci_4 ?_
    refine r_icmp_gt (tgt := 16) rfl (by decide) (fun hc2 => ?_) (fun hc2 => ?_)
    · have hE := ifP hc2 hE
      exact r_sb (Le_may_b16_ok g hst N _ hD    _ _ _ hE) trivial
    · have hE := ifN hc2 hE
      refine r_aload_n (t := some a0) 0 rfl rfl rfl ?_
      obtain ⟨hk3, hE⟩ := ckE hE
      obtain ⟨v4, h5, hq6, hE⟩ := bdE hE
      refine r_callV1 (rest := []) (hc := (Le_isOpen_ok g N _ _ _ _ hq6 D2 (by omega))) rfl pm_Le_isOpen lw_10_173 im_Le_isOpen sl_Le_isOpen rfl rfl rfl (rcOK hk3 rfl) (by decide) ?_
      refine r_if_ne (tgt := 24) rfl (by decide) (fun hc7 => ?_) (fun hc7 => ?_)
      · have hE := ifP hc7 hE
        exact r_sb (Le_may_b16_ok g hst N _ hD    _ _ _ hE) trivial
      · have hE := ifN hc7 hE
        refine r_aload_n (t := some a0) 0 rfl rfl rfl ?_
        obtain ⟨hk8, hE⟩ := ckE hE
        refine r_getR rfl (fl_10_77 rfl) (Or.inl ⟨_, rfl⟩) rfl hk8 ?_
        refine r_aload_n (t := some a0) 0 rfl rfl rfl ?_
        refine r_getR rfl (fl_10_48 rfl) (Or.inl ⟨_, rfl⟩) rfl hk8 ?_
        obtain ⟨a_9, ha10, hE⟩ := bnE hE
        obtain ⟨hk11, hE⟩ := ckE hE
        refine r_getI rfl (fl_10_170 rfl) (Or.inl rfl) ha10 hk11 ?_
        refine r_aload_n (t := some a0) 0 rfl rfl rfl ?_
        refine r_getR rfl (fl_10_48 rfl) (Or.inl ⟨_, rfl⟩) rfl hk8 ?_
        refine r_getI rfl (fl_10_203 rfl) (Or.inl rfl) ha10 hk11 ?_
        refine r_aload_n (t := some a0) 0 rfl rfl rfl ?_
        refine r_getR rfl (fl_10_48 rfl) (Or.inl ⟨_, rfl⟩) rfl hk8 ?_
        refine r_getI rfl (fl_10_206 rfl) (Or.inl rfl) ha10 hk11 ?_
        refine r_iload_n 1 rfl rfl rfl ?_
        obtain ⟨a_12, ha13, hE⟩ := bnE hE
        obtain ⟨hk14, hE⟩ := ckE hE
        obtain ⟨v15, h16, hq17, hE⟩ := bdE hE
        refine r_callV1 (rest := []) (hc := (Va_bestWorth_ok g N _ _ _ _ _ _ _ _ hq17 D2 (by omega))) rfl pm_Va_bestWorth lw_10_231 im_Va_bestWorth sl_Va_bestWorth ha13 rfl rfl (rcOK hk14 rfl) (by decide) ?_
        cases hE
        exact r_ret rfl (Or.inl ⟨rfl, _, _, rfl, rfl, rfl, rfl⟩)
def Le_mean_b18 (N : Nat)  (h : PH) : Option (Option Int32 × PH) :=
  some (none, tw h)
set_option maxRecDepth 20000 in
theorem Le_mean_b18_ok (g : GT) (hst : (gl g).stackTraces = false) (N : Nat) (D : Nat) (hD : 67 ≤ D) : ∀  (h : PH) (v : Option Int32) (h' : PH), Le_mean_b18 N  h = some (v, h') → Run g pLe_mean D 18 [] [] h (rX v) h' := by
  obtain ⟨D2, rfl⟩ : ∃ d, D = d + 1 := ⟨D - 1, by omega⟩
  intro  h v h' hE
  unfold Le_mean_b18 at hE
  cases hE
  exact r_throw (st := []) ⟨156, 158, cok_Le_mean.dec (pc := 18) rfl, cok_Le_mean.dec (pc := 21) rfl, cok_Le_mean.dec (pc := 22) rfl, cok_Le_mean.dec (pc := 25) rfl, rfl, rfl⟩
def Le_mean (N : Nat) (a0 : Nat) (x1 : Int32) (h : PH) : Option (Option Int32 × PH) :=
  ck ((hK h a0).1 = 10) <|
  bd (Le_hasHabit N a0 x1 h) fun v2 h3 =>
  if (bI v2) = 0 then
    Le_mean_b18 N   h3
  else
    ck ((hK h3 a0).1 = 10) <|
    ((hR h3 a0 6)).bind fun a_7 =>
    ck ((hK h3 a_7).1 = 3) <|
    if (bI (hZ h3 a_7 10)) = 0 then
      Le_mean_b18 N   h3
    else
      ((hR h3 a0 1)).bind fun a_11 =>
      ck ((hK h3 a_11).1 = 0) <|
      ((hR h3 a0 15)).bind fun a_14 =>
      ck ((hK h3 a_14).1 = 2) <|
      bd (Me_worthOf N a_14 x1 (hI h3 a_11 0) (hR h3 a0 6) h3) fun v17 h18 =>
      some (some v17, h18)
set_option maxRecDepth 20000 in
theorem Le_mean_ok (g : GT) (hst : (gl g).stackTraces = false) (N : Nat) (a0 : Nat) (x1 : Int32) (h : PH) (v : Option Int32) (h' : PH) (hE : Le_mean N a0 x1 h = some (v, h')) (D : Nat) (hD : 67 ≤ D) : XCalls g D pLe_mean [va_rf (some a0), .int x1] h (rX v) h' := by
  refine XCalls.of hst cok_Le_mean ht_Le_mean rfl pl_Le_mean (fun ad => by rw [lg_len, sL_cat]; simp only [List.map_cons, List.map_nil, rf_cat, cat_i, cat_l, List.sum_cons, List.sum_nil]; decide) (by omega) cw_x ini_x ?_
  rw [show lv_args 0 [va_rf (some a0), .int x1] = [(0, va_rf (some a0)), (1, .int x1)] from (by simp only [lv_args, rf_cat, cat_i, cat_l]; try rfl)]
  obtain ⟨D2, rfl⟩ : ∃ d, D = d + 1 := ⟨D - 1, by omega⟩
  unfold Le_mean at hE
  refine r_aload_n (t := some a0) 0 rfl rfl rfl ?_
  refine r_iload_n 1 rfl rfl rfl ?_
  obtain ⟨hk1, hE⟩ := ckE hE
  obtain ⟨v2, h3, hq4, hE⟩ := bdE hE
  refine r_callV1 (rest := []) (hc := (Le_hasHabit_ok g N _ _ _ _ _ hq4 D2 (by omega))) rfl pm_Le_hasHabit lw_10_245 im_Le_hasHabit sl_Le_hasHabit rfl rfl rfl (rcOK hk1 rfl) (by decide) ?_
  refine r_if_eq (tgt := 18) rfl (by decide) (fun hc5 => ?_) (fun hc5 => ?_)
  · have hE := ifP hc5 hE
    exact r_sb (Le_mean_b18_ok g hst N _ hD    _ _ _ hE) trivial
  · have hE := ifN hc5 hE
    refine r_aload_n (t := some a0) 0 rfl rfl rfl ?_
    obtain ⟨hk6, hE⟩ := ckE hE
    refine r_getR rfl (fl_10_48 rfl) (Or.inl ⟨_, rfl⟩) rfl hk6 ?_
    obtain ⟨a_7, ha8, hE⟩ := bnE hE
    obtain ⟨hk9, hE⟩ := ckE hE
    refine r_getZ rfl (fl_10_249 rfl) ha8 hk9 ?_
    refine r_if_ne (tgt := 26) rfl (by decide) (fun hc10 => ?_) (fun hc10 => ?_)
    · have hE := ifP hc10 hE
      exact r_sb (Le_mean_b18_ok g hst N _ hD    _ _ _ hE) trivial
    · have hE := ifN hc10 hE
      refine r_aload_n (t := some a0) 0 rfl rfl rfl ?_
      refine r_getR rfl (fl_10_92 rfl) (Or.inl ⟨_, rfl⟩) rfl hk6 ?_
      refine r_iload_n 1 rfl rfl rfl ?_
      refine r_aload_n (t := some a0) 0 rfl rfl rfl ?_
      refine r_getR rfl (fl_10_19 rfl) (Or.inl ⟨_, rfl⟩) rfl hk6 ?_
      obtain ⟨a_11, ha12, hE⟩ := bnE hE
      obtain ⟨hk13, hE⟩ := ckE hE
      refine r_getI rfl (fl_10_134 rfl) (Or.inl rfl) ha12 hk13 ?_
      refine r_aload_n (t := some a0) 0 rfl rfl rfl ?_
      refine r_getR rfl (fl_10_48 rfl) (Or.inl ⟨_, rfl⟩) rfl hk6 ?_
      obtain ⟨a_14, ha15, hE⟩ := bnE hE
      obtain ⟨hk16, hE⟩ := ckE hE
      obtain ⟨v17, h18, hq19, hE⟩ := bdE hE
      refine r_callV1 (rest := []) (hc := (Me_worthOf_ok g N _ _ _ _ _ _ _ hq19 D2 (by omega))) rfl pm_Me_worthOf lw_10_252 im_Me_worthOf sl_Me_worthOf ha15 rfl rfl (rcOK hk16 rfl) (by decide) ?_
      cases hE
      exact r_ret rfl (Or.inl ⟨rfl, _, _, rfl, rfl, rfl, rfl⟩)
def Le_left_b18 (N : Nat)  (h : PH) : Option (Option Int32 × PH) :=
  some (none, tw h)
set_option maxRecDepth 20000 in
theorem Le_left_b18_ok (g : GT) (hst : (gl g).stackTraces = false) (N : Nat) (D : Nat) (hD : 67 ≤ D) : ∀  (h : PH) (v : Option Int32) (h' : PH), Le_left_b18 N  h = some (v, h') → Run g pLe_left D 18 [] [] h (rX v) h' := by
  obtain ⟨D2, rfl⟩ : ∃ d, D = d + 1 := ⟨D - 1, by omega⟩
  intro  h v h' hE
  unfold Le_left_b18 at hE
  cases hE
  exact r_throw (st := []) ⟨156, 158, cok_Le_left.dec (pc := 18) rfl, cok_Le_left.dec (pc := 21) rfl, cok_Le_left.dec (pc := 22) rfl, cok_Le_left.dec (pc := 25) rfl, rfl, rfl⟩
def Le_left (N : Nat) (a0 : Nat) (x1 : Int32) (h : PH) : Option (Option Int32 × PH) :=
  ck ((hK h a0).1 = 10) <|
  bd (Le_hasHabit N a0 x1 h) fun v2 h3 =>
  if (bI v2) = 0 then
    Le_left_b18 N   h3
  else
    ck ((hK h3 a0).1 = 10) <|
    ((hR h3 a0 6)).bind fun a_7 =>
    ck ((hK h3 a_7).1 = 3) <|
    if (bI (hZ h3 a_7 10)) = 0 then
      Le_left_b18 N   h3
    else
      ((hR h3 a0 15)).bind fun a_11 =>
      ck ((hK h3 a_11).1 = 2) <|
      bd (Me_leftBy N a_11 x1 (hR h3 a0 6) h3) fun v14 h15 =>
      some (some v14, h15)
set_option maxRecDepth 20000 in
theorem Le_left_ok (g : GT) (hst : (gl g).stackTraces = false) (N : Nat) (a0 : Nat) (x1 : Int32) (h : PH) (v : Option Int32) (h' : PH) (hE : Le_left N a0 x1 h = some (v, h')) (D : Nat) (hD : 67 ≤ D) : XCalls g D pLe_left [va_rf (some a0), .int x1] h (rX v) h' := by
  refine XCalls.of hst cok_Le_left ht_Le_left rfl pl_Le_left (fun ad => by rw [lg_len, sL_cat]; simp only [List.map_cons, List.map_nil, rf_cat, cat_i, cat_l, List.sum_cons, List.sum_nil]; decide) (by omega) cw_x ini_x ?_
  rw [show lv_args 0 [va_rf (some a0), .int x1] = [(0, va_rf (some a0)), (1, .int x1)] from (by simp only [lv_args, rf_cat, cat_i, cat_l]; try rfl)]
  obtain ⟨D2, rfl⟩ : ∃ d, D = d + 1 := ⟨D - 1, by omega⟩
  unfold Le_left at hE
  refine r_aload_n (t := some a0) 0 rfl rfl rfl ?_
  refine r_iload_n 1 rfl rfl rfl ?_
  obtain ⟨hk1, hE⟩ := ckE hE
  obtain ⟨v2, h3, hq4, hE⟩ := bdE hE
  refine r_callV1 (rest := []) (hc := (Le_hasHabit_ok g N _ _ _ _ _ hq4 D2 (by omega))) rfl pm_Le_hasHabit lw_10_245 im_Le_hasHabit sl_Le_hasHabit rfl rfl rfl (rcOK hk1 rfl) (by decide) ?_
  refine r_if_eq (tgt := 18) rfl (by decide) (fun hc5 => ?_) (fun hc5 => ?_)
  · have hE := ifP hc5 hE
    exact r_sb (Le_left_b18_ok g hst N _ hD    _ _ _ hE) trivial
  · have hE := ifN hc5 hE
    refine r_aload_n (t := some a0) 0 rfl rfl rfl ?_
    obtain ⟨hk6, hE⟩ := ckE hE
    refine r_getR rfl (fl_10_48 rfl) (Or.inl ⟨_, rfl⟩) rfl hk6 ?_
    obtain ⟨a_7, ha8, hE⟩ := bnE hE
    obtain ⟨hk9, hE⟩ := ckE hE
    refine r_getZ rfl (fl_10_249 rfl) ha8 hk9 ?_
    refine r_if_ne (tgt := 26) rfl (by decide) (fun hc10 => ?_) (fun hc10 => ?_)
    · have hE := ifP hc10 hE
      exact r_sb (Le_left_b18_ok g hst N _ hD    _ _ _ hE) trivial
    · have hE := ifN hc10 hE
      refine r_aload_n (t := some a0) 0 rfl rfl rfl ?_
      refine r_getR rfl (fl_10_92 rfl) (Or.inl ⟨_, rfl⟩) rfl hk6 ?_
      refine r_iload_n 1 rfl rfl rfl ?_
      refine r_aload_n (t := some a0) 0 rfl rfl rfl ?_
      refine r_getR rfl (fl_10_48 rfl) (Or.inl ⟨_, rfl⟩) rfl hk6 ?_
      obtain ⟨a_11, ha12, hE⟩ := bnE hE
      obtain ⟨hk13, hE⟩ := ckE hE
      obtain ⟨v14, h15, hq16, hE⟩ := bdE hE
      refine r_callV1 (rest := []) (hc := (Me_leftBy_ok g N _ _ _ _ _ _ hq16 D2 (by omega))) rfl pm_Me_leftBy lw_10_256 im_Me_leftBy sl_Me_leftBy ha12 rfl rfl (rcOK hk13 rfl) (by decide) ?_
      cases hE
      exact r_ret rfl (Or.inl ⟨rfl, _, _, rfl, rfl, rfl, rfl⟩)
def Le_talk (N : Nat) (a0 : Nat) (h : PH) : Option (Option Int32 × PH) :=
  ck ((hK h a0).1 = 10) <|
  bd (Le_isOpen N a0 h) fun v2 h3 =>
  if (bI v2) = 0 then
    some (none, tw h3)
  else
    ck ((hK h3 a0).1 = 10) <|
    ((hR h3 a0 6)).bind fun a_7 =>
    ck ((hK h3 a_7).1 = 3) <|
    ((hR h3 a0 12)).bind fun a_10 =>
    ck ((hK h3 a_10).1 = 9) <|
    bd (Va_worthFrom N a_10 (hI h3 a_7 0) (hI h3 a_7 1) (hI h3 a_7 2) (bI (hZ h3 a_7 12)) h3) fun v13 h14 =>
    ck ((hK h14 a0).1 = 10) <|
    ((hR h14 a0 6)).bind fun a_17 =>
    ck ((hK h14 a_17).1 = 3) <|
    ((hR h14 a0 14)).bind fun a_20 =>
    ck ((hK h14 a_20).1 = 9) <|
    bd (Va_worthFrom N a_20 (hI h14 a_17 0) (hI h14 a_17 1) (hI h14 a_17 2) 0 h14) fun v23 h24 =>
    some (some (v13 - v23), h24)
set_option maxRecDepth 20000 in
theorem Le_talk_ok (g : GT) (hst : (gl g).stackTraces = false) (N : Nat) (a0 : Nat) (h : PH) (v : Option Int32) (h' : PH) (hE : Le_talk N a0 h = some (v, h')) (D : Nat) (hD : 8 ≤ D) : XCalls g D pLe_talk [va_rf (some a0)] h (rX v) h' := by
  refine XCalls.of hst cok_Le_talk ht_Le_talk rfl pl_Le_talk (fun ad => by rw [lg_len, sL_cat]; simp only [List.map_cons, List.map_nil, rf_cat, cat_i, cat_l, List.sum_cons, List.sum_nil]; decide) (by omega) cw_x ini_x ?_
  rw [show lv_args 0 [va_rf (some a0)] = [(0, va_rf (some a0))] from (by simp only [lv_args, rf_cat, cat_i, cat_l]; try rfl)]
  obtain ⟨D2, rfl⟩ : ∃ d, D = d + 1 := ⟨D - 1, by omega⟩
  unfold Le_talk at hE
  refine r_aload_n (t := some a0) 0 rfl rfl rfl ?_
  obtain ⟨hk1, hE⟩ := ckE hE
  obtain ⟨v2, h3, hq4, hE⟩ := bdE hE
  refine r_callV1 (rest := []) (hc := (Le_isOpen_ok g N _ _ _ _ hq4 D2 (by omega))) rfl pm_Le_isOpen lw_10_173 im_Le_isOpen sl_Le_isOpen rfl rfl rfl (rcOK hk1 rfl) (by decide) ?_
  refine r_if_ne (tgt := 15) rfl (by decide) (fun hc5 => ?_) (fun hc5 => ?_)
  · have hE := ifP hc5 hE
    cases hE
    exact r_throw (st := []) ⟨156, 158, cok_Le_talk.dec (pc := 7) rfl, cok_Le_talk.dec (pc := 10) rfl, cok_Le_talk.dec (pc := 11) rfl, cok_Le_talk.dec (pc := 14) rfl, rfl, rfl⟩
  · have hE := ifN hc5 hE
    refine r_aload_n (t := some a0) 0 rfl rfl rfl ?_
    obtain ⟨hk6, hE⟩ := ckE hE
    refine r_getR rfl (fl_10_77 rfl) (Or.inl ⟨_, rfl⟩) rfl hk6 ?_
    refine r_aload_n (t := some a0) 0 rfl rfl rfl ?_
    refine r_getR rfl (fl_10_48 rfl) (Or.inl ⟨_, rfl⟩) rfl hk6 ?_
    obtain ⟨a_7, ha8, hE⟩ := bnE hE
    obtain ⟨hk9, hE⟩ := ckE hE
    refine r_getI rfl (fl_10_170 rfl) (Or.inl rfl) ha8 hk9 ?_
    refine r_aload_n (t := some a0) 0 rfl rfl rfl ?_
    refine r_getR rfl (fl_10_48 rfl) (Or.inl ⟨_, rfl⟩) rfl hk6 ?_
    refine r_getI rfl (fl_10_203 rfl) (Or.inl rfl) ha8 hk9 ?_
    refine r_aload_n (t := some a0) 0 rfl rfl rfl ?_
    refine r_getR rfl (fl_10_48 rfl) (Or.inl ⟨_, rfl⟩) rfl hk6 ?_
    refine r_getI rfl (fl_10_206 rfl) (Or.inl rfl) ha8 hk9 ?_
    refine r_aload_n (t := some a0) 0 rfl rfl rfl ?_
    refine r_getR rfl (fl_10_48 rfl) (Or.inl ⟨_, rfl⟩) rfl hk6 ?_
    refine r_getZ rfl (fl_10_234 rfl) ha8 hk9 ?_
    obtain ⟨a_10, ha11, hE⟩ := bnE hE
    obtain ⟨hk12, hE⟩ := ckE hE
    obtain ⟨v13, h14, hq15, hE⟩ := bdE hE
    refine r_callV1 (rest := []) (hc := (Va_worthFrom_ok g N _ _ _ _ _ _ _ _ hq15 D2 (by omega))) rfl pm_Va_worthFrom lw_10_227 im_Va_worthFrom sl_Va_worthFrom ha11 rfl rfl (rcOK hk12 rfl) (by decide) ?_
    refine r_aload_n (t := some a0) 0 rfl rfl rfl ?_
    obtain ⟨hk16, hE⟩ := ckE hE
    refine r_getR rfl (fl_10_84 rfl) (Or.inl ⟨_, rfl⟩) rfl hk16 ?_
    refine r_aload_n (t := some a0) 0 rfl rfl rfl ?_
    refine r_getR rfl (fl_10_48 rfl) (Or.inl ⟨_, rfl⟩) rfl hk16 ?_
    obtain ⟨a_17, ha18, hE⟩ := bnE hE
    obtain ⟨hk19, hE⟩ := ckE hE
    refine r_getI rfl (fl_10_170 rfl) (Or.inl rfl) ha18 hk19 ?_
    refine r_aload_n (t := some a0) 0 rfl rfl rfl ?_
    refine r_getR rfl (fl_10_48 rfl) (Or.inl ⟨_, rfl⟩) rfl hk16 ?_
    refine r_getI rfl (fl_10_203 rfl) (Or.inl rfl) ha18 hk19 ?_
    refine r_aload_n (t := some a0) 0 rfl rfl rfl ?_
    refine r_getR rfl (fl_10_48 rfl) (Or.inl ⟨_, rfl⟩) rfl hk16 ?_
    refine r_getI rfl (fl_10_206 rfl) (Or.inl rfl) ha18 hk19 ?_
    refine r_iconst 0 rfl ci_0 ?_
    obtain ⟨a_20, ha21, hE⟩ := bnE hE
    obtain ⟨hk22, hE⟩ := ckE hE
    obtain ⟨v23, h24, hq25, hE⟩ := bdE hE
    refine r_callV1 (rest := [.int v13]) (hc := (Va_worthFrom_ok g N _ _ _ _ _ _ _ _ hq25 D2 (by omega))) rfl pm_Va_worthFrom lw_10_227 im_Va_worthFrom sl_Va_worthFrom ha21 rfl rfl (rcOK hk22 rfl) (by simp only [List.map_cons, List.map_nil, rf_cat, cat_i, cat_l, List.sum_cons, List.sum_nil]; decide) ?_
    refine r_isub rfl ?_
    cases hE
    exact r_ret rfl (Or.inl ⟨rfl, _, _, rfl, rfl, rfl, rfl⟩)
def Le_fence_b17 (N : Nat)  (h : PH) : Option (Option Int32 × PH) :=
  some (none, tw h)
set_option maxRecDepth 20000 in
theorem Le_fence_b17_ok (g : GT) (hst : (gl g).stackTraces = false) (N : Nat) (D : Nat) (hD : 7 ≤ D) : ∀  (h : PH) (v : Option Int32) (h' : PH), Le_fence_b17 N  h = some (v, h') → Run g pLe_fence D 17 [] [] h (rX v) h' := by
  obtain ⟨D2, rfl⟩ : ∃ d, D = d + 1 := ⟨D - 1, by omega⟩
  intro  h v h' hE
  unfold Le_fence_b17 at hE
  cases hE
  exact r_throw (st := []) ⟨156, 158, cok_Le_fence.dec (pc := 17) rfl, cok_Le_fence.dec (pc := 20) rfl, cok_Le_fence.dec (pc := 21) rfl, cok_Le_fence.dec (pc := 24) rfl, rfl, rfl⟩
def Le_fence (N : Nat) (a0 : Nat) (x1 : Int32) (h : PH) : Option (Option Int32 × PH) :=
  if x1 < 0 then
    Le_fence_b17 N   h
  else
    if 120 < x1 then
      Le_fence_b17 N   h
    else
      ck ((hK h a0).1 = 10) <|
      bd (Le_isOpen N a0 h) fun v4 h5 =>
      if (bI v4) = 0 then
        Le_fence_b17 N   h5
      else
        ck ((hK h5 a0).1 = 10) <|
        ((hR h5 a0 6)).bind fun a_9 =>
        ck ((hK h5 a_9).1 = 3) <|
        ((hR h5 a0 17)).bind fun a_12 =>
        ck ((hK h5 a_12).1 = 7) <|
        bd (Sh_overFence N a_12 (hI h5 a_9 0) (hI h5 a_9 1) x1 h5) fun v15 h16 =>
        some (some v15, h16)
set_option maxRecDepth 20000 in
theorem Le_fence_ok (g : GT) (hst : (gl g).stackTraces = false) (N : Nat) (a0 : Nat) (x1 : Int32) (h : PH) (v : Option Int32) (h' : PH) (hE : Le_fence N a0 x1 h = some (v, h')) (D : Nat) (hD : 7 ≤ D) : XCalls g D pLe_fence [va_rf (some a0), .int x1] h (rX v) h' := by
  refine XCalls.of hst cok_Le_fence ht_Le_fence rfl pl_Le_fence (fun ad => by rw [lg_len, sL_cat]; simp only [List.map_cons, List.map_nil, rf_cat, cat_i, cat_l, List.sum_cons, List.sum_nil]; decide) (by omega) cw_x ini_x ?_
  rw [show lv_args 0 [va_rf (some a0), .int x1] = [(0, va_rf (some a0)), (1, .int x1)] from (by simp only [lv_args, rf_cat, cat_i, cat_l]; try rfl)]
  obtain ⟨D2, rfl⟩ : ∃ d, D = d + 1 := ⟨D - 1, by omega⟩
  unfold Le_fence at hE
  refine r_iload_n 1 rfl rfl rfl ?_
  refine r_if_lt (tgt := 17) rfl (by decide) (fun hc1 => ?_) (fun hc1 => ?_)
  · have hE := ifP hc1 hE
    exact r_sb (Le_fence_b17_ok g hst N _ hD    _ _ _ hE) trivial
  · have hE := ifN hc1 hE
    refine r_iload_n 1 rfl rfl rfl ?_
    refine r_bipush 120 rfl cb_120 ?_
    refine r_icmp_gt (tgt := 17) rfl (by decide) (fun hc2 => ?_) (fun hc2 => ?_)
    · have hE := ifP hc2 hE
      exact r_sb (Le_fence_b17_ok g hst N _ hD    _ _ _ hE) trivial
    · have hE := ifN hc2 hE
      refine r_aload_n (t := some a0) 0 rfl rfl rfl ?_
      obtain ⟨hk3, hE⟩ := ckE hE
      obtain ⟨v4, h5, hq6, hE⟩ := bdE hE
      refine r_callV1 (rest := []) (hc := (Le_isOpen_ok g N _ _ _ _ hq6 D2 (by omega))) rfl pm_Le_isOpen lw_10_173 im_Le_isOpen sl_Le_isOpen rfl rfl rfl (rcOK hk3 rfl) (by decide) ?_
      refine r_if_ne (tgt := 25) rfl (by decide) (fun hc7 => ?_) (fun hc7 => ?_)
      · have hE := ifP hc7 hE
        exact r_sb (Le_fence_b17_ok g hst N _ hD    _ _ _ hE) trivial
      · have hE := ifN hc7 hE
        refine r_aload_n (t := some a0) 0 rfl rfl rfl ?_
        obtain ⟨hk8, hE⟩ := ckE hE
        refine r_getR rfl (fl_10_108 rfl) (Or.inl ⟨_, rfl⟩) rfl hk8 ?_
        refine r_aload_n (t := some a0) 0 rfl rfl rfl ?_
        refine r_getR rfl (fl_10_48 rfl) (Or.inl ⟨_, rfl⟩) rfl hk8 ?_
        obtain ⟨a_9, ha10, hE⟩ := bnE hE
        obtain ⟨hk11, hE⟩ := ckE hE
        refine r_getI rfl (fl_10_170 rfl) (Or.inl rfl) ha10 hk11 ?_
        refine r_aload_n (t := some a0) 0 rfl rfl rfl ?_
        refine r_getR rfl (fl_10_48 rfl) (Or.inl ⟨_, rfl⟩) rfl hk8 ?_
        refine r_getI rfl (fl_10_203 rfl) (Or.inl rfl) ha10 hk11 ?_
        refine r_iload_n 1 rfl rfl rfl ?_
        obtain ⟨a_12, ha13, hE⟩ := bnE hE
        obtain ⟨hk14, hE⟩ := ckE hE
        obtain ⟨v15, h16, hq17, hE⟩ := bdE hE
        refine r_callV1 (rest := []) (hc := (Sh_overFence_ok g N _ _ _ _ _ _ _ hq17 D2 (by omega))) rfl pm_Sh_overFence lw_10_270 im_Sh_overFence sl_Sh_overFence ha13 rfl rfl (rcOK hk14 rfl) (by decide) ?_
        cases hE
        exact r_ret rfl (Or.inl ⟨rfl, _, _, rfl, rfl, rfl, rfl⟩)
def Le_tonight (N : Nat) (a0 : Nat) (h : PH) : Option (Option Int32 × PH) :=
  ck ((hK h a0).1 = 10) <|
  bd (Le_isOpen N a0 h) fun v2 h3 =>
  if (bI v2) = 0 then
    some (none, tw h3)
  else
    ck ((hK h3 a0).1 = 10) <|
    ((hR h3 a0 6)).bind fun a_7 =>
    ck ((hK h3 a_7).1 = 3) <|
    ((hR h3 a0 13)).bind fun a_10 =>
    ck ((hK h3 a_10).1 = 9) <|
    bd (Va_worthFrom N a_10 (hI h3 a_7 0) (hI h3 a_7 1) (hI h3 a_7 2) (bI (hZ h3 a_7 12)) h3) fun v13 h14 =>
    ck ((hK h14 a0).1 = 10) <|
    ((hR h14 a0 6)).bind fun a_17 =>
    ck ((hK h14 a_17).1 = 3) <|
    ((hR h14 a0 12)).bind fun a_20 =>
    ck ((hK h14 a_20).1 = 9) <|
    bd (Va_worthFrom N a_20 (hI h14 a_17 0) (hI h14 a_17 1) (hI h14 a_17 2) (bI (hZ h14 a_17 12)) h14) fun v23 h24 =>
    ck ((hK h24 a0).1 = 10) <|
    ((hR h24 a0 6)).bind fun a_27 =>
    ck ((hK h24 a_27).1 = 3) <|
    ck (¬ (1000000 : Int64) = 0) <|
    some (some (Int64.toInt32 ((((Int32.toInt64 v13) * (Int32.toInt64 (hI h24 a_27 4))) + ((Int32.toInt64 v23) * (Int32.toInt64 (1000000 - (hI h24 a_27 4))))) / 1000000)), h24)
set_option maxRecDepth 20000 in
theorem Le_tonight_ok (g : GT) (hst : (gl g).stackTraces = false) (N : Nat) (a0 : Nat) (h : PH) (v : Option Int32) (h' : PH) (hE : Le_tonight N a0 h = some (v, h')) (D : Nat) (hD : 8 ≤ D) : XCalls g D pLe_tonight [va_rf (some a0)] h (rX v) h' := by
  refine XCalls.of hst cok_Le_tonight ht_Le_tonight rfl pl_Le_tonight (fun ad => by rw [lg_len, sL_cat]; simp only [List.map_cons, List.map_nil, rf_cat, cat_i, cat_l, List.sum_cons, List.sum_nil]; decide) (by omega) cw_x ini_x ?_
  rw [show lv_args 0 [va_rf (some a0)] = [(0, va_rf (some a0))] from (by simp only [lv_args, rf_cat, cat_i, cat_l]; try rfl)]
  obtain ⟨D2, rfl⟩ : ∃ d, D = d + 1 := ⟨D - 1, by omega⟩
  unfold Le_tonight at hE
  refine r_aload_n (t := some a0) 0 rfl rfl rfl ?_
  obtain ⟨hk1, hE⟩ := ckE hE
  obtain ⟨v2, h3, hq4, hE⟩ := bdE hE
  refine r_callV1 (rest := []) (hc := (Le_isOpen_ok g N _ _ _ _ hq4 D2 (by omega))) rfl pm_Le_isOpen lw_10_173 im_Le_isOpen sl_Le_isOpen rfl rfl rfl (rcOK hk1 rfl) (by decide) ?_
  refine r_if_ne (tgt := 15) rfl (by decide) (fun hc5 => ?_) (fun hc5 => ?_)
  · have hE := ifP hc5 hE
    cases hE
    exact r_throw (st := []) ⟨156, 158, cok_Le_tonight.dec (pc := 7) rfl, cok_Le_tonight.dec (pc := 10) rfl, cok_Le_tonight.dec (pc := 11) rfl, cok_Le_tonight.dec (pc := 14) rfl, rfl, rfl⟩
  · have hE := ifN hc5 hE
    refine r_aload_n (t := some a0) 0 rfl rfl rfl ?_
    obtain ⟨hk6, hE⟩ := ckE hE
    refine r_getR rfl (fl_10_81 rfl) (Or.inl ⟨_, rfl⟩) rfl hk6 ?_
    refine r_aload_n (t := some a0) 0 rfl rfl rfl ?_
    refine r_getR rfl (fl_10_48 rfl) (Or.inl ⟨_, rfl⟩) rfl hk6 ?_
    obtain ⟨a_7, ha8, hE⟩ := bnE hE
    obtain ⟨hk9, hE⟩ := ckE hE
    refine r_getI rfl (fl_10_170 rfl) (Or.inl rfl) ha8 hk9 ?_
    refine r_aload_n (t := some a0) 0 rfl rfl rfl ?_
    refine r_getR rfl (fl_10_48 rfl) (Or.inl ⟨_, rfl⟩) rfl hk6 ?_
    refine r_getI rfl (fl_10_203 rfl) (Or.inl rfl) ha8 hk9 ?_
    refine r_aload_n (t := some a0) 0 rfl rfl rfl ?_
    refine r_getR rfl (fl_10_48 rfl) (Or.inl ⟨_, rfl⟩) rfl hk6 ?_
    refine r_getI rfl (fl_10_206 rfl) (Or.inl rfl) ha8 hk9 ?_
    refine r_aload_n (t := some a0) 0 rfl rfl rfl ?_
    refine r_getR rfl (fl_10_48 rfl) (Or.inl ⟨_, rfl⟩) rfl hk6 ?_
    refine r_getZ rfl (fl_10_234 rfl) ha8 hk9 ?_
    obtain ⟨a_10, ha11, hE⟩ := bnE hE
    obtain ⟨hk12, hE⟩ := ckE hE
    obtain ⟨v13, h14, hq15, hE⟩ := bdE hE
    refine r_callV1 (rest := []) (hc := (Va_worthFrom_ok g N _ _ _ _ _ _ _ _ hq15 D2 (by omega))) rfl pm_Va_worthFrom lw_10_227 im_Va_worthFrom sl_Va_worthFrom ha11 rfl rfl (rcOK hk12 rfl) (by decide) ?_
    refine r_i2l rfl ?_
    refine r_lstore_n 1 rfl rfl (by decide) ?_
    refine r_aload_n (t := some a0) 0 rfl rfl rfl ?_
    obtain ⟨hk16, hE⟩ := ckE hE
    refine r_getR rfl (fl_10_77 rfl) (Or.inl ⟨_, rfl⟩) rfl hk16 ?_
    refine r_aload_n (t := some a0) 0 rfl rfl rfl ?_
    refine r_getR rfl (fl_10_48 rfl) (Or.inl ⟨_, rfl⟩) rfl hk16 ?_
    obtain ⟨a_17, ha18, hE⟩ := bnE hE
    obtain ⟨hk19, hE⟩ := ckE hE
    refine r_getI rfl (fl_10_170 rfl) (Or.inl rfl) ha18 hk19 ?_
    refine r_aload_n (t := some a0) 0 rfl rfl rfl ?_
    refine r_getR rfl (fl_10_48 rfl) (Or.inl ⟨_, rfl⟩) rfl hk16 ?_
    refine r_getI rfl (fl_10_203 rfl) (Or.inl rfl) ha18 hk19 ?_
    refine r_aload_n (t := some a0) 0 rfl rfl rfl ?_
    refine r_getR rfl (fl_10_48 rfl) (Or.inl ⟨_, rfl⟩) rfl hk16 ?_
    refine r_getI rfl (fl_10_206 rfl) (Or.inl rfl) ha18 hk19 ?_
    refine r_aload_n (t := some a0) 0 rfl rfl rfl ?_
    refine r_getR rfl (fl_10_48 rfl) (Or.inl ⟨_, rfl⟩) rfl hk16 ?_
    refine r_getZ rfl (fl_10_234 rfl) ha18 hk19 ?_
    obtain ⟨a_20, ha21, hE⟩ := bnE hE
    obtain ⟨hk22, hE⟩ := ckE hE
    obtain ⟨v23, h24, hq25, hE⟩ := bdE hE
    refine r_callV1 (rest := []) (hc := (Va_worthFrom_ok g N _ _ _ _ _ _ _ _ hq25 D2 (by omega))) rfl pm_Va_worthFrom lw_10_227 im_Va_worthFrom sl_Va_worthFrom ha21 rfl rfl (rcOK hk22 rfl) (by decide) ?_
    refine r_i2l rfl ?_
    refine r_lstore_n 3 rfl rfl (by decide) ?_
    refine r_lload_n 1 rfl rfl rfl ?_
    refine r_aload_n (t := some a0) 0 rfl rfl rfl ?_
    obtain ⟨hk26, hE⟩ := ckE hE
    refine r_getR rfl (fl_10_48 rfl) (Or.inl ⟨_, rfl⟩) rfl hk26 ?_
    obtain ⟨a_27, ha28, hE⟩ := bnE hE
    obtain ⟨hk29, hE⟩ := ckE hE
    refine r_getI rfl (fl_10_274 rfl) (Or.inl rfl) ha28 hk29 ?_
    refine r_i2l rfl ?_
    refine r_lmul rfl ?_
    refine r_lload_n 3 rfl rfl rfl ?_
    refine r_ldcw rfl kc_10_263 ?_
    refine r_aload_n (t := some a0) 0 rfl rfl rfl ?_
    refine r_getR rfl (fl_10_48 rfl) (Or.inl ⟨_, rfl⟩) rfl hk26 ?_
    refine r_getI rfl (fl_10_274 rfl) (Or.inl rfl) ha28 hk29 ?_
    refine r_isub rfl ?_
    refine r_i2l rfl ?_
    refine r_lmul rfl ?_
    refine r_ladd rfl ?_
    refine r_ldc2 rfl kc_10_277 ?_
    obtain ⟨hc30, hE⟩ := ckE hE
    refine r_ldiv rfl hc30 ?_
    refine r_l2i rfl ?_
    cases hE
    exact r_ret rfl (Or.inl ⟨rfl, _, _, rfl, rfl, rfl, rfl⟩)
