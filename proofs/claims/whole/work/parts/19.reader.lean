def Re_init (N : Nat) (a0 : Nat) (x1 : Option Nat) (x2 : Option Nat) (x3 : Option Nat) (h : PH) : Option (Unit × PH) :=
  ck (nb 4 = true) <|
  lt0 (nw h (23, ix 4) (ix 4)) fun h2 =>
  ck ((hK h2 a0).1 = 4) <|
  lt0 (wR h2 a0 3 (some (hN h))) fun h5 =>
  ck (nb 11 = true) <|
  lt0 (nw h5 (21, ix 11) (ix 11)) fun h8 =>
  ck ((hK h8 a0).1 = 4) <|
  lt0 (wR h8 a0 4 (some (hN h5))) fun h11 =>
  ck (nb 24 = true) <|
  lt0 (nw h11 (21, ix 24) (ix 24)) fun h14 =>
  ck ((hK h14 a0).1 = 4) <|
  lt0 (wR h14 a0 5 (some (hN h11))) fun h17 =>
  lt0 (wI h17 a0 6 0) fun h19 =>
  lt0 (wR h19 a0 0 x1) fun h21 =>
  lt0 (wR h21 a0 1 x2) fun h23 =>
  lt0 (wR h23 a0 2 x3) fun h25 =>
  some ((), h25)
set_option maxRecDepth 20000 in
theorem Re_init_ok (g : GT) (N : Nat) (a0 : Nat) (x1 : Option Nat) (x2 : Option Nat) (x3 : Option Nat) (h : PH) (v : Unit) (h' : PH) (hE : Re_init N a0 x1 x2 x3 h = some (v, h')) (D : Nat) (hD : 1 ≤ D) : Calls g D pRe_init [va_rf (some a0), va_rf x1, va_rf x2, va_rf x3] h (oV v) h' := by
  refine Calls.of cok_Re_init ht_Re_init pl_Re_init (fun ad => by rw [lg_len, sL_cat]; simp only [List.map_cons, List.map_nil, rf_cat, cat_i, cat_l, List.sum_cons, List.sum_nil]; decide) ?_
  rw [show lv_args 0 [va_rf (some a0), va_rf x1, va_rf x2, va_rf x3] = [(0, va_rf (some a0)), (1, va_rf x1), (2, va_rf x2), (3, va_rf x3)] from (by simp only [lv_args, rf_cat, cat_i, cat_l]; try rfl)]
  obtain ⟨D2, rfl⟩ : ∃ d, D = d + 1 := ⟨D - 1, by omega⟩
  unfold Re_init at hE
  refine r_aload_n (t := some a0) 0 rfl rfl rfl ?_
  refine r_objinit rfl rfl (gt2 29 rfl rfl) oi_1 oi_2 (by decide) ?_
  refine r_aload_n (t := some a0) 0 rfl rfl rfl ?_
  refine r_iconst 4 rfl ci_4 ?_
  obtain ⟨hc1, hE⟩ := ckE hE
  obtain ⟨h2, he3, hE⟩ := ltE hE
  refine r_newa (kd := 23) rfl (by decide) (by decide) rfl aw_23 hc1 he3 ?_
  obtain ⟨hk4, hE⟩ := ckE hE
  obtain ⟨h5, he6, hE⟩ := ltE hE
  refine r_putR rfl (fl_4_9 rfl) (Or.inr ⟨_, rfl⟩) (fun _ => ⟨rfl, _, _, rfl⟩) rfl hk4 he6 ?_
  refine r_aload_n (t := some a0) 0 rfl rfl rfl ?_
  refine r_bipush 11 rfl cb_11 ?_
  obtain ⟨hc7, hE⟩ := ckE hE
  obtain ⟨h8, he9, hE⟩ := ltE hE
  refine r_newa (kd := 21) rfl (by decide) (by decide) rfl aw_21 hc7 he9 ?_
  obtain ⟨hk10, hE⟩ := ckE hE
  obtain ⟨h11, he12, hE⟩ := ltE hE
  refine r_putR rfl (fl_4_15 rfl) (Or.inr ⟨_, rfl⟩) (fun _ => ⟨rfl, _, _, rfl⟩) rfl hk10 he12 ?_
  refine r_aload_n (t := some a0) 0 rfl rfl rfl ?_
  refine r_bipush 24 rfl cb_24 ?_
  obtain ⟨hc13, hE⟩ := ckE hE
  obtain ⟨h14, he15, hE⟩ := ltE hE
  refine r_newa (kd := 21) rfl (by decide) (by decide) rfl aw_21 hc13 he15 ?_
  obtain ⟨hk16, hE⟩ := ckE hE
  obtain ⟨h17, he18, hE⟩ := ltE hE
  refine r_putR rfl (fl_4_19 rfl) (Or.inr ⟨_, rfl⟩) (fun _ => ⟨rfl, _, _, rfl⟩) rfl hk16 he18 ?_
  refine r_aload_n (t := some a0) 0 rfl rfl rfl ?_
  refine r_iconst 0 rfl ci_0 ?_
  obtain ⟨h19, he20, hE⟩ := ltE hE
  refine r_putI rfl (fl_4_22 rfl) finF rfl (kwR he18 hk16) he20 ?_
  refine r_aload_n (t := some a0) 0 rfl rfl rfl ?_
  refine r_aload_n (t := x1) 1 rfl rfl rfl ?_
  obtain ⟨h21, he22, hE⟩ := ltE hE
  refine r_putR rfl (fl_4_26 rfl) (Or.inl ⟨_, rfl⟩) (fun _ => ⟨rfl, _, _, rfl⟩) rfl (kwI he20 (kwR he18 hk16)) he22 ?_
  refine r_aload_n (t := some a0) 0 rfl rfl rfl ?_
  refine r_aload_n (t := x2) 2 rfl rfl rfl ?_
  obtain ⟨h23, he24, hE⟩ := ltE hE
  refine r_putR rfl (fl_4_30 rfl) (Or.inl ⟨_, rfl⟩) (fun _ => ⟨rfl, _, _, rfl⟩) rfl (kwR he22 (kwI he20 (kwR he18 hk16))) he24 ?_
  refine r_aload_n (t := some a0) 0 rfl rfl rfl ?_
  refine r_aload_n (t := x3) 3 rfl rfl rfl ?_
  obtain ⟨h25, he26, hE⟩ := ltE hE
  refine r_putR rfl (fl_4_34 rfl) (Or.inl ⟨_, rfl⟩) (fun _ => ⟨rfl, _, _, rfl⟩) rfl (kwR he24 (kwR he22 (kwI he20 (kwR he18 hk16)))) he26 ?_
  cases hE
  exact r_ret rfl (Or.inr (Or.inr (Or.inr ⟨rfl, rfl, rfl, rfl⟩)))
def Re_keyword_b19 (N : Nat) (a0 : Nat) (h : PH) : Option (Unit × PH) :=
  ck ((hK h a0).1 = 4) <|
  ((hR h a0 0)).bind fun a_2 =>
  ck ((hK h a_2).1 = 8) <|
  bd (Ta_step N a_2 h) fun v5 h6 =>
  some ((), h6)
set_option maxRecDepth 20000 in
theorem Re_keyword_b19_ok (g : GT) (N : Nat) (D : Nat) (hD : 5 ≤ D) : ∀ (a0 : Nat) (h : PH) (v : Unit) (h' : PH), Re_keyword_b19 N a0 h = some (v, h') → Run g pRe_keyword D 19 [(0, va_rf (some a0))] [] h (rV v) h' := by
  obtain ⟨D2, rfl⟩ : ∃ d, D = d + 1 := ⟨D - 1, by omega⟩
  intro a0 h v h' hE
  unfold Re_keyword_b19 at hE
  refine r_aload_n (t := some a0) 0 rfl rfl rfl ?_
  obtain ⟨hk1, hE⟩ := ckE hE
  refine r_getR rfl (fl_4_26 rfl) (Or.inl ⟨_, rfl⟩) rfl hk1 ?_
  obtain ⟨a_2, ha3, hE⟩ := bnE hE
  obtain ⟨hk4, hE⟩ := ckE hE
  obtain ⟨v5, h6, hq7, hE⟩ := bdE hE
  refine r_callV0 (rest := []) (hc := (Ta_step_ok g N _ _ _ _ hq7 D2 (by omega))) rfl pm_Ta_step lw_4_92 im_Ta_step sl_Ta_step ha3 rfl rfl (rcOK hk4 rfl) (by decide) ?_
  cases hE
  exact r_ret rfl (Or.inr (Or.inr (Or.inr ⟨rfl, rfl, rfl, rfl⟩)))
def Re_keyword (N : Nat) (a0 : Nat) (x1 : Int32) (h : PH) : Option (Unit × PH) :=
  ck ((hK h a0).1 = 4) <|
  ((hR h a0 0)).bind fun a_2 =>
  ck ((hK h a_2).1 = 8) <|
  bd (Ta_isWord N a_2 x1 h) fun v5 h6 =>
  if (bI v5) = 0 then
    ck ((hK h6 a0).1 = 4) <|
    ((hR h6 a0 0)).bind fun a_10 =>
    ck ((hK h6 a_10).1 = 8) <|
    bd (Ta_blame N a_10 1 h6) fun v13 h14 =>
    Re_keyword_b19 N  a0 h14
  else
    Re_keyword_b19 N  a0 h6
set_option maxRecDepth 20000 in
theorem Re_keyword_ok (g : GT) (N : Nat) (a0 : Nat) (x1 : Int32) (h : PH) (v : Unit) (h' : PH) (hE : Re_keyword N a0 x1 h = some (v, h')) (D : Nat) (hD : 5 ≤ D) : Calls g D pRe_keyword [va_rf (some a0), .int x1] h (oV v) h' := by
  refine Calls.of cok_Re_keyword ht_Re_keyword pl_Re_keyword (fun ad => by rw [lg_len, sL_cat]; simp only [List.map_cons, List.map_nil, rf_cat, cat_i, cat_l, List.sum_cons, List.sum_nil]; decide) ?_
  rw [show lv_args 0 [va_rf (some a0), .int x1] = [(0, va_rf (some a0)), (1, .int x1)] from (by simp only [lv_args, rf_cat, cat_i, cat_l]; try rfl)]
  obtain ⟨D2, rfl⟩ : ∃ d, D = d + 1 := ⟨D - 1, by omega⟩
  unfold Re_keyword at hE
  refine r_aload_n (t := some a0) 0 rfl rfl rfl ?_
  obtain ⟨hk1, hE⟩ := ckE hE
  refine r_getR rfl (fl_4_26 rfl) (Or.inl ⟨_, rfl⟩) rfl hk1 ?_
  refine r_iload_n 1 rfl rfl rfl ?_
  obtain ⟨a_2, ha3, hE⟩ := bnE hE
  obtain ⟨hk4, hE⟩ := ckE hE
  obtain ⟨v5, h6, hq7, hE⟩ := bdE hE
  refine r_callV1 (rest := []) (hc := (Ta_isWord_ok g N _ _ _ _ _ hq7 D2 (by omega))) rfl pm_Ta_isWord lw_4_185 im_Ta_isWord sl_Ta_isWord ha3 rfl rfl (rcOK hk4 rfl) (by decide) ?_
  refine r_if_ne (tgt := 19) rfl (by decide) (fun hc8 => ?_) (fun hc8 => ?_)
  · have hE := ifP hc8 hE
    refine r_aload_n (t := some a0) 0 rfl rfl rfl ?_
    obtain ⟨hk9, hE⟩ := ckE hE
    refine r_getR rfl (fl_4_26 rfl) (Or.inl ⟨_, rfl⟩) rfl hk9 ?_
    refine r_iconst 1 rfl ci_1 ?_
    obtain ⟨a_10, ha11, hE⟩ := bnE hE
    obtain ⟨hk12, hE⟩ := ckE hE
    obtain ⟨v13, h14, hq15, hE⟩ := bdE hE
    refine r_callV0 (rest := []) (hc := (Ta_blame_ok g N _ _ _ _ _ hq15 D2 (by omega))) rfl pm_Ta_blame lw_4_89 im_Ta_blame sl_Ta_blame ha11 rfl rfl (rcOK hk12 rfl) (by decide) ?_
    first | exact r_sb (Re_keyword_b19_ok g N _ hD   _ _ _ _ hE) ⟨rfl, trivial⟩ | exact r_sb (Re_keyword_b19_ok g N _ hD   _ _ _ _ hE) (by simp only [su1, su2, dr1_rf, dr1_in, dr1_lo, dr2_rf, dr2_in, dr2_lo]; exact ⟨rfl, trivial⟩)
  · have hE := ifN hc8 hE
    first | exact r_sb (Re_keyword_b19_ok g N _ hD   _ _ _ _ hE) ⟨rfl, trivial⟩ | exact r_sb (Re_keyword_b19_ok g N _ hD   _ _ _ _ hE) (by simp only [su1, su2, dr1_rf, dr1_in, dr1_lo, dr2_rf, dr2_in, dr2_lo]; exact ⟨rfl, trivial⟩)
def Re_number_b50 (N : Nat) (a0 : Nat) (x3 : Int32) (h : PH) : Option (Int32 × PH) :=
  ck ((hK h a0).1 = 4) <|
  ((hR h a0 0)).bind fun a_2 =>
  ck ((hK h a_2).1 = 8) <|
  bd (Ta_step N a_2 h) fun v5 h6 =>
  ck ((hK h6 a0).1 = 4) <|
  ((hR h6 a0 0)).bind fun a_9 =>
  ck ((hK h6 a_9).1 = 8) <|
  if (hI h6 a_9 8) = 0 then
    some (x3, h6)
  else
    some (0, h6)
set_option maxRecDepth 20000 in
theorem Re_number_b50_ok (g : GT) (N : Nat) (D : Nat) (hD : 5 ≤ D) : ∀ (a0 : Nat) (x3 : Int32) (h : PH) (v : Int32) (h' : PH), Re_number_b50 N a0 x3 h = some (v, h') → Run g pRe_number D 50 [(0, va_rf (some a0)), (3, .int x3)] [] h (rI v) h' := by
  obtain ⟨D2, rfl⟩ : ∃ d, D = d + 1 := ⟨D - 1, by omega⟩
  intro a0 x3 h v h' hE
  unfold Re_number_b50 at hE
  refine r_aload_n (t := some a0) 0 rfl rfl rfl ?_
  obtain ⟨hk1, hE⟩ := ckE hE
  refine r_getR rfl (fl_4_26 rfl) (Or.inl ⟨_, rfl⟩) rfl hk1 ?_
  obtain ⟨a_2, ha3, hE⟩ := bnE hE
  obtain ⟨hk4, hE⟩ := ckE hE
  obtain ⟨v5, h6, hq7, hE⟩ := bdE hE
  refine r_callV0 (rest := []) (hc := (Ta_step_ok g N _ _ _ _ hq7 D2 (by omega))) rfl pm_Ta_step lw_4_92 im_Ta_step sl_Ta_step ha3 rfl rfl (rcOK hk4 rfl) (by decide) ?_
  refine r_aload_n (t := some a0) 0 rfl rfl rfl ?_
  obtain ⟨hk8, hE⟩ := ckE hE
  refine r_getR rfl (fl_4_26 rfl) (Or.inl ⟨_, rfl⟩) rfl hk8 ?_
  obtain ⟨a_9, ha10, hE⟩ := bnE hE
  obtain ⟨hk11, hE⟩ := ckE hE
  refine r_getI rfl (fl_4_72 rfl) (Or.inl rfl) ha10 hk11 ?_
  refine r_if_ne (tgt := 71) rfl (by decide) (fun hc12 => ?_) (fun hc12 => ?_)
  · have hE := ifP hc12 hE
    refine r_iload_n 3 rfl rfl rfl ?_
    refine r_goto (tgt := 72) rfl (by decide) ?_
    cases hE
    exact r_ret rfl (Or.inl ⟨rfl, _, _, rfl, rfl, rfl, rfl⟩)
  · have hE := ifN hc12 hE
    refine r_iconst 0 rfl ci_0 ?_
    cases hE
    exact r_ret rfl (Or.inl ⟨rfl, _, _, rfl, rfl, rfl, rfl⟩)
def Re_number (N : Nat) (a0 : Nat) (x1 : Int32) (x2 : Int32) (h : PH) : Option (Int32 × PH) :=
  ck ((hK h a0).1 = 4) <|
  ((hR h a0 0)).bind fun a_2 =>
  ck ((hK h a_2).1 = 8) <|
  if (hI h a_2 2) = 1 then
    bd (Ta_isNumber N a_2 x1 x2 h) fun v6 h7 =>
    if (bI v6) = 0 then
      ck ((hK h7 a0).1 = 4) <|
      ((hR h7 a0 0)).bind fun a_11 =>
      ck ((hK h7 a_11).1 = 8) <|
      bd (Ta_blame N a_11 4 h7) fun v14 h15 =>
      Re_number_b50 N  a0 (hI h a_2 5) h15
    else
      Re_number_b50 N  a0 (hI h a_2 5) h7
  else
    bd (Ta_blame N a_2 1 h) fun v17 h18 =>
    Re_number_b50 N  a0 (hI h a_2 5) h18
set_option maxRecDepth 20000 in
theorem Re_number_ok (g : GT) (N : Nat) (a0 : Nat) (x1 : Int32) (x2 : Int32) (h : PH) (v : Int32) (h' : PH) (hE : Re_number N a0 x1 x2 h = some (v, h')) (D : Nat) (hD : 5 ≤ D) : Calls g D pRe_number [va_rf (some a0), .int x1, .int x2] h (oI v) h' := by
  refine Calls.of cok_Re_number ht_Re_number pl_Re_number (fun ad => by rw [lg_len, sL_cat]; simp only [List.map_cons, List.map_nil, rf_cat, cat_i, cat_l, List.sum_cons, List.sum_nil]; decide) ?_
  rw [show lv_args 0 [va_rf (some a0), .int x1, .int x2] = [(0, va_rf (some a0)), (1, .int x1), (2, .int x2)] from (by simp only [lv_args, rf_cat, cat_i, cat_l]; try rfl)]
  obtain ⟨D2, rfl⟩ : ∃ d, D = d + 1 := ⟨D - 1, by omega⟩
  unfold Re_number at hE
  refine r_aload_n (t := some a0) 0 rfl rfl rfl ?_
  obtain ⟨hk1, hE⟩ := ckE hE
  refine r_getR rfl (fl_4_26 rfl) (Or.inl ⟨_, rfl⟩) rfl hk1 ?_
  obtain ⟨a_2, ha3, hE⟩ := bnE hE
  obtain ⟨hk4, hE⟩ := ckE hE
  refine r_getI rfl (fl_4_154 rfl) (Or.inl rfl) ha3 hk4 ?_
  refine r_istore_n 3 rfl rfl (by decide) ?_
  refine r_aload_n (t := some a0) 0 rfl rfl rfl ?_
  refine r_getR rfl (fl_4_26 rfl) (Or.inl ⟨_, rfl⟩) rfl hk1 ?_
  refine r_getI rfl (fl_4_83 rfl) (Or.inl rfl) ha3 hk4 ?_
  refine r_iconst 1 rfl ci_1 ?_
  refine r_icmp_eq (tgt := 30) rfl (by decide) (fun hc5 => ?_) (fun hc5 => ?_)
  · have hE := ifP hc5 hE
    refine r_aload_n (t := some a0) 0 rfl rfl rfl ?_
    refine r_getR rfl (fl_4_26 rfl) (Or.inl ⟨_, rfl⟩) rfl hk1 ?_
    refine r_iload_n 1 rfl rfl rfl ?_
    refine r_iload_n 2 rfl rfl rfl ?_
    obtain ⟨v6, h7, hq8, hE⟩ := bdE hE
    refine r_callV1 (rest := []) (hc := (Ta_isNumber_ok g N _ _ _ _ _ _ hq8 D2 (by omega))) rfl pm_Ta_isNumber lw_4_150 im_Ta_isNumber sl_Ta_isNumber ha3 rfl rfl (rcOK hk4 rfl) (by decide) ?_
    refine r_if_ne (tgt := 50) rfl (by decide) (fun hc9 => ?_) (fun hc9 => ?_)
    · have hE := ifP hc9 hE
      refine r_aload_n (t := some a0) 0 rfl rfl rfl ?_
      obtain ⟨hk10, hE⟩ := ckE hE
      refine r_getR rfl (fl_4_26 rfl) (Or.inl ⟨_, rfl⟩) rfl hk10 ?_
      refine r_iconst 4 rfl ci_4 ?_
      obtain ⟨a_11, ha12, hE⟩ := bnE hE
      obtain ⟨hk13, hE⟩ := ckE hE
      obtain ⟨v14, h15, hq16, hE⟩ := bdE hE
      refine r_callV0 (rest := []) (hc := (Ta_blame_ok g N _ _ _ _ _ hq16 D2 (by omega))) rfl pm_Ta_blame lw_4_89 im_Ta_blame sl_Ta_blame ha12 rfl rfl (rcOK hk13 rfl) (by decide) ?_
      first | exact r_sb (Re_number_b50_ok g N _ hD   _ _ _ _ _ hE) ⟨rfl, rfl, trivial⟩ | exact r_sb (Re_number_b50_ok g N _ hD   _ _ _ _ _ hE) (by simp only [su1, su2, dr1_rf, dr1_in, dr1_lo, dr2_rf, dr2_in, dr2_lo]; exact ⟨rfl, rfl, trivial⟩)
    · have hE := ifN hc9 hE
      first | exact r_sb (Re_number_b50_ok g N _ hD   _ _ _ _ _ hE) ⟨rfl, rfl, trivial⟩ | exact r_sb (Re_number_b50_ok g N _ hD   _ _ _ _ _ hE) (by simp only [su1, su2, dr1_rf, dr1_in, dr1_lo, dr2_rf, dr2_in, dr2_lo]; exact ⟨rfl, rfl, trivial⟩)
  · have hE := ifN hc5 hE
    refine r_aload_n (t := some a0) 0 rfl rfl rfl ?_
    refine r_getR rfl (fl_4_26 rfl) (Or.inl ⟨_, rfl⟩) rfl hk1 ?_
    refine r_iconst 1 rfl ci_1 ?_
    obtain ⟨v17, h18, hq19, hE⟩ := bdE hE
    refine r_callV0 (rest := []) (hc := (Ta_blame_ok g N _ _ _ _ _ hq19 D2 (by omega))) rfl pm_Ta_blame lw_4_89 im_Ta_blame sl_Ta_blame ha3 rfl rfl (rcOK hk4 rfl) (by decide) ?_
    refine r_goto (tgt := 50) rfl (by decide) ?_
    first | exact r_sb (Re_number_b50_ok g N _ hD   _ _ _ _ _ hE) ⟨rfl, rfl, trivial⟩ | exact r_sb (Re_number_b50_ok g N _ hD   _ _ _ _ _ hE) (by simp only [su1, su2, dr1_rf, dr1_in, dr1_lo, dr2_rf, dr2_in, dr2_lo]; exact ⟨rfl, rfl, trivial⟩)
def Re_sign_b19 (N : Nat) (a0 : Nat) (h : PH) : Option (Unit × PH) :=
  ck ((hK h a0).1 = 4) <|
  ((hR h a0 0)).bind fun a_2 =>
  ck ((hK h a_2).1 = 8) <|
  bd (Ta_step N a_2 h) fun v5 h6 =>
  some ((), h6)
set_option maxRecDepth 20000 in
theorem Re_sign_b19_ok (g : GT) (N : Nat) (D : Nat) (hD : 5 ≤ D) : ∀ (a0 : Nat) (h : PH) (v : Unit) (h' : PH), Re_sign_b19 N a0 h = some (v, h') → Run g pRe_sign D 19 [(0, va_rf (some a0))] [] h (rV v) h' := by
  obtain ⟨D2, rfl⟩ : ∃ d, D = d + 1 := ⟨D - 1, by omega⟩
  intro a0 h v h' hE
  unfold Re_sign_b19 at hE
  refine r_aload_n (t := some a0) 0 rfl rfl rfl ?_
  obtain ⟨hk1, hE⟩ := ckE hE
  refine r_getR rfl (fl_4_26 rfl) (Or.inl ⟨_, rfl⟩) rfl hk1 ?_
  obtain ⟨a_2, ha3, hE⟩ := bnE hE
  obtain ⟨hk4, hE⟩ := ckE hE
  obtain ⟨v5, h6, hq7, hE⟩ := bdE hE
  refine r_callV0 (rest := []) (hc := (Ta_step_ok g N _ _ _ _ hq7 D2 (by omega))) rfl pm_Ta_step lw_4_92 im_Ta_step sl_Ta_step ha3 rfl rfl (rcOK hk4 rfl) (by decide) ?_
  cases hE
  exact r_ret rfl (Or.inr (Or.inr (Or.inr ⟨rfl, rfl, rfl, rfl⟩)))
def Re_sign (N : Nat) (a0 : Nat) (x1 : Int32) (h : PH) : Option (Unit × PH) :=
  ck ((hK h a0).1 = 4) <|
  ((hR h a0 0)).bind fun a_2 =>
  ck ((hK h a_2).1 = 8) <|
  if (hI h a_2 2) = x1 then
    Re_sign_b19 N  a0 h
  else
    bd (Ta_blame N a_2 1 h) fun v6 h7 =>
    Re_sign_b19 N  a0 h7
set_option maxRecDepth 20000 in
theorem Re_sign_ok (g : GT) (N : Nat) (a0 : Nat) (x1 : Int32) (h : PH) (v : Unit) (h' : PH) (hE : Re_sign N a0 x1 h = some (v, h')) (D : Nat) (hD : 5 ≤ D) : Calls g D pRe_sign [va_rf (some a0), .int x1] h (oV v) h' := by
  refine Calls.of cok_Re_sign ht_Re_sign pl_Re_sign (fun ad => by rw [lg_len, sL_cat]; simp only [List.map_cons, List.map_nil, rf_cat, cat_i, cat_l, List.sum_cons, List.sum_nil]; decide) ?_
  rw [show lv_args 0 [va_rf (some a0), .int x1] = [(0, va_rf (some a0)), (1, .int x1)] from (by simp only [lv_args, rf_cat, cat_i, cat_l]; try rfl)]
  obtain ⟨D2, rfl⟩ : ∃ d, D = d + 1 := ⟨D - 1, by omega⟩
  unfold Re_sign at hE
  refine r_aload_n (t := some a0) 0 rfl rfl rfl ?_
  obtain ⟨hk1, hE⟩ := ckE hE
  refine r_getR rfl (fl_4_26 rfl) (Or.inl ⟨_, rfl⟩) rfl hk1 ?_
  obtain ⟨a_2, ha3, hE⟩ := bnE hE
  obtain ⟨hk4, hE⟩ := ckE hE
  refine r_getI rfl (fl_4_83 rfl) (Or.inl rfl) ha3 hk4 ?_
  refine r_iload_n 1 rfl rfl rfl ?_
  refine r_icmp_eq (tgt := 19) rfl (by decide) (fun hc5 => ?_) (fun hc5 => ?_)
  · have hE := ifP hc5 hE
    first | exact r_sb (Re_sign_b19_ok g N _ hD   _ _ _ _ hE) ⟨rfl, trivial⟩ | exact r_sb (Re_sign_b19_ok g N _ hD   _ _ _ _ hE) (by simp only [su1, su2, dr1_rf, dr1_in, dr1_lo, dr2_rf, dr2_in, dr2_lo]; exact ⟨rfl, trivial⟩)
  · have hE := ifN hc5 hE
    refine r_aload_n (t := some a0) 0 rfl rfl rfl ?_
    refine r_getR rfl (fl_4_26 rfl) (Or.inl ⟨_, rfl⟩) rfl hk1 ?_
    refine r_iconst 1 rfl ci_1 ?_
    obtain ⟨v6, h7, hq8, hE⟩ := bdE hE
    refine r_callV0 (rest := []) (hc := (Ta_blame_ok g N _ _ _ _ _ hq8 D2 (by omega))) rfl pm_Ta_blame lw_4_89 im_Ta_blame sl_Ta_blame ha3 rfl rfl (rcOK hk4 rfl) (by decide) ?_
    first | exact r_sb (Re_sign_b19_ok g N _ hD   _ _ _ _ hE) ⟨rfl, trivial⟩ | exact r_sb (Re_sign_b19_ok g N _ hD   _ _ _ _ hE) (by simp only [su1, su2, dr1_rf, dr1_in, dr1_lo, dr2_rf, dr2_in, dr2_lo]; exact ⟨rfl, trivial⟩)
def Re_hasMore (N : Nat) (a0 : Nat) (h : PH) : Option (Bool × PH) :=
  ck ((hK h a0).1 = 4) <|
  ((hR h a0 0)).bind fun a_2 =>
  ck ((hK h a_2).1 = 8) <|
  if (hI h a_2 8) = 0 then
    if (hI h a_2 2) = 3 then
      some (false, h)
    else
      some (true, h)
  else
    some (false, h)
set_option maxRecDepth 20000 in
theorem Re_hasMore_ok (g : GT) (N : Nat) (a0 : Nat) (h : PH) (v : Bool) (h' : PH) (hE : Re_hasMore N a0 h = some (v, h')) (D : Nat) (hD : 0 ≤ D) : Calls g D pRe_hasMore [va_rf (some a0)] h (oZ v) h' := by
  refine Calls.of cok_Re_hasMore ht_Re_hasMore pl_Re_hasMore (fun ad => by rw [lg_len, sL_cat]; simp only [List.map_cons, List.map_nil, rf_cat, cat_i, cat_l, List.sum_cons, List.sum_nil]; decide) ?_
  rw [show lv_args 0 [va_rf (some a0)] = [(0, va_rf (some a0))] from (by simp only [lv_args, rf_cat, cat_i, cat_l]; try rfl)]
  unfold Re_hasMore at hE
  refine r_aload_n (t := some a0) 0 rfl rfl rfl ?_
  obtain ⟨hk1, hE⟩ := ckE hE
  refine r_getR rfl (fl_4_26 rfl) (Or.inl ⟨_, rfl⟩) rfl hk1 ?_
  obtain ⟨a_2, ha3, hE⟩ := bnE hE
  obtain ⟨hk4, hE⟩ := ckE hE
  refine r_getI rfl (fl_4_72 rfl) (Or.inl rfl) ha3 hk4 ?_
  refine r_if_ne (tgt := 25) rfl (by decide) (fun hc5 => ?_) (fun hc5 => ?_)
  · have hE := ifP hc5 hE
    refine r_aload_n (t := some a0) 0 rfl rfl rfl ?_
    refine r_getR rfl (fl_4_26 rfl) (Or.inl ⟨_, rfl⟩) rfl hk1 ?_
    refine r_getI rfl (fl_4_83 rfl) (Or.inl rfl) ha3 hk4 ?_
    refine r_iconst 3 rfl ci_3 ?_
    refine r_icmp_eq (tgt := 25) rfl (by decide) (fun hc6 => ?_) (fun hc6 => ?_)
    · have hE := ifP hc6 hE
      refine r_iconst 0 rfl ci_0 ?_
      cases hE
      exact r_ret rfl (Or.inl ⟨rfl, _, _, rfl, rfl, rfl, rfl⟩)
    · have hE := ifN hc6 hE
      refine r_iconst 1 rfl ci_1 ?_
      refine r_goto (tgt := 26) rfl (by decide) ?_
      cases hE
      exact r_ret rfl (Or.inl ⟨rfl, _, _, rfl, rfl, rfl, rfl⟩)
  · have hE := ifN hc5 hE
    refine r_iconst 0 rfl ci_0 ?_
    cases hE
    exact r_ret rfl (Or.inl ⟨rfl, _, _, rfl, rfl, rfl, rfl⟩)
def Re_isCalled_b31 (N : Nat) (self_2 : Nat → Int32 → Int32 → PH → Option (Bool × PH)) (a0 : Nat) (x2 : Int32) (x3 : Int32) (h : PH) : Option (Bool × PH) :=
  self_2 a0 x2 (x3 + 1) h
set_option maxRecDepth 20000 in
theorem Re_isCalled_b31_ok (g : GT) (N : Nat) (D : Nat) (hD : 0 ≤ D) (self_2 : Nat → Int32 → Int32 → PH → Option (Bool × PH)) (hself_2 : ∀ (a0 : Nat) (x2 : Int32) (x3 : Int32) (h : PH) (v : Bool) (h' : PH), self_2 a0 x2 x3 h = some (v, h') → Run g pRe_isCalled D 2 [(0, va_rf (some a0)), (2, .int x2), (3, .int x3)] [] h (rZ v) h') : ∀ (a0 : Nat) (x2 : Int32) (x3 : Int32) (h : PH) (v : Bool) (h' : PH), Re_isCalled_b31 N self_2 a0 x2 x3 h = some (v, h') → Run g pRe_isCalled D 31 [(0, va_rf (some a0)), (2, .int x2), (3, .int x3)] [] h (rZ v) h' := by
  intro a0 x2 x3 h v h' hE
  unfold Re_isCalled_b31 at hE
  refine r_iinc _ rfl rfl (congrArg _ ci_1) (by decide) ?_
  refine r_goto (tgt := 2) rfl (by decide) ?_
  first | exact r_sb (hself_2 _ _ _ _ _ _ hE) ⟨rfl, rfl, rfl, trivial⟩ | exact r_sb (hself_2 _ _ _ _ _ _ hE) (by simp only [su1, su2, dr1_rf, dr1_in, dr1_lo, dr2_rf, dr2_in, dr2_lo]; exact ⟨rfl, rfl, rfl, trivial⟩)
def Re_isCalled_b2 (N : Nat) : Nat → Nat → Int32 → Int32 → PH → Option (Bool × PH)
  | 0 => fun _ _ _ _ => none
  | n + 1 => fun a0 x2 x3 h =>
    if x2 < x3 then
      some (false, h)
    else
      if x3 < 0 then
        Re_isCalled_b31 N (Re_isCalled_b2 N n)  a0 x2 x3 h
      else
        ck ((hK h a0).1 = 4) <|
        ((hR h a0 5)).bind fun a_4 =>
        ck ((hK h a_4).1 = 21) <|
        if (Int32.ofNat (hK h a_4).2) ≤ x3 then
          Re_isCalled_b31 N (Re_isCalled_b2 N n)  a0 x2 x3 h
        else
          ck (inb x3 (hK h a_4).2 = true) <|
          if (bI (hZ h a_4 (ix x3))) = 0 then
            Re_isCalled_b31 N (Re_isCalled_b2 N n)  a0 x2 x3 h
          else
            some (true, h)
set_option maxRecDepth 20000 in
theorem Re_isCalled_b2_ok (g : GT) (N : Nat) (D : Nat) (hD : 0 ≤ D) : ∀ (n : Nat) (a0 : Nat) (x2 : Int32) (x3 : Int32) (h : PH) (v : Bool) (h' : PH), Re_isCalled_b2 N n a0 x2 x3 h = some (v, h') → Run g pRe_isCalled D 2 [(0, va_rf (some a0)), (2, .int x2), (3, .int x3)] [] h (rZ v) h' := by
  intro n
  induction n with
  | zero => exact fun _ _ _ _ _ _ hE => nomatch (show none = some _ from hE)
  | succ n ih =>
    intro a0 x2 x3 h v h' hE
    unfold Re_isCalled_b2 at hE
    refine r_iload_n 3 rfl rfl rfl ?_
    refine r_iload_n 2 rfl rfl rfl ?_
    refine r_icmp_gt (tgt := 37) rfl (by decide) (fun hc1 => ?_) (fun hc1 => ?_)
    · have hE := ifP hc1 hE
      refine r_iconst 0 rfl ci_0 ?_
      cases hE
      exact r_ret rfl (Or.inl ⟨rfl, _, _, rfl, rfl, rfl, rfl⟩)
    · have hE := ifN hc1 hE
      refine r_iload_n 3 rfl rfl rfl ?_
      refine r_if_lt (tgt := 31) rfl (by decide) (fun hc2 => ?_) (fun hc2 => ?_)
      · have hE := ifP hc2 hE
        first | exact r_sb (Re_isCalled_b31_ok g N _ hD _ ih  _ _ _ _ _ _ hE) ⟨rfl, rfl, rfl, trivial⟩ | exact r_sb (Re_isCalled_b31_ok g N _ hD _ ih  _ _ _ _ _ _ hE) (by simp only [su1, su2, dr1_rf, dr1_in, dr1_lo, dr2_rf, dr2_in, dr2_lo]; exact ⟨rfl, rfl, rfl, trivial⟩)
      · have hE := ifN hc2 hE
        refine r_iload_n 3 rfl rfl rfl ?_
        refine r_aload_n (t := some a0) 0 rfl rfl rfl ?_
        obtain ⟨hk3, hE⟩ := ckE hE
        refine r_getR rfl (fl_4_19 rfl) (Or.inr ⟨_, rfl⟩) rfl hk3 ?_
        obtain ⟨a_4, ha5, hE⟩ := bnE hE
        obtain ⟨hk6, hE⟩ := ckE hE
        refine r_alen (kd := 21) rfl (by decide) (by decide) ha5 hk6 ?_
        refine r_icmp_ge (tgt := 31) rfl (by decide) (fun hc7 => ?_) (fun hc7 => ?_)
        · have hE := ifP hc7 hE
          first | exact r_sb (Re_isCalled_b31_ok g N _ hD _ ih  _ _ _ _ _ _ hE) ⟨rfl, rfl, rfl, trivial⟩ | exact r_sb (Re_isCalled_b31_ok g N _ hD _ ih  _ _ _ _ _ _ hE) (by simp only [su1, su2, dr1_rf, dr1_in, dr1_lo, dr2_rf, dr2_in, dr2_lo]; exact ⟨rfl, rfl, rfl, trivial⟩)
        · have hE := ifN hc7 hE
          refine r_aload_n (t := some a0) 0 rfl rfl rfl ?_
          refine r_getR rfl (fl_4_19 rfl) (Or.inr ⟨_, rfl⟩) rfl hk3 ?_
          refine r_iload_n 3 rfl rfl rfl ?_
          obtain ⟨hi8, hE⟩ := ckE hE
          refine r_zald rfl ha5 hk6 hi8 ?_
          refine r_if_eq (tgt := 31) rfl (by decide) (fun hc9 => ?_) (fun hc9 => ?_)
          · have hE := ifP hc9 hE
            first | exact r_sb (Re_isCalled_b31_ok g N _ hD _ ih  _ _ _ _ _ _ hE) ⟨rfl, rfl, rfl, trivial⟩ | exact r_sb (Re_isCalled_b31_ok g N _ hD _ ih  _ _ _ _ _ _ hE) (by simp only [su1, su2, dr1_rf, dr1_in, dr1_lo, dr2_rf, dr2_in, dr2_lo]; exact ⟨rfl, rfl, rfl, trivial⟩)
          · have hE := ifN hc9 hE
            refine r_iconst 1 rfl ci_1 ?_
            cases hE
            exact r_ret rfl (Or.inl ⟨rfl, _, _, rfl, rfl, rfl, rfl⟩)
def Re_isCalled (N : Nat) (a0 : Nat) (x1 : Int32) (x2 : Int32) (h : PH) : Option (Bool × PH) :=
  Re_isCalled_b2 N N a0 x2 x1 h
set_option maxRecDepth 20000 in
theorem Re_isCalled_ok (g : GT) (N : Nat) (a0 : Nat) (x1 : Int32) (x2 : Int32) (h : PH) (v : Bool) (h' : PH) (hE : Re_isCalled N a0 x1 x2 h = some (v, h')) (D : Nat) (hD : 0 ≤ D) : Calls g D pRe_isCalled [va_rf (some a0), .int x1, .int x2] h (oZ v) h' := by
  refine Calls.of cok_Re_isCalled ht_Re_isCalled pl_Re_isCalled (fun ad => by rw [lg_len, sL_cat]; simp only [List.map_cons, List.map_nil, rf_cat, cat_i, cat_l, List.sum_cons, List.sum_nil]; decide) ?_
  rw [show lv_args 0 [va_rf (some a0), .int x1, .int x2] = [(0, va_rf (some a0)), (1, .int x1), (2, .int x2)] from (by simp only [lv_args, rf_cat, cat_i, cat_l]; try rfl)]
  unfold Re_isCalled at hE
  refine r_iload_n 1 rfl rfl rfl ?_
  refine r_istore_n 3 rfl rfl (by decide) ?_
  first | exact r_sb (Re_isCalled_b2_ok g N _ hD  N _ _ _ _ _ _ hE) ⟨rfl, rfl, rfl, trivial⟩ | exact r_sb (Re_isCalled_b2_ok g N _ hD  N _ _ _ _ _ _ hE) (by simp only [su1, su2, dr1_rf, dr1_in, dr1_lo, dr2_rf, dr2_in, dr2_lo]; exact ⟨rfl, rfl, rfl, trivial⟩)
def Re_markCalled_b27 (N : Nat) (self_2 : Nat → Int32 → Int32 → PH → Option (Unit × PH)) (a0 : Nat) (x2 : Int32) (x3 : Int32) (h : PH) : Option (Unit × PH) :=
  self_2 a0 x2 (x3 + 1) h
set_option maxRecDepth 20000 in
theorem Re_markCalled_b27_ok (g : GT) (N : Nat) (D : Nat) (hD : 0 ≤ D) (self_2 : Nat → Int32 → Int32 → PH → Option (Unit × PH)) (hself_2 : ∀ (a0 : Nat) (x2 : Int32) (x3 : Int32) (h : PH) (v : Unit) (h' : PH), self_2 a0 x2 x3 h = some (v, h') → Run g pRe_markCalled D 2 [(0, va_rf (some a0)), (2, .int x2), (3, .int x3)] [] h (rV v) h') : ∀ (a0 : Nat) (x2 : Int32) (x3 : Int32) (h : PH) (v : Unit) (h' : PH), Re_markCalled_b27 N self_2 a0 x2 x3 h = some (v, h') → Run g pRe_markCalled D 27 [(0, va_rf (some a0)), (2, .int x2), (3, .int x3)] [] h (rV v) h' := by
  intro a0 x2 x3 h v h' hE
  unfold Re_markCalled_b27 at hE
  refine r_iinc _ rfl rfl (congrArg _ ci_1) (by decide) ?_
  refine r_goto (tgt := 2) rfl (by decide) ?_
  first | exact r_sb (hself_2 _ _ _ _ _ _ hE) ⟨rfl, rfl, rfl, trivial⟩ | exact r_sb (hself_2 _ _ _ _ _ _ hE) (by simp only [su1, su2, dr1_rf, dr1_in, dr1_lo, dr2_rf, dr2_in, dr2_lo]; exact ⟨rfl, rfl, rfl, trivial⟩)
def Re_markCalled_b2 (N : Nat) : Nat → Nat → Int32 → Int32 → PH → Option (Unit × PH)
  | 0 => fun _ _ _ _ => none
  | n + 1 => fun a0 x2 x3 h =>
    if x2 < x3 then
      some ((), h)
    else
      if x3 < 0 then
        Re_markCalled_b27 N (Re_markCalled_b2 N n)  a0 x2 x3 h
      else
        ck ((hK h a0).1 = 4) <|
        ((hR h a0 5)).bind fun a_4 =>
        ck ((hK h a_4).1 = 21) <|
        if (Int32.ofNat (hK h a_4).2) ≤ x3 then
          Re_markCalled_b27 N (Re_markCalled_b2 N n)  a0 x2 x3 h
        else
          ck (inb x3 (hK h a_4).2 = true) <|
          lt0 (wZ h a_4 (ix x3) (tb 1)) fun h9 =>
          Re_markCalled_b27 N (Re_markCalled_b2 N n)  a0 x2 x3 h9
set_option maxRecDepth 20000 in
theorem Re_markCalled_b2_ok (g : GT) (N : Nat) (D : Nat) (hD : 0 ≤ D) : ∀ (n : Nat) (a0 : Nat) (x2 : Int32) (x3 : Int32) (h : PH) (v : Unit) (h' : PH), Re_markCalled_b2 N n a0 x2 x3 h = some (v, h') → Run g pRe_markCalled D 2 [(0, va_rf (some a0)), (2, .int x2), (3, .int x3)] [] h (rV v) h' := by
  intro n
  induction n with
  | zero => exact fun _ _ _ _ _ _ hE => nomatch (show none = some _ from hE)
  | succ n ih =>
    intro a0 x2 x3 h v h' hE
    unfold Re_markCalled_b2 at hE
    refine r_iload_n 3 rfl rfl rfl ?_
    refine r_iload_n 2 rfl rfl rfl ?_
    refine r_icmp_gt (tgt := 33) rfl (by decide) (fun hc1 => ?_) (fun hc1 => ?_)
    · have hE := ifP hc1 hE
      cases hE
      exact r_ret rfl (Or.inr (Or.inr (Or.inr ⟨rfl, rfl, rfl, rfl⟩)))
    · have hE := ifN hc1 hE
      refine r_iload_n 3 rfl rfl rfl ?_
      refine r_if_lt (tgt := 27) rfl (by decide) (fun hc2 => ?_) (fun hc2 => ?_)
      · have hE := ifP hc2 hE
        first | exact r_sb (Re_markCalled_b27_ok g N _ hD _ ih  _ _ _ _ _ _ hE) ⟨rfl, rfl, rfl, trivial⟩ | exact r_sb (Re_markCalled_b27_ok g N _ hD _ ih  _ _ _ _ _ _ hE) (by simp only [su1, su2, dr1_rf, dr1_in, dr1_lo, dr2_rf, dr2_in, dr2_lo]; exact ⟨rfl, rfl, rfl, trivial⟩)
      · have hE := ifN hc2 hE
        refine r_iload_n 3 rfl rfl rfl ?_
        refine r_aload_n (t := some a0) 0 rfl rfl rfl ?_
        obtain ⟨hk3, hE⟩ := ckE hE
        refine r_getR rfl (fl_4_19 rfl) (Or.inr ⟨_, rfl⟩) rfl hk3 ?_
        obtain ⟨a_4, ha5, hE⟩ := bnE hE
        obtain ⟨hk6, hE⟩ := ckE hE
        refine r_alen (kd := 21) rfl (by decide) (by decide) ha5 hk6 ?_
        refine r_icmp_ge (tgt := 27) rfl (by decide) (fun hc7 => ?_) (fun hc7 => ?_)
        · have hE := ifP hc7 hE
          first | exact r_sb (Re_markCalled_b27_ok g N _ hD _ ih  _ _ _ _ _ _ hE) ⟨rfl, rfl, rfl, trivial⟩ | exact r_sb (Re_markCalled_b27_ok g N _ hD _ ih  _ _ _ _ _ _ hE) (by simp only [su1, su2, dr1_rf, dr1_in, dr1_lo, dr2_rf, dr2_in, dr2_lo]; exact ⟨rfl, rfl, rfl, trivial⟩)
        · have hE := ifN hc7 hE
          refine r_aload_n (t := some a0) 0 rfl rfl rfl ?_
          refine r_getR rfl (fl_4_19 rfl) (Or.inr ⟨_, rfl⟩) rfl hk3 ?_
          refine r_iload_n 3 rfl rfl rfl ?_
          refine r_iconst 1 rfl ci_1 ?_
          obtain ⟨hi8, hE⟩ := ckE hE
          obtain ⟨h9, he10, hE⟩ := ltE hE
          refine r_zast rfl ha5 hk6 hi8 rfl he10 ?_
          first | exact r_sb (Re_markCalled_b27_ok g N _ hD _ ih  _ _ _ _ _ _ hE) ⟨rfl, rfl, rfl, trivial⟩ | exact r_sb (Re_markCalled_b27_ok g N _ hD _ ih  _ _ _ _ _ _ hE) (by simp only [su1, su2, dr1_rf, dr1_in, dr1_lo, dr2_rf, dr2_in, dr2_lo]; exact ⟨rfl, rfl, rfl, trivial⟩)
def Re_markCalled (N : Nat) (a0 : Nat) (x1 : Int32) (x2 : Int32) (h : PH) : Option (Unit × PH) :=
  Re_markCalled_b2 N N a0 x2 x1 h
set_option maxRecDepth 20000 in
theorem Re_markCalled_ok (g : GT) (N : Nat) (a0 : Nat) (x1 : Int32) (x2 : Int32) (h : PH) (v : Unit) (h' : PH) (hE : Re_markCalled N a0 x1 x2 h = some (v, h')) (D : Nat) (hD : 0 ≤ D) : Calls g D pRe_markCalled [va_rf (some a0), .int x1, .int x2] h (oV v) h' := by
  refine Calls.of cok_Re_markCalled ht_Re_markCalled pl_Re_markCalled (fun ad => by rw [lg_len, sL_cat]; simp only [List.map_cons, List.map_nil, rf_cat, cat_i, cat_l, List.sum_cons, List.sum_nil]; decide) ?_
  rw [show lv_args 0 [va_rf (some a0), .int x1, .int x2] = [(0, va_rf (some a0)), (1, .int x1), (2, .int x2)] from (by simp only [lv_args, rf_cat, cat_i, cat_l]; try rfl)]
  unfold Re_markCalled at hE
  refine r_iload_n 1 rfl rfl rfl ?_
  refine r_istore_n 3 rfl rfl (by decide) ?_
  first | exact r_sb (Re_markCalled_b2_ok g N _ hD  N _ _ _ _ _ _ hE) ⟨rfl, rfl, rfl, trivial⟩ | exact r_sb (Re_markCalled_b2_ok g N _ hD  N _ _ _ _ _ _ hE) (by simp only [su1, su2, dr1_rf, dr1_in, dr1_lo, dr2_rf, dr2_in, dr2_lo]; exact ⟨rfl, rfl, rfl, trivial⟩)
def Re_callsLine_b183 (N : Nat) (self_119 : Nat → Int32 → Int32 → Int32 → Int32 → PH → Option (Unit × PH)) : Nat → Nat → Int32 → Int32 → Int32 → Int32 → Int32 → Int32 → PH → Option (Unit × PH)
  | 0 => fun _ _ _ _ _ _ _ _ => none
  | n + 1 => fun a0 x1 x2 x3 x4 x5 x6 h =>
    if x2 < x6 then
      self_119 a0 x1 x2 x3 (x4 + 1) h
    else
      ck ((hK h a0).1 = 4) <|
      ((hR h a0 1)).bind fun a_3 =>
      ck ((hK h a_3).1 = 0) <|
      bd (Le_put N (hR h a_3 15) ((x6 * 4) + x4) x5 h) fun v6 h7 =>
      (Re_callsLine_b183 N self_119 n) a0 x1 x2 x3 x4 x5 (x6 + 1) h7
set_option maxRecDepth 20000 in
theorem Re_callsLine_b183_ok (g : GT) (N : Nat) (D : Nat) (hD : 6 ≤ D) (self_119 : Nat → Int32 → Int32 → Int32 → Int32 → PH → Option (Unit × PH)) (hself_119 : ∀ (a0 : Nat) (x1 : Int32) (x2 : Int32) (x3 : Int32) (x4 : Int32) (h : PH) (v : Unit) (h' : PH), self_119 a0 x1 x2 x3 x4 h = some (v, h') → Run g pRe_callsLine D 119 [(0, va_rf (some a0)), (1, .int x1), (2, .int x2), (3, .int x3), (4, .int x4)] [] h (rV v) h') : ∀ (n : Nat) (a0 : Nat) (x1 : Int32) (x2 : Int32) (x3 : Int32) (x4 : Int32) (x5 : Int32) (x6 : Int32) (h : PH) (v : Unit) (h' : PH), Re_callsLine_b183 N self_119 n a0 x1 x2 x3 x4 x5 x6 h = some (v, h') → Run g pRe_callsLine D 183 [(0, va_rf (some a0)), (1, .int x1), (2, .int x2), (3, .int x3), (4, .int x4), (5, .int x5), (6, .int x6)] [] h (rV v) h' := by
  obtain ⟨D2, rfl⟩ : ∃ d, D = d + 1 := ⟨D - 1, by omega⟩
  intro n
  induction n with
  | zero => exact fun _ _ _ _ _ _ _ _ _ _ hE => nomatch (show none = some _ from hE)
  | succ n ih =>
    intro a0 x1 x2 x3 x4 x5 x6 h v h' hE
    unfold Re_callsLine_b183 at hE
    refine r_iload rfl rfl ?_
    refine r_iload_n 2 rfl rfl rfl ?_
    refine r_icmp_gt (tgt := 214) rfl (by decide) (fun hc1 => ?_) (fun hc1 => ?_)
    · have hE := ifP hc1 hE
      refine r_iinc _ rfl rfl (congrArg _ ci_1) (by decide) ?_
      refine r_goto (tgt := 119) rfl (by decide) ?_
      first | exact r_sb (hself_119 _ _ _ _ _ _ _ _ hE) ⟨rfl, rfl, rfl, rfl, rfl, trivial⟩ | exact r_sb (hself_119 _ _ _ _ _ _ _ _ hE) (by simp only [su1, su2, dr1_rf, dr1_in, dr1_lo, dr2_rf, dr2_in, dr2_lo]; exact ⟨rfl, rfl, rfl, rfl, rfl, trivial⟩)
    · have hE := ifN hc1 hE
      refine r_aload_n (t := some a0) 0 rfl rfl rfl ?_
      obtain ⟨hk2, hE⟩ := ckE hE
      refine r_getR rfl (fl_4_30 rfl) (Or.inl ⟨_, rfl⟩) rfl hk2 ?_
      obtain ⟨a_3, ha4, hE⟩ := bnE hE
      obtain ⟨hk5, hE⟩ := ckE hE
      refine r_getR rfl (fl_4_159 rfl) (Or.inr ⟨_, rfl⟩) ha4 hk5 ?_
      refine r_iload rfl rfl ?_
      refine r_iconst 4 rfl ci_4 ?_
      refine r_imul rfl ?_
      refine r_iload rfl rfl ?_
      refine r_iadd rfl ?_
      refine r_iload rfl rfl ?_
      obtain ⟨v6, h7, hq8, hE⟩ := bdE hE
      refine r_callSN0 (rest := []) (hc := (Le_put_ok g N _ _ _ _ _ _ hq8 D2 (by omega))) rfl pm_Le_put lw_4_146 st_Le_put rfl rfl (by decide) ?_
      refine r_iinc _ rfl rfl (congrArg _ ci_1) (by decide) ?_
      refine r_goto (tgt := 183) rfl (by decide) ?_
      first | exact r_sb (ih _ _ _ _ _ _ _ _ _ _ hE) ⟨rfl, rfl, rfl, rfl, rfl, rfl, rfl, trivial⟩ | exact r_sb (ih _ _ _ _ _ _ _ _ _ _ hE) (by simp only [su1, su2, dr1_rf, dr1_in, dr1_lo, dr2_rf, dr2_in, dr2_lo]; exact ⟨rfl, rfl, rfl, rfl, rfl, rfl, rfl, trivial⟩)
def Re_callsLine_b166 (N : Nat) (self_119 : Nat → Int32 → Int32 → Int32 → Int32 → PH → Option (Unit × PH)) (a0 : Nat) (x1 : Int32) (x2 : Int32) (x3 : Int32) (x4 : Int32) (h : PH) : Option (Unit × PH) :=
  ck ((hK h a0).1 = 4) <|
  bd (Re_number N a0 0 10 h) fun v2 h3 =>
  Re_callsLine_b183 N self_119 N a0 x1 x2 (x3 + v2) x4 v2 x1 h3
set_option maxRecDepth 20000 in
theorem Re_callsLine_b166_ok (g : GT) (N : Nat) (D : Nat) (hD : 6 ≤ D) (self_119 : Nat → Int32 → Int32 → Int32 → Int32 → PH → Option (Unit × PH)) (hself_119 : ∀ (a0 : Nat) (x1 : Int32) (x2 : Int32) (x3 : Int32) (x4 : Int32) (h : PH) (v : Unit) (h' : PH), self_119 a0 x1 x2 x3 x4 h = some (v, h') → Run g pRe_callsLine D 119 [(0, va_rf (some a0)), (1, .int x1), (2, .int x2), (3, .int x3), (4, .int x4)] [] h (rV v) h') : ∀ (a0 : Nat) (x1 : Int32) (x2 : Int32) (x3 : Int32) (x4 : Int32) (h : PH) (v : Unit) (h' : PH), Re_callsLine_b166 N self_119 a0 x1 x2 x3 x4 h = some (v, h') → Run g pRe_callsLine D 166 [(0, va_rf (some a0)), (1, .int x1), (2, .int x2), (3, .int x3), (4, .int x4)] [] h (rV v) h' := by
  obtain ⟨D2, rfl⟩ : ∃ d, D = d + 1 := ⟨D - 1, by omega⟩
  intro a0 x1 x2 x3 x4 h v h' hE
  unfold Re_callsLine_b166 at hE
  refine r_aload_n (t := some a0) 0 rfl rfl rfl ?_
  refine r_iconst 0 rfl ci_0 ?_
  refine r_bipush 10 rfl cb_10 ?_
  obtain ⟨hk1, hE⟩ := ckE hE
  obtain ⟨v2, h3, hq4, hE⟩ := bdE hE
  refine r_callV1 (rest := []) (hc := (Re_number_ok g N _ _ _ _ _ _ hq4 D2 (by omega))) rfl pm_Re_number lw_4_52 im_Re_number sl_Re_number rfl rfl rfl (rcOK hk1 rfl) (by decide) ?_
  refine r_istore rfl (by decide) ?_
  refine r_iload_n 3 rfl rfl rfl ?_
  refine r_iload rfl rfl ?_
  refine r_iadd rfl ?_
  refine r_istore_n 3 rfl rfl (by decide) ?_
  refine r_iload_n 1 rfl rfl rfl ?_
  refine r_istore rfl (by decide) ?_
  first | exact r_sb (Re_callsLine_b183_ok g N _ hD _ hself_119 N _ _ _ _ _ _ _ _ _ _ hE) ⟨rfl, rfl, rfl, rfl, rfl, rfl, rfl, trivial⟩ | exact r_sb (Re_callsLine_b183_ok g N _ hD _ hself_119 N _ _ _ _ _ _ _ _ _ _ hE) (by simp only [su1, su2, dr1_rf, dr1_in, dr1_lo, dr2_rf, dr2_in, dr2_lo]; exact ⟨rfl, rfl, rfl, rfl, rfl, rfl, rfl, trivial⟩)
def Re_callsLine_b119 (N : Nat) : Nat → Nat → Int32 → Int32 → Int32 → Int32 → PH → Option (Unit × PH)
  | 0 => fun _ _ _ _ _ _ => none
  | n + 1 => fun a0 x1 x2 x3 x4 h =>
    if 3 < x4 then
      ck ((hK h a0).1 = 4) <|
      bd (Re_sign N a0 59 h) fun v3 h4 =>
      ck ((hK h4 a0).1 = 4) <|
      bd (Re_markCalled N a0 x1 x2 h4) fun v7 h8 =>
      some ((), h8)
    else
      if x4 = 3 then
        ck ((hK h a0).1 = 4) <|
        ((hR h a0 0)).bind fun a_12 =>
        ck ((hK h a_12).1 = 8) <|
        bd (Ta_isNumber N a_12 0 10 h) fun v15 h16 =>
        if (bI v15) = 0 then
          Re_callsLine_b166 N (Re_callsLine_b119 N n)  a0 x1 x2 x3 x4 h16
        else
          ck ((hK h16 a0).1 = 4) <|
          ((hR h16 a0 0)).bind fun a_20 =>
          ck ((hK h16 a_20).1 = 8) <|
          if (x3 + (hI h16 a_20 5)) = 10 then
            Re_callsLine_b166 N (Re_callsLine_b119 N n)  a0 x1 x2 x3 x4 h16
          else
            bd (Ta_blame N a_20 4 h16) fun v24 h25 =>
            Re_callsLine_b166 N (Re_callsLine_b119 N n)  a0 x1 x2 x3 x4 h25
      else
        Re_callsLine_b166 N (Re_callsLine_b119 N n)  a0 x1 x2 x3 x4 h
set_option maxRecDepth 20000 in
theorem Re_callsLine_b119_ok (g : GT) (N : Nat) (D : Nat) (hD : 6 ≤ D) : ∀ (n : Nat) (a0 : Nat) (x1 : Int32) (x2 : Int32) (x3 : Int32) (x4 : Int32) (h : PH) (v : Unit) (h' : PH), Re_callsLine_b119 N n a0 x1 x2 x3 x4 h = some (v, h') → Run g pRe_callsLine D 119 [(0, va_rf (some a0)), (1, .int x1), (2, .int x2), (3, .int x3), (4, .int x4)] [] h (rV v) h' := by
  obtain ⟨D2, rfl⟩ : ∃ d, D = d + 1 := ⟨D - 1, by omega⟩
  intro n
  induction n with
  | zero => exact fun _ _ _ _ _ _ _ _ hE => nomatch (show none = some _ from hE)
  | succ n ih =>
    intro a0 x1 x2 x3 x4 h v h' hE
    unfold Re_callsLine_b119 at hE
    refine r_iload rfl rfl ?_
    refine r_iconst 3 rfl ci_3 ?_
    refine r_icmp_gt (tgt := 220) rfl (by decide) (fun hc1 => ?_) (fun hc1 => ?_)
    · have hE := ifP hc1 hE
      refine r_aload_n (t := some a0) 0 rfl rfl rfl ?_
      refine r_bipush 59 rfl cb_59 ?_
      obtain ⟨hk2, hE⟩ := ckE hE
      obtain ⟨v3, h4, hq5, hE⟩ := bdE hE
      refine r_callV0 (rest := []) (hc := (Re_sign_ok g N _ _ _ _ _ hq5 D2 (by omega))) rfl pm_Re_sign lw_4_59 im_Re_sign sl_Re_sign rfl rfl rfl (rcOK hk2 rfl) (by decide) ?_
      refine r_aload_n (t := some a0) 0 rfl rfl rfl ?_
      refine r_iload_n 1 rfl rfl rfl ?_
      refine r_iload_n 2 rfl rfl rfl ?_
      obtain ⟨hk6, hE⟩ := ckE hE
      obtain ⟨v7, h8, hq9, hE⟩ := bdE hE
      refine r_callV0 (rest := []) (hc := (Re_markCalled_ok g N _ _ _ _ _ _ hq9 D2 (by omega))) rfl pm_Re_markCalled lw_4_162 im_Re_markCalled sl_Re_markCalled rfl rfl rfl (rcOK hk6 rfl) (by decide) ?_
      cases hE
      exact r_ret rfl (Or.inr (Or.inr (Or.inr ⟨rfl, rfl, rfl, rfl⟩)))
    · have hE := ifN hc1 hE
      refine r_iload rfl rfl ?_
      refine r_iconst 3 rfl ci_3 ?_
      refine r_icmp_ne (tgt := 166) rfl (by decide) (fun hc10 => ?_) (fun hc10 => ?_)
      · have hE := ifP hc10 hE
        refine r_aload_n (t := some a0) 0 rfl rfl rfl ?_
        obtain ⟨hk11, hE⟩ := ckE hE
        refine r_getR rfl (fl_4_26 rfl) (Or.inl ⟨_, rfl⟩) rfl hk11 ?_
        refine r_iconst 0 rfl ci_0 ?_
        refine r_bipush 10 rfl cb_10 ?_
        obtain ⟨a_12, ha13, hE⟩ := bnE hE
        obtain ⟨hk14, hE⟩ := ckE hE
        obtain ⟨v15, h16, hq17, hE⟩ := bdE hE
        refine r_callV1 (rest := []) (hc := (Ta_isNumber_ok g N _ _ _ _ _ _ hq17 D2 (by omega))) rfl pm_Ta_isNumber lw_4_150 im_Ta_isNumber sl_Ta_isNumber ha13 rfl rfl (rcOK hk14 rfl) (by decide) ?_
        refine r_if_eq (tgt := 166) rfl (by decide) (fun hc18 => ?_) (fun hc18 => ?_)
        · have hE := ifP hc18 hE
          first | exact r_sb (Re_callsLine_b166_ok g N _ hD _ ih  _ _ _ _ _ _ _ _ hE) ⟨rfl, rfl, rfl, rfl, rfl, trivial⟩ | exact r_sb (Re_callsLine_b166_ok g N _ hD _ ih  _ _ _ _ _ _ _ _ hE) (by simp only [su1, su2, dr1_rf, dr1_in, dr1_lo, dr2_rf, dr2_in, dr2_lo]; exact ⟨rfl, rfl, rfl, rfl, rfl, trivial⟩)
        · have hE := ifN hc18 hE
          refine r_iload_n 3 rfl rfl rfl ?_
          refine r_aload_n (t := some a0) 0 rfl rfl rfl ?_
          obtain ⟨hk19, hE⟩ := ckE hE
          refine r_getR rfl (fl_4_26 rfl) (Or.inl ⟨_, rfl⟩) rfl hk19 ?_
          obtain ⟨a_20, ha21, hE⟩ := bnE hE
          obtain ⟨hk22, hE⟩ := ckE hE
          refine r_getI rfl (fl_4_154 rfl) (Or.inl rfl) ha21 hk22 ?_
          refine r_iadd rfl ?_
          refine r_bipush 10 rfl cb_10 ?_
          refine r_icmp_eq (tgt := 166) rfl (by decide) (fun hc23 => ?_) (fun hc23 => ?_)
          · have hE := ifP hc23 hE
            first | exact r_sb (Re_callsLine_b166_ok g N _ hD _ ih  _ _ _ _ _ _ _ _ hE) ⟨rfl, rfl, rfl, rfl, rfl, trivial⟩ | exact r_sb (Re_callsLine_b166_ok g N _ hD _ ih  _ _ _ _ _ _ _ _ hE) (by simp only [su1, su2, dr1_rf, dr1_in, dr1_lo, dr2_rf, dr2_in, dr2_lo]; exact ⟨rfl, rfl, rfl, rfl, rfl, trivial⟩)
          · have hE := ifN hc23 hE
            refine r_aload_n (t := some a0) 0 rfl rfl rfl ?_
            refine r_getR rfl (fl_4_26 rfl) (Or.inl ⟨_, rfl⟩) rfl hk19 ?_
            refine r_iconst 4 rfl ci_4 ?_
            obtain ⟨v24, h25, hq26, hE⟩ := bdE hE
            refine r_callV0 (rest := []) (hc := (Ta_blame_ok g N _ _ _ _ _ hq26 D2 (by omega))) rfl pm_Ta_blame lw_4_89 im_Ta_blame sl_Ta_blame ha21 rfl rfl (rcOK hk22 rfl) (by decide) ?_
            first | exact r_sb (Re_callsLine_b166_ok g N _ hD _ ih  _ _ _ _ _ _ _ _ hE) ⟨rfl, rfl, rfl, rfl, rfl, trivial⟩ | exact r_sb (Re_callsLine_b166_ok g N _ hD _ ih  _ _ _ _ _ _ _ _ hE) (by simp only [su1, su2, dr1_rf, dr1_in, dr1_lo, dr2_rf, dr2_in, dr2_lo]; exact ⟨rfl, rfl, rfl, rfl, rfl, trivial⟩)
      · have hE := ifN hc10 hE
        first | exact r_sb (Re_callsLine_b166_ok g N _ hD _ ih  _ _ _ _ _ _ _ _ hE) ⟨rfl, rfl, rfl, rfl, rfl, trivial⟩ | exact r_sb (Re_callsLine_b166_ok g N _ hD _ ih  _ _ _ _ _ _ _ _ hE) (by simp only [su1, su2, dr1_rf, dr1_in, dr1_lo, dr2_rf, dr2_in, dr2_lo]; exact ⟨rfl, rfl, rfl, rfl, rfl, trivial⟩)
def Re_callsLine_b99 (N : Nat) (a0 : Nat) (x1 : Int32) (h : PH) : Option (Unit × PH) :=
  ck ((hK h a0).1 = 4) <|
  ((hR h a0 1)).bind fun a_2 =>
  ck ((hK h a_2).1 = 0) <|
  bd (Re_number N a0 x1 ((hI h a_2 0) - 1) h) fun v5 h6 =>
  Re_callsLine_b119 N N a0 x1 v5 0 0 h6
set_option maxRecDepth 20000 in
theorem Re_callsLine_b99_ok (g : GT) (N : Nat) (D : Nat) (hD : 6 ≤ D) : ∀ (a0 : Nat) (x1 : Int32) (h : PH) (v : Unit) (h' : PH), Re_callsLine_b99 N a0 x1 h = some (v, h') → Run g pRe_callsLine D 99 [(0, va_rf (some a0)), (1, .int x1)] [] h (rV v) h' := by
  obtain ⟨D2, rfl⟩ : ∃ d, D = d + 1 := ⟨D - 1, by omega⟩
  intro a0 x1 h v h' hE
  unfold Re_callsLine_b99 at hE
  refine r_aload_n (t := some a0) 0 rfl rfl rfl ?_
  refine r_iload_n 1 rfl rfl rfl ?_
  refine r_aload_n (t := some a0) 0 rfl rfl rfl ?_
  obtain ⟨hk1, hE⟩ := ckE hE
  refine r_getR rfl (fl_4_30 rfl) (Or.inl ⟨_, rfl⟩) rfl hk1 ?_
  obtain ⟨a_2, ha3, hE⟩ := bnE hE
  obtain ⟨hk4, hE⟩ := ckE hE
  refine r_getI rfl (fl_4_56 rfl) (Or.inl rfl) ha3 hk4 ?_
  refine r_iconst 1 rfl ci_1 ?_
  refine r_isub rfl ?_
  obtain ⟨v5, h6, hq7, hE⟩ := bdE hE
  refine r_callV1 (rest := []) (hc := (Re_number_ok g N _ _ _ _ _ _ hq7 D2 (by omega))) rfl pm_Re_number lw_4_52 im_Re_number sl_Re_number rfl rfl rfl (rcOK hk1 rfl) (by decide) ?_
  refine r_istore_n 2 rfl rfl (by decide) ?_
  refine r_iconst 0 rfl ci_0 ?_
  refine r_istore_n 3 rfl rfl (by decide) ?_
  refine r_iconst 0 rfl ci_0 ?_
  refine r_istore rfl (by decide) ?_
  first | exact r_sb (Re_callsLine_b119_ok g N _ hD  N _ _ _ _ _ _ _ _ hE) ⟨rfl, rfl, rfl, rfl, rfl, trivial⟩ | exact r_sb (Re_callsLine_b119_ok g N _ hD  N _ _ _ _ _ _ _ _ hE) (by simp only [su1, su2, dr1_rf, dr1_in, dr1_lo, dr2_rf, dr2_in, dr2_lo]; exact ⟨rfl, rfl, rfl, rfl, rfl, trivial⟩)
def Re_callsLine (N : Nat) (a0 : Nat) (h : PH) : Option (Unit × PH) :=
  ck ((hK h a0).1 = 4) <|
  if (hI h a0 6) < 8 then
    lt0 (wI h a0 6 ((hI h a0 6) + 1)) fun h3 =>
    ((hR h3 a0 0)).bind fun a_5 =>
    ck ((hK h3 a_5).1 = 8) <|
    bd (Ta_step N a_5 h3) fun v8 h9 =>
    ck ((hK h9 a0).1 = 4) <|
    ((hR h9 a0 1)).bind fun a_12 =>
    ck ((hK h9 a_12).1 = 0) <|
    bd (Re_number N a0 0 ((hI h9 a_12 0) - 1) h9) fun v15 h16 =>
    ck ((hK h16 a0).1 = 4) <|
    bd (Re_keyword N a0 15 h16) fun v19 h20 =>
    ck ((hK h20 a0).1 = 4) <|
    ((hR h20 a0 1)).bind fun a_23 =>
    ck ((hK h20 a_23).1 = 0) <|
    ((hR h20 a0 0)).bind fun a_26 =>
    ck ((hK h20 a_26).1 = 8) <|
    bd (Ta_isNumber N a_26 v15 ((hI h20 a_23 0) - 1) h20) fun v29 h30 =>
    if (bI v29) = 0 then
      Re_callsLine_b99 N  a0 v15 h30
    else
      ck ((hK h30 a0).1 = 4) <|
      ((hR h30 a0 0)).bind fun a_34 =>
      ck ((hK h30 a_34).1 = 8) <|
      bd (Re_isCalled N a0 v15 (hI h30 a_34 5) h30) fun v37 h38 =>
      if (bI v37) = 0 then
        Re_callsLine_b99 N  a0 v15 h38
      else
        ck ((hK h38 a0).1 = 4) <|
        ((hR h38 a0 0)).bind fun a_42 =>
        ck ((hK h38 a_42).1 = 8) <|
        bd (Ta_blame N a_42 3 h38) fun v45 h46 =>
        Re_callsLine_b99 N  a0 v15 h46
  else
    ((hR h a0 0)).bind fun a_48 =>
    ck ((hK h a_48).1 = 8) <|
    bd (Ta_blame N a_48 5 h) fun v51 h52 =>
    some ((), h52)
set_option maxRecDepth 20000 in
theorem Re_callsLine_ok (g : GT) (N : Nat) (a0 : Nat) (h : PH) (v : Unit) (h' : PH) (hE : Re_callsLine N a0 h = some (v, h')) (D : Nat) (hD : 6 ≤ D) : Calls g D pRe_callsLine [va_rf (some a0)] h (oV v) h' := by
  refine Calls.of cok_Re_callsLine ht_Re_callsLine pl_Re_callsLine (fun ad => by rw [lg_len, sL_cat]; simp only [List.map_cons, List.map_nil, rf_cat, cat_i, cat_l, List.sum_cons, List.sum_nil]; decide) ?_
  rw [show lv_args 0 [va_rf (some a0)] = [(0, va_rf (some a0))] from (by simp only [lv_args, rf_cat, cat_i, cat_l]; try rfl)]
  obtain ⟨D2, rfl⟩ : ∃ d, D = d + 1 := ⟨D - 1, by omega⟩
  unfold Re_callsLine at hE
  refine r_aload_n (t := some a0) 0 rfl rfl rfl ?_
  obtain ⟨hk1, hE⟩ := ckE hE
  refine r_getI rfl (fl_4_22 rfl) (Or.inl rfl) rfl hk1 ?_
  refine r_bipush 8 rfl cb_8 ?_
  refine r_icmp_lt (tgt := 18) rfl (by decide) (fun hc2 => ?_) (fun hc2 => ?_)
  · have hE := ifP hc2 hE
    refine r_aload_n (t := some a0) 0 rfl rfl rfl ?_
    refine r_dup rfl (rf_cat _) ?_
    refine r_getI rfl (fl_4_22 rfl) (Or.inl rfl) rfl hk1 ?_
    refine r_iconst 1 rfl ci_1 ?_
    refine r_iadd rfl ?_
    obtain ⟨h3, he4, hE⟩ := ltE hE
    refine r_putI rfl (fl_4_22 rfl) finF rfl hk1 he4 ?_
    refine r_aload_n (t := some a0) 0 rfl rfl rfl ?_
    refine r_getR rfl (fl_4_26 rfl) (Or.inl ⟨_, rfl⟩) rfl (kwI he4 hk1) ?_
    obtain ⟨a_5, ha6, hE⟩ := bnE hE
    obtain ⟨hk7, hE⟩ := ckE hE
    obtain ⟨v8, h9, hq10, hE⟩ := bdE hE
    refine r_callV0 (rest := []) (hc := (Ta_step_ok g N _ _ _ _ hq10 D2 (by omega))) rfl pm_Ta_step lw_4_92 im_Ta_step sl_Ta_step ha6 rfl rfl (rcOK hk7 rfl) (by decide) ?_
    refine r_aload_n (t := some a0) 0 rfl rfl rfl ?_
    refine r_iconst 0 rfl ci_0 ?_
    refine r_aload_n (t := some a0) 0 rfl rfl rfl ?_
    obtain ⟨hk11, hE⟩ := ckE hE
    refine r_getR rfl (fl_4_30 rfl) (Or.inl ⟨_, rfl⟩) rfl hk11 ?_
    obtain ⟨a_12, ha13, hE⟩ := bnE hE
    obtain ⟨hk14, hE⟩ := ckE hE
    refine r_getI rfl (fl_4_56 rfl) (Or.inl rfl) ha13 hk14 ?_
    refine r_iconst 1 rfl ci_1 ?_
    refine r_isub rfl ?_
    obtain ⟨v15, h16, hq17, hE⟩ := bdE hE
    refine r_callV1 (rest := []) (hc := (Re_number_ok g N _ _ _ _ _ _ hq17 D2 (by omega))) rfl pm_Re_number lw_4_52 im_Re_number sl_Re_number rfl rfl rfl (rcOK hk11 rfl) (by decide) ?_
    refine r_istore_n 1 rfl rfl (by decide) ?_
    refine r_aload_n (t := some a0) 0 rfl rfl rfl ?_
    refine r_bipush 15 rfl cb_15 ?_
    obtain ⟨hk18, hE⟩ := ckE hE
    obtain ⟨v19, h20, hq21, hE⟩ := bdE hE
    refine r_callV0 (rest := []) (hc := (Re_keyword_ok g N _ _ _ _ _ hq21 D2 (by omega))) rfl pm_Re_keyword lw_4_48 im_Re_keyword sl_Re_keyword rfl rfl rfl (rcOK hk18 rfl) (by decide) ?_
    refine r_aload_n (t := some a0) 0 rfl rfl rfl ?_
    obtain ⟨hk22, hE⟩ := ckE hE
    refine r_getR rfl (fl_4_26 rfl) (Or.inl ⟨_, rfl⟩) rfl hk22 ?_
    refine r_iload_n 1 rfl rfl rfl ?_
    refine r_aload_n (t := some a0) 0 rfl rfl rfl ?_
    refine r_getR rfl (fl_4_30 rfl) (Or.inl ⟨_, rfl⟩) rfl hk22 ?_
    obtain ⟨a_23, ha24, hE⟩ := bnE hE
    obtain ⟨hk25, hE⟩ := ckE hE
    refine r_getI rfl (fl_4_56 rfl) (Or.inl rfl) ha24 hk25 ?_
    refine r_iconst 1 rfl ci_1 ?_
    refine r_isub rfl ?_
    obtain ⟨a_26, ha27, hE⟩ := bnE hE
    obtain ⟨hk28, hE⟩ := ckE hE
    obtain ⟨v29, h30, hq31, hE⟩ := bdE hE
    refine r_callV1 (rest := []) (hc := (Ta_isNumber_ok g N _ _ _ _ _ _ hq31 D2 (by omega))) rfl pm_Ta_isNumber lw_4_150 im_Ta_isNumber sl_Ta_isNumber ha27 rfl rfl (rcOK hk28 rfl) (by decide) ?_
    refine r_if_eq (tgt := 99) rfl (by decide) (fun hc32 => ?_) (fun hc32 => ?_)
    · have hE := ifP hc32 hE
      first | exact r_sb (Re_callsLine_b99_ok g N _ hD   _ _ _ _ _ hE) ⟨rfl, rfl, trivial⟩ | exact r_sb (Re_callsLine_b99_ok g N _ hD   _ _ _ _ _ hE) (by simp only [su1, su2, dr1_rf, dr1_in, dr1_lo, dr2_rf, dr2_in, dr2_lo]; exact ⟨rfl, rfl, trivial⟩)
    · have hE := ifN hc32 hE
      refine r_aload_n (t := some a0) 0 rfl rfl rfl ?_
      refine r_iload_n 1 rfl rfl rfl ?_
      refine r_aload_n (t := some a0) 0 rfl rfl rfl ?_
      obtain ⟨hk33, hE⟩ := ckE hE
      refine r_getR rfl (fl_4_26 rfl) (Or.inl ⟨_, rfl⟩) rfl hk33 ?_
      obtain ⟨a_34, ha35, hE⟩ := bnE hE
      obtain ⟨hk36, hE⟩ := ckE hE
      refine r_getI rfl (fl_4_154 rfl) (Or.inl rfl) ha35 hk36 ?_
      obtain ⟨v37, h38, hq39, hE⟩ := bdE hE
      refine r_callV1 (rest := []) (hc := (Re_isCalled_ok g N _ _ _ _ _ _ hq39 D2 (by omega))) rfl pm_Re_isCalled lw_4_156 im_Re_isCalled sl_Re_isCalled rfl rfl rfl (rcOK hk33 rfl) (by decide) ?_
      refine r_if_eq (tgt := 99) rfl (by decide) (fun hc40 => ?_) (fun hc40 => ?_)
      · have hE := ifP hc40 hE
        first | exact r_sb (Re_callsLine_b99_ok g N _ hD   _ _ _ _ _ hE) ⟨rfl, rfl, trivial⟩ | exact r_sb (Re_callsLine_b99_ok g N _ hD   _ _ _ _ _ hE) (by simp only [su1, su2, dr1_rf, dr1_in, dr1_lo, dr2_rf, dr2_in, dr2_lo]; exact ⟨rfl, rfl, trivial⟩)
      · have hE := ifN hc40 hE
        refine r_aload_n (t := some a0) 0 rfl rfl rfl ?_
        obtain ⟨hk41, hE⟩ := ckE hE
        refine r_getR rfl (fl_4_26 rfl) (Or.inl ⟨_, rfl⟩) rfl hk41 ?_
        refine r_iconst 3 rfl ci_3 ?_
        obtain ⟨a_42, ha43, hE⟩ := bnE hE
        obtain ⟨hk44, hE⟩ := ckE hE
        obtain ⟨v45, h46, hq47, hE⟩ := bdE hE
        refine r_callV0 (rest := []) (hc := (Ta_blame_ok g N _ _ _ _ _ hq47 D2 (by omega))) rfl pm_Ta_blame lw_4_89 im_Ta_blame sl_Ta_blame ha43 rfl rfl (rcOK hk44 rfl) (by decide) ?_
        first | exact r_sb (Re_callsLine_b99_ok g N _ hD   _ _ _ _ _ hE) ⟨rfl, rfl, trivial⟩ | exact r_sb (Re_callsLine_b99_ok g N _ hD   _ _ _ _ _ hE) (by simp only [su1, su2, dr1_rf, dr1_in, dr1_lo, dr2_rf, dr2_in, dr2_lo]; exact ⟨rfl, rfl, trivial⟩)
  · have hE := ifN hc2 hE
    refine r_aload_n (t := some a0) 0 rfl rfl rfl ?_
    refine r_getR rfl (fl_4_26 rfl) (Or.inl ⟨_, rfl⟩) rfl hk1 ?_
    refine r_iconst 5 rfl ci_5 ?_
    obtain ⟨a_48, ha49, hE⟩ := bnE hE
    obtain ⟨hk50, hE⟩ := ckE hE
    obtain ⟨v51, h52, hq53, hE⟩ := bdE hE
    refine r_callV0 (rest := []) (hc := (Ta_blame_ok g N _ _ _ _ _ hq53 D2 (by omega))) rfl pm_Ta_blame lw_4_89 im_Ta_blame sl_Ta_blame ha49 rfl rfl (rcOK hk50 rfl) (by decide) ?_
    cases hE
    exact r_ret rfl (Or.inr (Or.inr (Or.inr ⟨rfl, rfl, rfl, rfl⟩)))
def Re_isNamed_b2 (N : Nat) : Nat → Nat → Int64 → Int32 → PH → Option (Bool × PH)
  | 0 => fun _ _ _ _ => none
  | n + 1 => fun a0 x1 x3 h =>
    ck ((hK h a0).1 = 4) <|
    ((hR h a0 1)).bind fun a_2 =>
    ck ((hK h a_2).1 = 0) <|
    if (hI h a_2 12) ≤ x3 then
      some (false, h)
    else
      ((hR h a0 3)).bind fun a_6 =>
      ck ((hK h a_6).1 = 23) <|
      if (Int32.ofNat (hK h a_6).2) ≤ x3 then
        some (false, h)
      else
        ck (inb x3 (hK h a_6).2 = true) <|
        if (lg_cmp (hJ h a_6 (ix x3)) x1) = 0 then
          some (true, h)
        else
          (Re_isNamed_b2 N n) a0 x1 (x3 + 1) h
set_option maxRecDepth 20000 in
theorem Re_isNamed_b2_ok (g : GT) (N : Nat) (D : Nat) (hD : 0 ≤ D) : ∀ (n : Nat) (a0 : Nat) (x1 : Int64) (x3 : Int32) (h : PH) (v : Bool) (h' : PH), Re_isNamed_b2 N n a0 x1 x3 h = some (v, h') → Run g pRe_isNamed D 2 [(0, va_rf (some a0)), (1, .long x1), (3, .int x3)] [] h (rZ v) h' := by
  intro n
  induction n with
  | zero => exact fun _ _ _ _ _ _ hE => nomatch (show none = some _ from hE)
  | succ n ih =>
    intro a0 x1 x3 h v h' hE
    unfold Re_isNamed_b2 at hE
    refine r_iload_n 3 rfl rfl rfl ?_
    refine r_aload_n (t := some a0) 0 rfl rfl rfl ?_
    obtain ⟨hk1, hE⟩ := ckE hE
    refine r_getR rfl (fl_4_30 rfl) (Or.inl ⟨_, rfl⟩) rfl hk1 ?_
    obtain ⟨a_2, ha3, hE⟩ := bnE hE
    obtain ⟨hk4, hE⟩ := ckE hE
    refine r_getI rfl (fl_4_165 rfl) (Or.inl rfl) ha3 hk4 ?_
    refine r_icmp_ge (tgt := 41) rfl (by decide) (fun hc5 => ?_) (fun hc5 => ?_)
    · have hE := ifP hc5 hE
      refine r_iconst 0 rfl ci_0 ?_
      cases hE
      exact r_ret rfl (Or.inl ⟨rfl, _, _, rfl, rfl, rfl, rfl⟩)
    · have hE := ifN hc5 hE
      refine r_iload_n 3 rfl rfl rfl ?_
      refine r_aload_n (t := some a0) 0 rfl rfl rfl ?_
      refine r_getR rfl (fl_4_9 rfl) (Or.inr ⟨_, rfl⟩) rfl hk1 ?_
      obtain ⟨a_6, ha7, hE⟩ := bnE hE
      obtain ⟨hk8, hE⟩ := ckE hE
      refine r_alen (kd := 23) rfl (by decide) (by decide) ha7 hk8 ?_
      refine r_icmp_ge (tgt := 41) rfl (by decide) (fun hc9 => ?_) (fun hc9 => ?_)
      · have hE := ifP hc9 hE
        refine r_iconst 0 rfl ci_0 ?_
        cases hE
        exact r_ret rfl (Or.inl ⟨rfl, _, _, rfl, rfl, rfl, rfl⟩)
      · have hE := ifN hc9 hE
        refine r_aload_n (t := some a0) 0 rfl rfl rfl ?_
        refine r_getR rfl (fl_4_9 rfl) (Or.inr ⟨_, rfl⟩) rfl hk1 ?_
        refine r_iload_n 3 rfl rfl rfl ?_
        obtain ⟨hi10, hE⟩ := ckE hE
        refine r_lald rfl ha7 hk8 hi10 ?_
        refine r_lload_n 1 rfl rfl rfl ?_
        refine r_lcmp rfl ?_
        refine r_if_ne (tgt := 35) rfl (by decide) (fun hc11 => ?_) (fun hc11 => ?_)
        · have hE := ifP hc11 hE
          refine r_iconst 1 rfl ci_1 ?_
          cases hE
          exact r_ret rfl (Or.inl ⟨rfl, _, _, rfl, rfl, rfl, rfl⟩)
        · have hE := ifN hc11 hE
          refine r_iinc _ rfl rfl (congrArg _ ci_1) (by decide) ?_
          refine r_goto (tgt := 2) rfl (by decide) ?_
          first | exact r_sb (ih _ _ _ _ _ _ hE) ⟨rfl, rfl, rfl, trivial⟩ | exact r_sb (ih _ _ _ _ _ _ hE) (by simp only [su1, su2, dr1_rf, dr1_in, dr1_lo, dr2_rf, dr2_in, dr2_lo]; exact ⟨rfl, rfl, rfl, trivial⟩)
def Re_isNamed (N : Nat) (a0 : Nat) (x1 : Int64) (h : PH) : Option (Bool × PH) :=
  Re_isNamed_b2 N N a0 x1 0 h
set_option maxRecDepth 20000 in
theorem Re_isNamed_ok (g : GT) (N : Nat) (a0 : Nat) (x1 : Int64) (h : PH) (v : Bool) (h' : PH) (hE : Re_isNamed N a0 x1 h = some (v, h')) (D : Nat) (hD : 0 ≤ D) : Calls g D pRe_isNamed [va_rf (some a0), .long x1] h (oZ v) h' := by
  refine Calls.of cok_Re_isNamed ht_Re_isNamed pl_Re_isNamed (fun ad => by rw [lg_len, sL_cat]; simp only [List.map_cons, List.map_nil, rf_cat, cat_i, cat_l, List.sum_cons, List.sum_nil]; decide) ?_
  rw [show lv_args 0 [va_rf (some a0), .long x1] = [(0, va_rf (some a0)), (1, .long x1)] from (by simp only [lv_args, rf_cat, cat_i, cat_l]; try rfl)]
  unfold Re_isNamed at hE
  refine r_iconst 0 rfl ci_0 ?_
  refine r_istore_n 3 rfl rfl (by decide) ?_
  first | exact r_sb (Re_isNamed_b2_ok g N _ hD  N _ _ _ _ _ _ hE) ⟨rfl, rfl, rfl, trivial⟩ | exact r_sb (Re_isNamed_b2_ok g N _ hD  N _ _ _ _ _ _ hE) (by simp only [su1, su2, dr1_rf, dr1_in, dr1_lo, dr2_rf, dr2_in, dr2_lo]; exact ⟨rfl, rfl, rfl, trivial⟩)
def Re_product_b7 (N : Nat) (rec : Nat → Int32 → PH → Option (Unit × PH)) : Nat → Nat → Int32 → Int32 → PH → Option (Unit × PH)
  | 0 => fun _ _ _ _ => none
  | n + 1 => fun a0 x1 x2 h =>
    if 1000 ≤ x2 then
      some ((), h)
    else
      ck ((hK h a0).1 = 4) <|
      bd (Re_hasMore N a0 h) fun v3 h4 =>
      if (bI v3) = 0 then
        some ((), h4)
      else
        ck ((hK h4 a0).1 = 4) <|
        ((hR h4 a0 0)).bind fun a_8 =>
        ck ((hK h4 a_8).1 = 8) <|
        if (hI h4 a_8 2) = 42 then
          bd (Ta_step N a_8 h4) fun v12 h13 =>
          ck ((hK h13 a0).1 = 4) <|
          bd (rec a0 x1 h13) fun v16 h17 =>
          ck ((hK h17 a0).1 = 4) <|
          ((hR h17 a0 1)).bind fun a_20 =>
          ck ((hK h17 a_20).1 = 0) <|
          bd (Ho_write N a_20 (-13) h17) fun v23 h24 =>
          (Re_product_b7 N rec n) a0 x1 (x2 + 1) h24
        else
          some ((), h4)
set_option maxRecDepth 20000 in
theorem Re_product_b7_ok (g : GT) (N : Nat) (rec : Nat → Int32 → PH → Option (Unit × PH)) (K0 : Nat) (hrec : ∀ (a0 : Nat) (x1 : Int32) (h : PH) (v : Unit) (h' : PH), rec a0 x1 h = some (v, h') → ∀ D, K0 ≤ D → Calls g D pRe_part [va_rf (some a0), .int x1] h (oV v) h') (D : Nat) (hD : 5 ≤ D ∧ K0 + 1 ≤ D) : ∀ (n : Nat) (a0 : Nat) (x1 : Int32) (x2 : Int32) (h : PH) (v : Unit) (h' : PH), Re_product_b7 N rec n a0 x1 x2 h = some (v, h') → Run g pRe_product D 7 [(0, va_rf (some a0)), (1, .int x1), (2, .int x2)] [] h (rV v) h' := by
  obtain ⟨D2, rfl⟩ : ∃ d, D = d + 1 := ⟨D - 1, by omega⟩
  intro n
  induction n with
  | zero => exact fun _ _ _ _ _ _ hE => nomatch (show none = some _ from hE)
  | succ n ih =>
    intro a0 x1 x2 h v h' hE
    unfold Re_product_b7 at hE
    refine r_iload_n 2 rfl rfl rfl ?_
    refine r_sipush 1000 rfl cs_1000 ?_
    refine r_icmp_ge (tgt := 60) rfl (by decide) (fun hc1 => ?_) (fun hc1 => ?_)
    · have hE := ifP hc1 hE
      cases hE
      exact r_ret rfl (Or.inr (Or.inr (Or.inr ⟨rfl, rfl, rfl, rfl⟩)))
    · have hE := ifN hc1 hE
      refine r_aload_n (t := some a0) 0 rfl rfl rfl ?_
      obtain ⟨hk2, hE⟩ := ckE hE
      obtain ⟨v3, h4, hq5, hE⟩ := bdE hE
      refine r_callV1 (rest := []) (hc := (Re_hasMore_ok g N _ _ _ _ hq5 D2 (by omega))) rfl pm_Re_hasMore lw_4_62 im_Re_hasMore sl_Re_hasMore rfl rfl rfl (rcOK hk2 rfl) (by decide) ?_
      refine r_if_eq (tgt := 60) rfl (by decide) (fun hc6 => ?_) (fun hc6 => ?_)
      · have hE := ifP hc6 hE
        cases hE
        exact r_ret rfl (Or.inr (Or.inr (Or.inr ⟨rfl, rfl, rfl, rfl⟩)))
      · have hE := ifN hc6 hE
        refine r_aload_n (t := some a0) 0 rfl rfl rfl ?_
        obtain ⟨hk7, hE⟩ := ckE hE
        refine r_getR rfl (fl_4_26 rfl) (Or.inl ⟨_, rfl⟩) rfl hk7 ?_
        obtain ⟨a_8, ha9, hE⟩ := bnE hE
        obtain ⟨hk10, hE⟩ := ckE hE
        refine r_getI rfl (fl_4_83 rfl) (Or.inl rfl) ha9 hk10 ?_
        refine r_bipush 42 rfl cb_42 ?_
        refine r_icmp_ne (tgt := 60) rfl (by decide) (fun hc11 => ?_) (fun hc11 => ?_)
        · have hE := ifP hc11 hE
          refine r_aload_n (t := some a0) 0 rfl rfl rfl ?_
          refine r_getR rfl (fl_4_26 rfl) (Or.inl ⟨_, rfl⟩) rfl hk7 ?_
          obtain ⟨v12, h13, hq14, hE⟩ := bdE hE
          refine r_callV0 (rest := []) (hc := (Ta_step_ok g N _ _ _ _ hq14 D2 (by omega))) rfl pm_Ta_step lw_4_92 im_Ta_step sl_Ta_step ha9 rfl rfl (rcOK hk10 rfl) (by decide) ?_
          refine r_aload_n (t := some a0) 0 rfl rfl rfl ?_
          refine r_iload_n 1 rfl rfl rfl ?_
          obtain ⟨hk15, hE⟩ := ckE hE
          obtain ⟨v16, h17, hq18, hE⟩ := bdE hE
          refine r_callV0 (rest := []) (hc := (hrec _ _ _ _ _ hq18 D2 (by omega))) rfl pm_Re_part lw_4_198 im_Re_part sl_Re_part rfl rfl rfl (rcOK hk15 rfl) (by decide) ?_
          refine r_aload_n (t := some a0) 0 rfl rfl rfl ?_
          obtain ⟨hk19, hE⟩ := ckE hE
          refine r_getR rfl (fl_4_30 rfl) (Or.inl ⟨_, rfl⟩) rfl hk19 ?_
          refine r_bipush (-13) rfl cb_m13 ?_
          obtain ⟨a_20, ha21, hE⟩ := bnE hE
          obtain ⟨hk22, hE⟩ := ckE hE
          obtain ⟨v23, h24, hq25, hE⟩ := bdE hE
          refine r_callV0 (rest := []) (hc := (Ho_write_ok g N _ _ _ _ _ hq25 D2 (by omega))) rfl pm_Ho_write lw_4_189 im_Ho_write sl_Ho_write ha21 rfl rfl (rcOK hk22 rfl) (by decide) ?_
          refine r_iinc _ rfl rfl (congrArg _ ci_1) (by decide) ?_
          refine r_goto (tgt := 7) rfl (by decide) ?_
          first | exact r_sb (ih _ _ _ _ _ _ hE) ⟨rfl, rfl, rfl, trivial⟩ | exact r_sb (ih _ _ _ _ _ _ hE) (by simp only [su1, su2, dr1_rf, dr1_in, dr1_lo, dr2_rf, dr2_in, dr2_lo]; exact ⟨rfl, rfl, rfl, trivial⟩)
        · have hE := ifN hc11 hE
          cases hE
          exact r_ret rfl (Or.inr (Or.inr (Or.inr ⟨rfl, rfl, rfl, rfl⟩)))
def Re_product (N : Nat) (rec : Nat → Int32 → PH → Option (Unit × PH)) (a0 : Nat) (x1 : Int32) (h : PH) : Option (Unit × PH) :=
  ck ((hK h a0).1 = 4) <|
  bd (rec a0 x1 h) fun v2 h3 =>
  Re_product_b7 N rec N a0 x1 0 h3
set_option maxRecDepth 20000 in
theorem Re_product_ok (g : GT) (N : Nat) (rec : Nat → Int32 → PH → Option (Unit × PH)) (K0 : Nat) (hrec : ∀ (a0 : Nat) (x1 : Int32) (h : PH) (v : Unit) (h' : PH), rec a0 x1 h = some (v, h') → ∀ D, K0 ≤ D → Calls g D pRe_part [va_rf (some a0), .int x1] h (oV v) h') (a0 : Nat) (x1 : Int32) (h : PH) (v : Unit) (h' : PH) (hE : Re_product N rec a0 x1 h = some (v, h')) (D : Nat) (hD : 5 ≤ D ∧ K0 + 1 ≤ D) : Calls g D pRe_product [va_rf (some a0), .int x1] h (oV v) h' := by
  refine Calls.of cok_Re_product ht_Re_product pl_Re_product (fun ad => by rw [lg_len, sL_cat]; simp only [List.map_cons, List.map_nil, rf_cat, cat_i, cat_l, List.sum_cons, List.sum_nil]; decide) ?_
  rw [show lv_args 0 [va_rf (some a0), .int x1] = [(0, va_rf (some a0)), (1, .int x1)] from (by simp only [lv_args, rf_cat, cat_i, cat_l]; try rfl)]
  obtain ⟨D2, rfl⟩ : ∃ d, D = d + 1 := ⟨D - 1, by omega⟩
  unfold Re_product at hE
  refine r_aload_n (t := some a0) 0 rfl rfl rfl ?_
  refine r_iload_n 1 rfl rfl rfl ?_
  obtain ⟨hk1, hE⟩ := ckE hE
  obtain ⟨v2, h3, hq4, hE⟩ := bdE hE
  refine r_callV0 (rest := []) (hc := (hrec _ _ _ _ _ hq4 D2 (by omega))) rfl pm_Re_part lw_4_198 im_Re_part sl_Re_part rfl rfl rfl (rcOK hk1 rfl) (by decide) ?_
  refine r_iconst 0 rfl ci_0 ?_
  refine r_istore_n 2 rfl rfl (by decide) ?_
  first | exact r_sb (Re_product_b7_ok g N _ _ hrec _ hD  N _ _ _ _ _ _ hE) ⟨rfl, rfl, rfl, trivial⟩ | exact r_sb (Re_product_b7_ok g N _ _ hrec _ hD  N _ _ _ _ _ _ hE) (by simp only [su1, su2, dr1_rf, dr1_in, dr1_lo, dr2_rf, dr2_in, dr2_lo]; exact ⟨rfl, rfl, rfl, trivial⟩)
def Re_sum_b64 (N : Nat) (rec : Nat → Int32 → PH → Option (Unit × PH)) (self_7 : Nat → Int32 → Int32 → PH → Option (Unit × PH)) (s0 : Int32) (a0 : Nat) (x1 : Int32) (x2 : Int32) (h : PH) : Option (Unit × PH) :=
  ck ((hK h a0).1 = 4) <|
  ((hR h a0 0)).bind fun a_2 =>
  ck ((hK h a_2).1 = 8) <|
  bd (Ta_step N a_2 h) fun v5 h6 =>
  ck ((hK h6 a0).1 = 4) <|
  bd ((Re_product N rec) a0 x1 h6) fun v9 h10 =>
  ck ((hK h10 a0).1 = 4) <|
  ((hR h10 a0 1)).bind fun a_13 =>
  ck ((hK h10 a_13).1 = 0) <|
  bd (Ho_write N a_13 s0 h10) fun v16 h17 =>
  self_7 a0 x1 (x2 + 1) h17
set_option maxRecDepth 20000 in
theorem Re_sum_b64_ok (g : GT) (N : Nat) (rec : Nat → Int32 → PH → Option (Unit × PH)) (K0 : Nat) (hrec : ∀ (a0 : Nat) (x1 : Int32) (h : PH) (v : Unit) (h' : PH), rec a0 x1 h = some (v, h') → ∀ D, K0 ≤ D → Calls g D pRe_part [va_rf (some a0), .int x1] h (oV v) h') (D : Nat) (hD : 6 ≤ D ∧ K0 + 2 ≤ D) (self_7 : Nat → Int32 → Int32 → PH → Option (Unit × PH)) (hself_7 : ∀ (a0 : Nat) (x1 : Int32) (x2 : Int32) (h : PH) (v : Unit) (h' : PH), self_7 a0 x1 x2 h = some (v, h') → Run g pRe_sum D 7 [(0, va_rf (some a0)), (1, .int x1), (2, .int x2)] [] h (rV v) h') : ∀ (s0 : Int32) (a0 : Nat) (x1 : Int32) (x2 : Int32) (h : PH) (v : Unit) (h' : PH), Re_sum_b64 N rec self_7 s0 a0 x1 x2 h = some (v, h') → Run g pRe_sum D 64 [(0, va_rf (some a0)), (1, .int x1), (2, .int x2)] [.int s0] h (rV v) h' := by
  obtain ⟨D2, rfl⟩ : ∃ d, D = d + 1 := ⟨D - 1, by omega⟩
  intro s0 a0 x1 x2 h v h' hE
  unfold Re_sum_b64 at hE
  refine r_istore_n 3 rfl rfl (by decide) ?_
  refine r_aload_n (t := some a0) 0 rfl rfl rfl ?_
  obtain ⟨hk1, hE⟩ := ckE hE
  refine r_getR rfl (fl_4_26 rfl) (Or.inl ⟨_, rfl⟩) rfl hk1 ?_
  obtain ⟨a_2, ha3, hE⟩ := bnE hE
  obtain ⟨hk4, hE⟩ := ckE hE
  obtain ⟨v5, h6, hq7, hE⟩ := bdE hE
  refine r_callV0 (rest := []) (hc := (Ta_step_ok g N _ _ _ _ hq7 D2 (by omega))) rfl pm_Ta_step lw_4_92 im_Ta_step sl_Ta_step ha3 rfl rfl (rcOK hk4 rfl) (by decide) ?_
  refine r_aload_n (t := some a0) 0 rfl rfl rfl ?_
  refine r_iload_n 1 rfl rfl rfl ?_
  obtain ⟨hk8, hE⟩ := ckE hE
  obtain ⟨v9, h10, hq11, hE⟩ := bdE hE
  refine r_callV0 (rest := []) (hc := (Re_product_ok g N _ _ hrec _ _ _ _ _ hq11 D2 ⟨by omega, by omega⟩)) rfl pm_Re_product lw_4_195 im_Re_product sl_Re_product rfl rfl rfl (rcOK hk8 rfl) (by decide) ?_
  refine r_aload_n (t := some a0) 0 rfl rfl rfl ?_
  obtain ⟨hk12, hE⟩ := ckE hE
  refine r_getR rfl (fl_4_30 rfl) (Or.inl ⟨_, rfl⟩) rfl hk12 ?_
  refine r_iload_n 3 rfl rfl rfl ?_
  obtain ⟨a_13, ha14, hE⟩ := bnE hE
  obtain ⟨hk15, hE⟩ := ckE hE
  obtain ⟨v16, h17, hq18, hE⟩ := bdE hE
  refine r_callV0 (rest := []) (hc := (Ho_write_ok g N _ _ _ _ _ hq18 D2 (by omega))) rfl pm_Ho_write lw_4_189 im_Ho_write sl_Ho_write ha14 rfl rfl (rcOK hk15 rfl) (by decide) ?_
  refine r_iinc _ rfl rfl (congrArg _ ci_1) (by decide) ?_
  refine r_goto (tgt := 7) rfl (by decide) ?_
  first | exact r_sb (hself_7 _ _ _ _ _ _ hE) ⟨rfl, rfl, rfl, trivial⟩ | exact r_sb (hself_7 _ _ _ _ _ _ hE) (by simp only [su1, su2, dr1_rf, dr1_in, dr1_lo, dr2_rf, dr2_in, dr2_lo]; exact ⟨rfl, rfl, rfl, trivial⟩)
def Re_sum_b45 (N : Nat) (rec : Nat → Int32 → PH → Option (Unit × PH)) (self_7 : Nat → Int32 → Int32 → PH → Option (Unit × PH)) (a0 : Nat) (x1 : Int32) (x2 : Int32) (h : PH) : Option (Unit × PH) :=
  ck ((hK h a0).1 = 4) <|
  ((hR h a0 0)).bind fun a_2 =>
  ck ((hK h a_2).1 = 8) <|
  if (hI h a_2 2) = 43 then
    Re_sum_b64 N rec self_7  (-11) a0 x1 x2 h
  else
    Re_sum_b64 N rec self_7  (-12) a0 x1 x2 h
set_option maxRecDepth 20000 in
theorem Re_sum_b45_ok (g : GT) (N : Nat) (rec : Nat → Int32 → PH → Option (Unit × PH)) (K0 : Nat) (hrec : ∀ (a0 : Nat) (x1 : Int32) (h : PH) (v : Unit) (h' : PH), rec a0 x1 h = some (v, h') → ∀ D, K0 ≤ D → Calls g D pRe_part [va_rf (some a0), .int x1] h (oV v) h') (D : Nat) (hD : 6 ≤ D ∧ K0 + 2 ≤ D) (self_7 : Nat → Int32 → Int32 → PH → Option (Unit × PH)) (hself_7 : ∀ (a0 : Nat) (x1 : Int32) (x2 : Int32) (h : PH) (v : Unit) (h' : PH), self_7 a0 x1 x2 h = some (v, h') → Run g pRe_sum D 7 [(0, va_rf (some a0)), (1, .int x1), (2, .int x2)] [] h (rV v) h') : ∀ (a0 : Nat) (x1 : Int32) (x2 : Int32) (h : PH) (v : Unit) (h' : PH), Re_sum_b45 N rec self_7 a0 x1 x2 h = some (v, h') → Run g pRe_sum D 45 [(0, va_rf (some a0)), (1, .int x1), (2, .int x2)] [] h (rV v) h' := by
  obtain ⟨D2, rfl⟩ : ∃ d, D = d + 1 := ⟨D - 1, by omega⟩
  intro a0 x1 x2 h v h' hE
  unfold Re_sum_b45 at hE
  refine r_aload_n (t := some a0) 0 rfl rfl rfl ?_
  obtain ⟨hk1, hE⟩ := ckE hE
  refine r_getR rfl (fl_4_26 rfl) (Or.inl ⟨_, rfl⟩) rfl hk1 ?_
  obtain ⟨a_2, ha3, hE⟩ := bnE hE
  obtain ⟨hk4, hE⟩ := ckE hE
  refine r_getI rfl (fl_4_83 rfl) (Or.inl rfl) ha3 hk4 ?_
  refine r_bipush 43 rfl cb_43 ?_
  refine r_icmp_ne (tgt := 62) rfl (by decide) (fun hc5 => ?_) (fun hc5 => ?_)
  · have hE := ifP hc5 hE
    refine r_bipush (-11) rfl cb_m11 ?_
    refine r_goto (tgt := 64) rfl (by decide) ?_
    first | exact r_sb (Re_sum_b64_ok g N _ _ hrec _ hD _ hself_7  _ _ _ _ _ _ _ hE) ⟨rfl, rfl, rfl, trivial⟩ | exact r_sb (Re_sum_b64_ok g N _ _ hrec _ hD _ hself_7  _ _ _ _ _ _ _ hE) (by simp only [su1, su2, dr1_rf, dr1_in, dr1_lo, dr2_rf, dr2_in, dr2_lo]; exact ⟨rfl, rfl, rfl, trivial⟩)
  · have hE := ifN hc5 hE
    refine r_bipush (-12) rfl cb_m12 ?_
    first | exact r_sb (Re_sum_b64_ok g N _ _ hrec _ hD _ hself_7  _ _ _ _ _ _ _ hE) ⟨rfl, rfl, rfl, trivial⟩ | exact r_sb (Re_sum_b64_ok g N _ _ hrec _ hD _ hself_7  _ _ _ _ _ _ _ hE) (by simp only [su1, su2, dr1_rf, dr1_in, dr1_lo, dr2_rf, dr2_in, dr2_lo]; exact ⟨rfl, rfl, rfl, trivial⟩)
def Re_sum_b7 (N : Nat) (rec : Nat → Int32 → PH → Option (Unit × PH)) : Nat → Nat → Int32 → Int32 → PH → Option (Unit × PH)
  | 0 => fun _ _ _ _ => none
  | n + 1 => fun a0 x1 x2 h =>
    if 1000 ≤ x2 then
      some ((), h)
    else
      ck ((hK h a0).1 = 4) <|
      bd (Re_hasMore N a0 h) fun v3 h4 =>
      if (bI v3) = 0 then
        some ((), h4)
      else
        ck ((hK h4 a0).1 = 4) <|
        ((hR h4 a0 0)).bind fun a_8 =>
        ck ((hK h4 a_8).1 = 8) <|
        if (hI h4 a_8 2) = 43 then
          Re_sum_b45 N rec (Re_sum_b7 N rec n)  a0 x1 x2 h4
        else
          if (hI h4 a_8 2) = 45 then
            Re_sum_b45 N rec (Re_sum_b7 N rec n)  a0 x1 x2 h4
          else
            some ((), h4)
set_option maxRecDepth 20000 in
theorem Re_sum_b7_ok (g : GT) (N : Nat) (rec : Nat → Int32 → PH → Option (Unit × PH)) (K0 : Nat) (hrec : ∀ (a0 : Nat) (x1 : Int32) (h : PH) (v : Unit) (h' : PH), rec a0 x1 h = some (v, h') → ∀ D, K0 ≤ D → Calls g D pRe_part [va_rf (some a0), .int x1] h (oV v) h') (D : Nat) (hD : 6 ≤ D ∧ K0 + 2 ≤ D) : ∀ (n : Nat) (a0 : Nat) (x1 : Int32) (x2 : Int32) (h : PH) (v : Unit) (h' : PH), Re_sum_b7 N rec n a0 x1 x2 h = some (v, h') → Run g pRe_sum D 7 [(0, va_rf (some a0)), (1, .int x1), (2, .int x2)] [] h (rV v) h' := by
  obtain ⟨D2, rfl⟩ : ∃ d, D = d + 1 := ⟨D - 1, by omega⟩
  intro n
  induction n with
  | zero => exact fun _ _ _ _ _ _ hE => nomatch (show none = some _ from hE)
  | succ n ih =>
    intro a0 x1 x2 h v h' hE
    unfold Re_sum_b7 at hE
    refine r_iload_n 2 rfl rfl rfl ?_
    refine r_sipush 1000 rfl cs_1000 ?_
    refine r_icmp_ge (tgt := 91) rfl (by decide) (fun hc1 => ?_) (fun hc1 => ?_)
    · have hE := ifP hc1 hE
      cases hE
      exact r_ret rfl (Or.inr (Or.inr (Or.inr ⟨rfl, rfl, rfl, rfl⟩)))
    · have hE := ifN hc1 hE
      refine r_aload_n (t := some a0) 0 rfl rfl rfl ?_
      obtain ⟨hk2, hE⟩ := ckE hE
      obtain ⟨v3, h4, hq5, hE⟩ := bdE hE
      refine r_callV1 (rest := []) (hc := (Re_hasMore_ok g N _ _ _ _ hq5 D2 (by omega))) rfl pm_Re_hasMore lw_4_62 im_Re_hasMore sl_Re_hasMore rfl rfl rfl (rcOK hk2 rfl) (by decide) ?_
      refine r_if_eq (tgt := 91) rfl (by decide) (fun hc6 => ?_) (fun hc6 => ?_)
      · have hE := ifP hc6 hE
        cases hE
        exact r_ret rfl (Or.inr (Or.inr (Or.inr ⟨rfl, rfl, rfl, rfl⟩)))
      · have hE := ifN hc6 hE
        refine r_aload_n (t := some a0) 0 rfl rfl rfl ?_
        obtain ⟨hk7, hE⟩ := ckE hE
        refine r_getR rfl (fl_4_26 rfl) (Or.inl ⟨_, rfl⟩) rfl hk7 ?_
        obtain ⟨a_8, ha9, hE⟩ := bnE hE
        obtain ⟨hk10, hE⟩ := ckE hE
        refine r_getI rfl (fl_4_83 rfl) (Or.inl rfl) ha9 hk10 ?_
        refine r_bipush 43 rfl cb_43 ?_
        refine r_icmp_eq (tgt := 45) rfl (by decide) (fun hc11 => ?_) (fun hc11 => ?_)
        · have hE := ifP hc11 hE
          first | exact r_sb (Re_sum_b45_ok g N _ _ hrec _ hD _ ih  _ _ _ _ _ _ hE) ⟨rfl, rfl, rfl, trivial⟩ | exact r_sb (Re_sum_b45_ok g N _ _ hrec _ hD _ ih  _ _ _ _ _ _ hE) (by simp only [su1, su2, dr1_rf, dr1_in, dr1_lo, dr2_rf, dr2_in, dr2_lo]; exact ⟨rfl, rfl, rfl, trivial⟩)
        · have hE := ifN hc11 hE
          refine r_aload_n (t := some a0) 0 rfl rfl rfl ?_
          refine r_getR rfl (fl_4_26 rfl) (Or.inl ⟨_, rfl⟩) rfl hk7 ?_
          refine r_getI rfl (fl_4_83 rfl) (Or.inl rfl) ha9 hk10 ?_
          refine r_bipush 45 rfl cb_45 ?_
          refine r_icmp_ne (tgt := 91) rfl (by decide) (fun hc12 => ?_) (fun hc12 => ?_)
          · have hE := ifP hc12 hE
            first | exact r_sb (Re_sum_b45_ok g N _ _ hrec _ hD _ ih  _ _ _ _ _ _ hE) ⟨rfl, rfl, rfl, trivial⟩ | exact r_sb (Re_sum_b45_ok g N _ _ hrec _ hD _ ih  _ _ _ _ _ _ hE) (by simp only [su1, su2, dr1_rf, dr1_in, dr1_lo, dr2_rf, dr2_in, dr2_lo]; exact ⟨rfl, rfl, rfl, trivial⟩)
          · have hE := ifN hc12 hE
            cases hE
            exact r_ret rfl (Or.inr (Or.inr (Or.inr ⟨rfl, rfl, rfl, rfl⟩)))
def Re_sum (N : Nat) (rec : Nat → Int32 → PH → Option (Unit × PH)) (a0 : Nat) (x1 : Int32) (h : PH) : Option (Unit × PH) :=
  ck ((hK h a0).1 = 4) <|
  bd ((Re_product N rec) a0 x1 h) fun v2 h3 =>
  Re_sum_b7 N rec N a0 x1 0 h3
set_option maxRecDepth 20000 in
theorem Re_sum_ok (g : GT) (N : Nat) (rec : Nat → Int32 → PH → Option (Unit × PH)) (K0 : Nat) (hrec : ∀ (a0 : Nat) (x1 : Int32) (h : PH) (v : Unit) (h' : PH), rec a0 x1 h = some (v, h') → ∀ D, K0 ≤ D → Calls g D pRe_part [va_rf (some a0), .int x1] h (oV v) h') (a0 : Nat) (x1 : Int32) (h : PH) (v : Unit) (h' : PH) (hE : Re_sum N rec a0 x1 h = some (v, h')) (D : Nat) (hD : 6 ≤ D ∧ K0 + 2 ≤ D) : Calls g D pRe_sum [va_rf (some a0), .int x1] h (oV v) h' := by
  refine Calls.of cok_Re_sum ht_Re_sum pl_Re_sum (fun ad => by rw [lg_len, sL_cat]; simp only [List.map_cons, List.map_nil, rf_cat, cat_i, cat_l, List.sum_cons, List.sum_nil]; decide) ?_
  rw [show lv_args 0 [va_rf (some a0), .int x1] = [(0, va_rf (some a0)), (1, .int x1)] from (by simp only [lv_args, rf_cat, cat_i, cat_l]; try rfl)]
  obtain ⟨D2, rfl⟩ : ∃ d, D = d + 1 := ⟨D - 1, by omega⟩
  unfold Re_sum at hE
  refine r_aload_n (t := some a0) 0 rfl rfl rfl ?_
  refine r_iload_n 1 rfl rfl rfl ?_
  obtain ⟨hk1, hE⟩ := ckE hE
  obtain ⟨v2, h3, hq4, hE⟩ := bdE hE
  refine r_callV0 (rest := []) (hc := (Re_product_ok g N _ _ hrec _ _ _ _ _ hq4 D2 ⟨by omega, by omega⟩)) rfl pm_Re_product lw_4_195 im_Re_product sl_Re_product rfl rfl rfl (rcOK hk1 rfl) (by decide) ?_
  refine r_iconst 0 rfl ci_0 ?_
  refine r_istore_n 2 rfl rfl (by decide) ?_
  first | exact r_sb (Re_sum_b7_ok g N _ _ hrec _ hD  N _ _ _ _ _ _ hE) ⟨rfl, rfl, rfl, trivial⟩ | exact r_sb (Re_sum_b7_ok g N _ _ hrec _ hD  N _ _ _ _ _ _ hE) (by simp only [su1, su2, dr1_rf, dr1_in, dr1_lo, dr2_rf, dr2_in, dr2_lo]; exact ⟨rfl, rfl, rfl, trivial⟩)
def Re_test_b55 (N : Nat) (rec : Nat → Int32 → PH → Option (Unit × PH)) (s0 : Int32) (a0 : Nat) (x1 : Int32) (h : PH) : Option (Unit × PH) :=
  ck ((hK h a0).1 = 4) <|
  ((hR h a0 0)).bind fun a_2 =>
  ck ((hK h a_2).1 = 8) <|
  bd (Ta_step N a_2 h) fun v5 h6 =>
  ck ((hK h6 a0).1 = 4) <|
  bd ((Re_sum N rec) a0 x1 h6) fun v9 h10 =>
  ck ((hK h10 a0).1 = 4) <|
  ((hR h10 a0 1)).bind fun a_13 =>
  ck ((hK h10 a_13).1 = 0) <|
  bd (Ho_write N a_13 s0 h10) fun v16 h17 =>
  some ((), h17)
set_option maxRecDepth 20000 in
theorem Re_test_b55_ok (g : GT) (N : Nat) (rec : Nat → Int32 → PH → Option (Unit × PH)) (K0 : Nat) (hrec : ∀ (a0 : Nat) (x1 : Int32) (h : PH) (v : Unit) (h' : PH), rec a0 x1 h = some (v, h') → ∀ D, K0 ≤ D → Calls g D pRe_part [va_rf (some a0), .int x1] h (oV v) h') (D : Nat) (hD : 7 ≤ D ∧ K0 + 3 ≤ D) : ∀ (s0 : Int32) (a0 : Nat) (x1 : Int32) (h : PH) (v : Unit) (h' : PH), Re_test_b55 N rec s0 a0 x1 h = some (v, h') → Run g pRe_test D 55 [(0, va_rf (some a0)), (1, .int x1)] [.int s0] h (rV v) h' := by
  obtain ⟨D2, rfl⟩ : ∃ d, D = d + 1 := ⟨D - 1, by omega⟩
  intro s0 a0 x1 h v h' hE
  unfold Re_test_b55 at hE
  refine r_istore_n 2 rfl rfl (by decide) ?_
  refine r_aload_n (t := some a0) 0 rfl rfl rfl ?_
  obtain ⟨hk1, hE⟩ := ckE hE
  refine r_getR rfl (fl_4_26 rfl) (Or.inl ⟨_, rfl⟩) rfl hk1 ?_
  obtain ⟨a_2, ha3, hE⟩ := bnE hE
  obtain ⟨hk4, hE⟩ := ckE hE
  obtain ⟨v5, h6, hq7, hE⟩ := bdE hE
  refine r_callV0 (rest := []) (hc := (Ta_step_ok g N _ _ _ _ hq7 D2 (by omega))) rfl pm_Ta_step lw_4_92 im_Ta_step sl_Ta_step ha3 rfl rfl (rcOK hk4 rfl) (by decide) ?_
  refine r_aload_n (t := some a0) 0 rfl rfl rfl ?_
  refine r_iload_n 1 rfl rfl rfl ?_
  obtain ⟨hk8, hE⟩ := ckE hE
  obtain ⟨v9, h10, hq11, hE⟩ := bdE hE
  refine r_callV0 (rest := []) (hc := (Re_sum_ok g N _ _ hrec _ _ _ _ _ hq11 D2 ⟨by omega, by omega⟩)) rfl pm_Re_sum lw_4_192 im_Re_sum sl_Re_sum rfl rfl rfl (rcOK hk8 rfl) (by decide) ?_
  refine r_aload_n (t := some a0) 0 rfl rfl rfl ?_
  obtain ⟨hk12, hE⟩ := ckE hE
  refine r_getR rfl (fl_4_30 rfl) (Or.inl ⟨_, rfl⟩) rfl hk12 ?_
  refine r_iload_n 2 rfl rfl rfl ?_
  obtain ⟨a_13, ha14, hE⟩ := bnE hE
  obtain ⟨hk15, hE⟩ := ckE hE
  obtain ⟨v16, h17, hq18, hE⟩ := bdE hE
  refine r_callV0 (rest := []) (hc := (Ho_write_ok g N _ _ _ _ _ hq18 D2 (by omega))) rfl pm_Ho_write lw_4_189 im_Ho_write sl_Ho_write ha14 rfl rfl (rcOK hk15 rfl) (by decide) ?_
  cases hE
  exact r_ret rfl (Or.inr (Or.inr (Or.inr ⟨rfl, rfl, rfl, rfl⟩)))
def Re_test_b36 (N : Nat) (rec : Nat → Int32 → PH → Option (Unit × PH)) (a0 : Nat) (x1 : Int32) (h : PH) : Option (Unit × PH) :=
  ck ((hK h a0).1 = 4) <|
  ((hR h a0 0)).bind fun a_2 =>
  ck ((hK h a_2).1 = 8) <|
  if (hI h a_2 2) = 60 then
    Re_test_b55 N rec  (-9) a0 x1 h
  else
    Re_test_b55 N rec  (-10) a0 x1 h
set_option maxRecDepth 20000 in
theorem Re_test_b36_ok (g : GT) (N : Nat) (rec : Nat → Int32 → PH → Option (Unit × PH)) (K0 : Nat) (hrec : ∀ (a0 : Nat) (x1 : Int32) (h : PH) (v : Unit) (h' : PH), rec a0 x1 h = some (v, h') → ∀ D, K0 ≤ D → Calls g D pRe_part [va_rf (some a0), .int x1] h (oV v) h') (D : Nat) (hD : 7 ≤ D ∧ K0 + 3 ≤ D) : ∀ (a0 : Nat) (x1 : Int32) (h : PH) (v : Unit) (h' : PH), Re_test_b36 N rec a0 x1 h = some (v, h') → Run g pRe_test D 36 [(0, va_rf (some a0)), (1, .int x1)] [] h (rV v) h' := by
  obtain ⟨D2, rfl⟩ : ∃ d, D = d + 1 := ⟨D - 1, by omega⟩
  intro a0 x1 h v h' hE
  unfold Re_test_b36 at hE
  refine r_aload_n (t := some a0) 0 rfl rfl rfl ?_
  obtain ⟨hk1, hE⟩ := ckE hE
  refine r_getR rfl (fl_4_26 rfl) (Or.inl ⟨_, rfl⟩) rfl hk1 ?_
  obtain ⟨a_2, ha3, hE⟩ := bnE hE
  obtain ⟨hk4, hE⟩ := ckE hE
  refine r_getI rfl (fl_4_83 rfl) (Or.inl rfl) ha3 hk4 ?_
  refine r_bipush 60 rfl cb_60 ?_
  refine r_icmp_ne (tgt := 53) rfl (by decide) (fun hc5 => ?_) (fun hc5 => ?_)
  · have hE := ifP hc5 hE
    refine r_bipush (-9) rfl cb_m9 ?_
    refine r_goto (tgt := 55) rfl (by decide) ?_
    first | exact r_sb (Re_test_b55_ok g N _ _ hrec _ hD   _ _ _ _ _ _ hE) ⟨rfl, rfl, trivial⟩ | exact r_sb (Re_test_b55_ok g N _ _ hrec _ hD   _ _ _ _ _ _ hE) (by simp only [su1, su2, dr1_rf, dr1_in, dr1_lo, dr2_rf, dr2_in, dr2_lo]; exact ⟨rfl, rfl, trivial⟩)
  · have hE := ifN hc5 hE
    refine r_bipush (-10) rfl cb_m10 ?_
    first | exact r_sb (Re_test_b55_ok g N _ _ hrec _ hD   _ _ _ _ _ _ hE) ⟨rfl, rfl, trivial⟩ | exact r_sb (Re_test_b55_ok g N _ _ hrec _ hD   _ _ _ _ _ _ hE) (by simp only [su1, su2, dr1_rf, dr1_in, dr1_lo, dr2_rf, dr2_in, dr2_lo]; exact ⟨rfl, rfl, trivial⟩)
def Re_test (N : Nat) (rec : Nat → Int32 → PH → Option (Unit × PH)) (a0 : Nat) (x1 : Int32) (h : PH) : Option (Unit × PH) :=
  ck ((hK h a0).1 = 4) <|
  bd ((Re_sum N rec) a0 x1 h) fun v2 h3 =>
  ck ((hK h3 a0).1 = 4) <|
  bd (Re_hasMore N a0 h3) fun v6 h7 =>
  if (bI v6) = 0 then
    some ((), h7)
  else
    ck ((hK h7 a0).1 = 4) <|
    ((hR h7 a0 0)).bind fun a_11 =>
    ck ((hK h7 a_11).1 = 8) <|
    if (hI h7 a_11 2) = 60 then
      Re_test_b36 N rec  a0 x1 h7
    else
      if (hI h7 a_11 2) = 61 then
        Re_test_b36 N rec  a0 x1 h7
      else
        some ((), h7)
set_option maxRecDepth 20000 in
theorem Re_test_ok (g : GT) (N : Nat) (rec : Nat → Int32 → PH → Option (Unit × PH)) (K0 : Nat) (hrec : ∀ (a0 : Nat) (x1 : Int32) (h : PH) (v : Unit) (h' : PH), rec a0 x1 h = some (v, h') → ∀ D, K0 ≤ D → Calls g D pRe_part [va_rf (some a0), .int x1] h (oV v) h') (a0 : Nat) (x1 : Int32) (h : PH) (v : Unit) (h' : PH) (hE : Re_test N rec a0 x1 h = some (v, h')) (D : Nat) (hD : 7 ≤ D ∧ K0 + 3 ≤ D) : Calls g D pRe_test [va_rf (some a0), .int x1] h (oV v) h' := by
  refine Calls.of cok_Re_test ht_Re_test pl_Re_test (fun ad => by rw [lg_len, sL_cat]; simp only [List.map_cons, List.map_nil, rf_cat, cat_i, cat_l, List.sum_cons, List.sum_nil]; decide) ?_
  rw [show lv_args 0 [va_rf (some a0), .int x1] = [(0, va_rf (some a0)), (1, .int x1)] from (by simp only [lv_args, rf_cat, cat_i, cat_l]; try rfl)]
  obtain ⟨D2, rfl⟩ : ∃ d, D = d + 1 := ⟨D - 1, by omega⟩
  unfold Re_test at hE
  refine r_aload_n (t := some a0) 0 rfl rfl rfl ?_
  refine r_iload_n 1 rfl rfl rfl ?_
  obtain ⟨hk1, hE⟩ := ckE hE
  obtain ⟨v2, h3, hq4, hE⟩ := bdE hE
  refine r_callV0 (rest := []) (hc := (Re_sum_ok g N _ _ hrec _ _ _ _ _ hq4 D2 ⟨by omega, by omega⟩)) rfl pm_Re_sum lw_4_192 im_Re_sum sl_Re_sum rfl rfl rfl (rcOK hk1 rfl) (by decide) ?_
  refine r_aload_n (t := some a0) 0 rfl rfl rfl ?_
  obtain ⟨hk5, hE⟩ := ckE hE
  obtain ⟨v6, h7, hq8, hE⟩ := bdE hE
  refine r_callV1 (rest := []) (hc := (Re_hasMore_ok g N _ _ _ _ hq8 D2 (by omega))) rfl pm_Re_hasMore lw_4_62 im_Re_hasMore sl_Re_hasMore rfl rfl rfl (rcOK hk5 rfl) (by decide) ?_
  refine r_if_eq (tgt := 76) rfl (by decide) (fun hc9 => ?_) (fun hc9 => ?_)
  · have hE := ifP hc9 hE
    cases hE
    exact r_ret rfl (Or.inr (Or.inr (Or.inr ⟨rfl, rfl, rfl, rfl⟩)))
  · have hE := ifN hc9 hE
    refine r_aload_n (t := some a0) 0 rfl rfl rfl ?_
    obtain ⟨hk10, hE⟩ := ckE hE
    refine r_getR rfl (fl_4_26 rfl) (Or.inl ⟨_, rfl⟩) rfl hk10 ?_
    obtain ⟨a_11, ha12, hE⟩ := bnE hE
    obtain ⟨hk13, hE⟩ := ckE hE
    refine r_getI rfl (fl_4_83 rfl) (Or.inl rfl) ha12 hk13 ?_
    refine r_bipush 60 rfl cb_60 ?_
    refine r_icmp_eq (tgt := 36) rfl (by decide) (fun hc14 => ?_) (fun hc14 => ?_)
    · have hE := ifP hc14 hE
      first | exact r_sb (Re_test_b36_ok g N _ _ hrec _ hD   _ _ _ _ _ hE) ⟨rfl, rfl, trivial⟩ | exact r_sb (Re_test_b36_ok g N _ _ hrec _ hD   _ _ _ _ _ hE) (by simp only [su1, su2, dr1_rf, dr1_in, dr1_lo, dr2_rf, dr2_in, dr2_lo]; exact ⟨rfl, rfl, trivial⟩)
    · have hE := ifN hc14 hE
      refine r_aload_n (t := some a0) 0 rfl rfl rfl ?_
      refine r_getR rfl (fl_4_26 rfl) (Or.inl ⟨_, rfl⟩) rfl hk10 ?_
      refine r_getI rfl (fl_4_83 rfl) (Or.inl rfl) ha12 hk13 ?_
      refine r_bipush 61 rfl cb_61 ?_
      refine r_icmp_ne (tgt := 76) rfl (by decide) (fun hc15 => ?_) (fun hc15 => ?_)
      · have hE := ifP hc15 hE
        first | exact r_sb (Re_test_b36_ok g N _ _ hrec _ hD   _ _ _ _ _ hE) ⟨rfl, rfl, trivial⟩ | exact r_sb (Re_test_b36_ok g N _ _ hrec _ hD   _ _ _ _ _ hE) (by simp only [su1, su2, dr1_rf, dr1_in, dr1_lo, dr2_rf, dr2_in, dr2_lo]; exact ⟨rfl, rfl, trivial⟩)
      · have hE := ifN hc15 hE
        cases hE
        exact r_ret rfl (Or.inr (Or.inr (Or.inr ⟨rfl, rfl, rfl, rfl⟩)))
def Re_either_b64 (N : Nat) (rec : Nat → Int32 → PH → Option (Unit × PH)) (self_7 : Nat → Int32 → Int32 → PH → Option (Unit × PH)) (s0 : Int32) (a0 : Nat) (x1 : Int32) (x2 : Int32) (h : PH) : Option (Unit × PH) :=
  ck ((hK h a0).1 = 4) <|
  ((hR h a0 0)).bind fun a_2 =>
  ck ((hK h a_2).1 = 8) <|
  bd (Ta_step N a_2 h) fun v5 h6 =>
  ck ((hK h6 a0).1 = 4) <|
  bd ((Re_test N rec) a0 x1 h6) fun v9 h10 =>
  ck ((hK h10 a0).1 = 4) <|
  ((hR h10 a0 1)).bind fun a_13 =>
  ck ((hK h10 a_13).1 = 0) <|
  bd (Ho_write N a_13 s0 h10) fun v16 h17 =>
  self_7 a0 x1 (x2 + 1) h17
set_option maxRecDepth 20000 in
theorem Re_either_b64_ok (g : GT) (N : Nat) (rec : Nat → Int32 → PH → Option (Unit × PH)) (K0 : Nat) (hrec : ∀ (a0 : Nat) (x1 : Int32) (h : PH) (v : Unit) (h' : PH), rec a0 x1 h = some (v, h') → ∀ D, K0 ≤ D → Calls g D pRe_part [va_rf (some a0), .int x1] h (oV v) h') (D : Nat) (hD : 8 ≤ D ∧ K0 + 4 ≤ D) (self_7 : Nat → Int32 → Int32 → PH → Option (Unit × PH)) (hself_7 : ∀ (a0 : Nat) (x1 : Int32) (x2 : Int32) (h : PH) (v : Unit) (h' : PH), self_7 a0 x1 x2 h = some (v, h') → Run g pRe_either D 7 [(0, va_rf (some a0)), (1, .int x1), (2, .int x2)] [] h (rV v) h') : ∀ (s0 : Int32) (a0 : Nat) (x1 : Int32) (x2 : Int32) (h : PH) (v : Unit) (h' : PH), Re_either_b64 N rec self_7 s0 a0 x1 x2 h = some (v, h') → Run g pRe_either D 64 [(0, va_rf (some a0)), (1, .int x1), (2, .int x2)] [.int s0] h (rV v) h' := by
  obtain ⟨D2, rfl⟩ : ∃ d, D = d + 1 := ⟨D - 1, by omega⟩
  intro s0 a0 x1 x2 h v h' hE
  unfold Re_either_b64 at hE
  refine r_istore_n 3 rfl rfl (by decide) ?_
  refine r_aload_n (t := some a0) 0 rfl rfl rfl ?_
  obtain ⟨hk1, hE⟩ := ckE hE
  refine r_getR rfl (fl_4_26 rfl) (Or.inl ⟨_, rfl⟩) rfl hk1 ?_
  obtain ⟨a_2, ha3, hE⟩ := bnE hE
  obtain ⟨hk4, hE⟩ := ckE hE
  obtain ⟨v5, h6, hq7, hE⟩ := bdE hE
  refine r_callV0 (rest := []) (hc := (Ta_step_ok g N _ _ _ _ hq7 D2 (by omega))) rfl pm_Ta_step lw_4_92 im_Ta_step sl_Ta_step ha3 rfl rfl (rcOK hk4 rfl) (by decide) ?_
  refine r_aload_n (t := some a0) 0 rfl rfl rfl ?_
  refine r_iload_n 1 rfl rfl rfl ?_
  obtain ⟨hk8, hE⟩ := ckE hE
  obtain ⟨v9, h10, hq11, hE⟩ := bdE hE
  refine r_callV0 (rest := []) (hc := (Re_test_ok g N _ _ hrec _ _ _ _ _ hq11 D2 ⟨by omega, by omega⟩)) rfl pm_Re_test lw_4_182 im_Re_test sl_Re_test rfl rfl rfl (rcOK hk8 rfl) (by decide) ?_
  refine r_aload_n (t := some a0) 0 rfl rfl rfl ?_
  obtain ⟨hk12, hE⟩ := ckE hE
  refine r_getR rfl (fl_4_30 rfl) (Or.inl ⟨_, rfl⟩) rfl hk12 ?_
  refine r_iload_n 3 rfl rfl rfl ?_
  obtain ⟨a_13, ha14, hE⟩ := bnE hE
  obtain ⟨hk15, hE⟩ := ckE hE
  obtain ⟨v16, h17, hq18, hE⟩ := bdE hE
  refine r_callV0 (rest := []) (hc := (Ho_write_ok g N _ _ _ _ _ hq18 D2 (by omega))) rfl pm_Ho_write lw_4_189 im_Ho_write sl_Ho_write ha14 rfl rfl (rcOK hk15 rfl) (by decide) ?_
  refine r_iinc _ rfl rfl (congrArg _ ci_1) (by decide) ?_
  refine r_goto (tgt := 7) rfl (by decide) ?_
  first | exact r_sb (hself_7 _ _ _ _ _ _ hE) ⟨rfl, rfl, rfl, trivial⟩ | exact r_sb (hself_7 _ _ _ _ _ _ hE) (by simp only [su1, su2, dr1_rf, dr1_in, dr1_lo, dr2_rf, dr2_in, dr2_lo]; exact ⟨rfl, rfl, rfl, trivial⟩)
def Re_either_b45 (N : Nat) (rec : Nat → Int32 → PH → Option (Unit × PH)) (self_7 : Nat → Int32 → Int32 → PH → Option (Unit × PH)) (a0 : Nat) (x1 : Int32) (x2 : Int32) (h : PH) : Option (Unit × PH) :=
  ck ((hK h a0).1 = 4) <|
  ((hR h a0 0)).bind fun a_2 =>
  ck ((hK h a_2).1 = 8) <|
  bd (Ta_isWord N a_2 21 h) fun v5 h6 =>
  if (bI v5) = 0 then
    Re_either_b64 N rec self_7  (-8) a0 x1 x2 h6
  else
    Re_either_b64 N rec self_7  (-7) a0 x1 x2 h6
set_option maxRecDepth 20000 in
theorem Re_either_b45_ok (g : GT) (N : Nat) (rec : Nat → Int32 → PH → Option (Unit × PH)) (K0 : Nat) (hrec : ∀ (a0 : Nat) (x1 : Int32) (h : PH) (v : Unit) (h' : PH), rec a0 x1 h = some (v, h') → ∀ D, K0 ≤ D → Calls g D pRe_part [va_rf (some a0), .int x1] h (oV v) h') (D : Nat) (hD : 8 ≤ D ∧ K0 + 4 ≤ D) (self_7 : Nat → Int32 → Int32 → PH → Option (Unit × PH)) (hself_7 : ∀ (a0 : Nat) (x1 : Int32) (x2 : Int32) (h : PH) (v : Unit) (h' : PH), self_7 a0 x1 x2 h = some (v, h') → Run g pRe_either D 7 [(0, va_rf (some a0)), (1, .int x1), (2, .int x2)] [] h (rV v) h') : ∀ (a0 : Nat) (x1 : Int32) (x2 : Int32) (h : PH) (v : Unit) (h' : PH), Re_either_b45 N rec self_7 a0 x1 x2 h = some (v, h') → Run g pRe_either D 45 [(0, va_rf (some a0)), (1, .int x1), (2, .int x2)] [] h (rV v) h' := by
  obtain ⟨D2, rfl⟩ : ∃ d, D = d + 1 := ⟨D - 1, by omega⟩
  intro a0 x1 x2 h v h' hE
  unfold Re_either_b45 at hE
  refine r_aload_n (t := some a0) 0 rfl rfl rfl ?_
  obtain ⟨hk1, hE⟩ := ckE hE
  refine r_getR rfl (fl_4_26 rfl) (Or.inl ⟨_, rfl⟩) rfl hk1 ?_
  refine r_bipush 21 rfl cb_21 ?_
  obtain ⟨a_2, ha3, hE⟩ := bnE hE
  obtain ⟨hk4, hE⟩ := ckE hE
  obtain ⟨v5, h6, hq7, hE⟩ := bdE hE
  refine r_callV1 (rest := []) (hc := (Ta_isWord_ok g N _ _ _ _ _ hq7 D2 (by omega))) rfl pm_Ta_isWord lw_4_185 im_Ta_isWord sl_Ta_isWord ha3 rfl rfl (rcOK hk4 rfl) (by decide) ?_
  refine r_if_eq (tgt := 62) rfl (by decide) (fun hc8 => ?_) (fun hc8 => ?_)
  · have hE := ifP hc8 hE
    refine r_bipush (-8) rfl cb_m8 ?_
    first | exact r_sb (Re_either_b64_ok g N _ _ hrec _ hD _ hself_7  _ _ _ _ _ _ _ hE) ⟨rfl, rfl, rfl, trivial⟩ | exact r_sb (Re_either_b64_ok g N _ _ hrec _ hD _ hself_7  _ _ _ _ _ _ _ hE) (by simp only [su1, su2, dr1_rf, dr1_in, dr1_lo, dr2_rf, dr2_in, dr2_lo]; exact ⟨rfl, rfl, rfl, trivial⟩)
  · have hE := ifN hc8 hE
    refine r_bipush (-7) rfl cb_m7 ?_
    refine r_goto (tgt := 64) rfl (by decide) ?_
    first | exact r_sb (Re_either_b64_ok g N _ _ hrec _ hD _ hself_7  _ _ _ _ _ _ _ hE) ⟨rfl, rfl, rfl, trivial⟩ | exact r_sb (Re_either_b64_ok g N _ _ hrec _ hD _ hself_7  _ _ _ _ _ _ _ hE) (by simp only [su1, su2, dr1_rf, dr1_in, dr1_lo, dr2_rf, dr2_in, dr2_lo]; exact ⟨rfl, rfl, rfl, trivial⟩)
def Re_either_b7 (N : Nat) (rec : Nat → Int32 → PH → Option (Unit × PH)) : Nat → Nat → Int32 → Int32 → PH → Option (Unit × PH)
  | 0 => fun _ _ _ _ => none
  | n + 1 => fun a0 x1 x2 h =>
    if 1000 ≤ x2 then
      some ((), h)
    else
      ck ((hK h a0).1 = 4) <|
      bd (Re_hasMore N a0 h) fun v3 h4 =>
      if (bI v3) = 0 then
        some ((), h4)
      else
        ck ((hK h4 a0).1 = 4) <|
        ((hR h4 a0 0)).bind fun a_8 =>
        ck ((hK h4 a_8).1 = 8) <|
        bd (Ta_isWord N a_8 21 h4) fun v11 h12 =>
        if (bI v11) = 0 then
          ck ((hK h12 a0).1 = 4) <|
          ((hR h12 a0 0)).bind fun a_16 =>
          ck ((hK h12 a_16).1 = 8) <|
          bd (Ta_isWord N a_16 22 h12) fun v19 h20 =>
          if (bI v19) = 0 then
            some ((), h20)
          else
            Re_either_b45 N rec (Re_either_b7 N rec n)  a0 x1 x2 h20
        else
          Re_either_b45 N rec (Re_either_b7 N rec n)  a0 x1 x2 h12
set_option maxRecDepth 20000 in
theorem Re_either_b7_ok (g : GT) (N : Nat) (rec : Nat → Int32 → PH → Option (Unit × PH)) (K0 : Nat) (hrec : ∀ (a0 : Nat) (x1 : Int32) (h : PH) (v : Unit) (h' : PH), rec a0 x1 h = some (v, h') → ∀ D, K0 ≤ D → Calls g D pRe_part [va_rf (some a0), .int x1] h (oV v) h') (D : Nat) (hD : 8 ≤ D ∧ K0 + 4 ≤ D) : ∀ (n : Nat) (a0 : Nat) (x1 : Int32) (x2 : Int32) (h : PH) (v : Unit) (h' : PH), Re_either_b7 N rec n a0 x1 x2 h = some (v, h') → Run g pRe_either D 7 [(0, va_rf (some a0)), (1, .int x1), (2, .int x2)] [] h (rV v) h' := by
  obtain ⟨D2, rfl⟩ : ∃ d, D = d + 1 := ⟨D - 1, by omega⟩
  intro n
  induction n with
  | zero => exact fun _ _ _ _ _ _ hE => nomatch (show none = some _ from hE)
  | succ n ih =>
    intro a0 x1 x2 h v h' hE
    unfold Re_either_b7 at hE
    refine r_iload_n 2 rfl rfl rfl ?_
    refine r_sipush 1000 rfl cs_1000 ?_
    refine r_icmp_ge (tgt := 91) rfl (by decide) (fun hc1 => ?_) (fun hc1 => ?_)
    · have hE := ifP hc1 hE
      cases hE
      exact r_ret rfl (Or.inr (Or.inr (Or.inr ⟨rfl, rfl, rfl, rfl⟩)))
    · have hE := ifN hc1 hE
      refine r_aload_n (t := some a0) 0 rfl rfl rfl ?_
      obtain ⟨hk2, hE⟩ := ckE hE
      obtain ⟨v3, h4, hq5, hE⟩ := bdE hE
      refine r_callV1 (rest := []) (hc := (Re_hasMore_ok g N _ _ _ _ hq5 D2 (by omega))) rfl pm_Re_hasMore lw_4_62 im_Re_hasMore sl_Re_hasMore rfl rfl rfl (rcOK hk2 rfl) (by decide) ?_
      refine r_if_eq (tgt := 91) rfl (by decide) (fun hc6 => ?_) (fun hc6 => ?_)
      · have hE := ifP hc6 hE
        cases hE
        exact r_ret rfl (Or.inr (Or.inr (Or.inr ⟨rfl, rfl, rfl, rfl⟩)))
      · have hE := ifN hc6 hE
        refine r_aload_n (t := some a0) 0 rfl rfl rfl ?_
        obtain ⟨hk7, hE⟩ := ckE hE
        refine r_getR rfl (fl_4_26 rfl) (Or.inl ⟨_, rfl⟩) rfl hk7 ?_
        refine r_bipush 21 rfl cb_21 ?_
        obtain ⟨a_8, ha9, hE⟩ := bnE hE
        obtain ⟨hk10, hE⟩ := ckE hE
        obtain ⟨v11, h12, hq13, hE⟩ := bdE hE
        refine r_callV1 (rest := []) (hc := (Ta_isWord_ok g N _ _ _ _ _ hq13 D2 (by omega))) rfl pm_Ta_isWord lw_4_185 im_Ta_isWord sl_Ta_isWord ha9 rfl rfl (rcOK hk10 rfl) (by decide) ?_
        refine r_if_ne (tgt := 45) rfl (by decide) (fun hc14 => ?_) (fun hc14 => ?_)
        · have hE := ifP hc14 hE
          refine r_aload_n (t := some a0) 0 rfl rfl rfl ?_
          obtain ⟨hk15, hE⟩ := ckE hE
          refine r_getR rfl (fl_4_26 rfl) (Or.inl ⟨_, rfl⟩) rfl hk15 ?_
          refine r_bipush 22 rfl cb_22 ?_
          obtain ⟨a_16, ha17, hE⟩ := bnE hE
          obtain ⟨hk18, hE⟩ := ckE hE
          obtain ⟨v19, h20, hq21, hE⟩ := bdE hE
          refine r_callV1 (rest := []) (hc := (Ta_isWord_ok g N _ _ _ _ _ hq21 D2 (by omega))) rfl pm_Ta_isWord lw_4_185 im_Ta_isWord sl_Ta_isWord ha17 rfl rfl (rcOK hk18 rfl) (by decide) ?_
          refine r_if_eq (tgt := 91) rfl (by decide) (fun hc22 => ?_) (fun hc22 => ?_)
          · have hE := ifP hc22 hE
            cases hE
            exact r_ret rfl (Or.inr (Or.inr (Or.inr ⟨rfl, rfl, rfl, rfl⟩)))
          · have hE := ifN hc22 hE
            first | exact r_sb (Re_either_b45_ok g N _ _ hrec _ hD _ ih  _ _ _ _ _ _ hE) ⟨rfl, rfl, rfl, trivial⟩ | exact r_sb (Re_either_b45_ok g N _ _ hrec _ hD _ ih  _ _ _ _ _ _ hE) (by simp only [su1, su2, dr1_rf, dr1_in, dr1_lo, dr2_rf, dr2_in, dr2_lo]; exact ⟨rfl, rfl, rfl, trivial⟩)
        · have hE := ifN hc14 hE
          first | exact r_sb (Re_either_b45_ok g N _ _ hrec _ hD _ ih  _ _ _ _ _ _ hE) ⟨rfl, rfl, rfl, trivial⟩ | exact r_sb (Re_either_b45_ok g N _ _ hrec _ hD _ ih  _ _ _ _ _ _ hE) (by simp only [su1, su2, dr1_rf, dr1_in, dr1_lo, dr2_rf, dr2_in, dr2_lo]; exact ⟨rfl, rfl, rfl, trivial⟩)
def Re_either (N : Nat) (rec : Nat → Int32 → PH → Option (Unit × PH)) (a0 : Nat) (x1 : Int32) (h : PH) : Option (Unit × PH) :=
  ck ((hK h a0).1 = 4) <|
  bd ((Re_test N rec) a0 x1 h) fun v2 h3 =>
  Re_either_b7 N rec N a0 x1 0 h3
set_option maxRecDepth 20000 in
theorem Re_either_ok (g : GT) (N : Nat) (rec : Nat → Int32 → PH → Option (Unit × PH)) (K0 : Nat) (hrec : ∀ (a0 : Nat) (x1 : Int32) (h : PH) (v : Unit) (h' : PH), rec a0 x1 h = some (v, h') → ∀ D, K0 ≤ D → Calls g D pRe_part [va_rf (some a0), .int x1] h (oV v) h') (a0 : Nat) (x1 : Int32) (h : PH) (v : Unit) (h' : PH) (hE : Re_either N rec a0 x1 h = some (v, h')) (D : Nat) (hD : 8 ≤ D ∧ K0 + 4 ≤ D) : Calls g D pRe_either [va_rf (some a0), .int x1] h (oV v) h' := by
  refine Calls.of cok_Re_either ht_Re_either pl_Re_either (fun ad => by rw [lg_len, sL_cat]; simp only [List.map_cons, List.map_nil, rf_cat, cat_i, cat_l, List.sum_cons, List.sum_nil]; decide) ?_
  rw [show lv_args 0 [va_rf (some a0), .int x1] = [(0, va_rf (some a0)), (1, .int x1)] from (by simp only [lv_args, rf_cat, cat_i, cat_l]; try rfl)]
  obtain ⟨D2, rfl⟩ : ∃ d, D = d + 1 := ⟨D - 1, by omega⟩
  unfold Re_either at hE
  refine r_aload_n (t := some a0) 0 rfl rfl rfl ?_
  refine r_iload_n 1 rfl rfl rfl ?_
  obtain ⟨hk1, hE⟩ := ckE hE
  obtain ⟨v2, h3, hq4, hE⟩ := bdE hE
  refine r_callV0 (rest := []) (hc := (Re_test_ok g N _ _ hrec _ _ _ _ _ hq4 D2 ⟨by omega, by omega⟩)) rfl pm_Re_test lw_4_182 im_Re_test sl_Re_test rfl rfl rfl (rcOK hk1 rfl) (by decide) ?_
  refine r_iconst 0 rfl ci_0 ?_
  refine r_istore_n 2 rfl rfl (by decide) ?_
  first | exact r_sb (Re_either_b7_ok g N _ _ hrec _ hD  N _ _ _ _ _ _ hE) ⟨rfl, rfl, rfl, trivial⟩ | exact r_sb (Re_either_b7_ok g N _ _ hrec _ hD  N _ _ _ _ _ _ hE) (by simp only [su1, su2, dr1_rf, dr1_in, dr1_lo, dr2_rf, dr2_in, dr2_lo]; exact ⟨rfl, rfl, rfl, trivial⟩)
def Re_part_b141 (N : Nat) (rec : Nat → Int32 → PH → Option (Unit × PH)) (s0 : Option Nat) (s1 : Int32) (a0 : Nat) (h : PH) : Option (Unit × PH) :=
  (s0).bind fun a_1 =>
  ck ((hK h a_1).1 = 0) <|
  bd (Ho_write N a_1 s1 h) fun v4 h5 =>
  ck ((hK h5 a0).1 = 4) <|
  ((hR h5 a0 0)).bind fun a_8 =>
  ck ((hK h5 a_8).1 = 8) <|
  bd (Ta_step N a_8 h5) fun v11 h12 =>
  some ((), h12)
set_option maxRecDepth 20000 in
theorem Re_part_b141_ok (g : GT) (N : Nat) (rec : Nat → Int32 → PH → Option (Unit × PH)) (K0 : Nat) (hrec : ∀ (a0 : Nat) (x1 : Int32) (h : PH) (v : Unit) (h' : PH), rec a0 x1 h = some (v, h') → ∀ D, K0 ≤ D → Calls g D pRe_part [va_rf (some a0), .int x1] h (oV v) h') (D : Nat) (hD : 9 ≤ D ∧ K0 + 5 ≤ D) : ∀ (s0 : Option Nat) (s1 : Int32) (a0 : Nat) (h : PH) (v : Unit) (h' : PH), Re_part_b141 N rec s0 s1 a0 h = some (v, h') → Run g pRe_part D 141 [(0, va_rf (some a0))] [.int s1, va_rf s0] h (rV v) h' := by
  obtain ⟨D2, rfl⟩ : ∃ d, D = d + 1 := ⟨D - 1, by omega⟩
  intro s0 s1 a0 h v h' hE
  unfold Re_part_b141 at hE
  obtain ⟨a_1, ha2, hE⟩ := bnE hE
  obtain ⟨hk3, hE⟩ := ckE hE
  obtain ⟨v4, h5, hq6, hE⟩ := bdE hE
  refine r_callV0 (rest := []) (hc := (Ho_write_ok g N _ _ _ _ _ hq6 D2 (by omega))) rfl pm_Ho_write lw_4_189 im_Ho_write sl_Ho_write ha2 rfl rfl (rcOK hk3 rfl) (by decide) ?_
  refine r_aload_n (t := some a0) 0 rfl rfl rfl ?_
  obtain ⟨hk7, hE⟩ := ckE hE
  refine r_getR rfl (fl_4_26 rfl) (Or.inl ⟨_, rfl⟩) rfl hk7 ?_
  obtain ⟨a_8, ha9, hE⟩ := bnE hE
  obtain ⟨hk10, hE⟩ := ckE hE
  obtain ⟨v11, h12, hq13, hE⟩ := bdE hE
  refine r_callV0 (rest := []) (hc := (Ta_step_ok g N _ _ _ _ hq13 D2 (by omega))) rfl pm_Ta_step lw_4_92 im_Ta_step sl_Ta_step ha9 rfl rfl (rcOK hk10 rfl) (by decide) ?_
  refine r_goto (tgt := 226) rfl (by decide) ?_
  cases hE
  exact r_ret rfl (Or.inr (Or.inr (Or.inr ⟨rfl, rfl, rfl, rfl⟩)))
def Re_part_b219 (N : Nat) (rec : Nat → Int32 → PH → Option (Unit × PH)) (a0 : Nat) (h : PH) : Option (Unit × PH) :=
  ck ((hK h a0).1 = 4) <|
  ((hR h a0 0)).bind fun a_2 =>
  ck ((hK h a_2).1 = 8) <|
  bd (Ta_step N a_2 h) fun v5 h6 =>
  some ((), h6)
set_option maxRecDepth 20000 in
theorem Re_part_b219_ok (g : GT) (N : Nat) (rec : Nat → Int32 → PH → Option (Unit × PH)) (K0 : Nat) (hrec : ∀ (a0 : Nat) (x1 : Int32) (h : PH) (v : Unit) (h' : PH), rec a0 x1 h = some (v, h') → ∀ D, K0 ≤ D → Calls g D pRe_part [va_rf (some a0), .int x1] h (oV v) h') (D : Nat) (hD : 9 ≤ D ∧ K0 + 5 ≤ D) : ∀ (a0 : Nat) (h : PH) (v : Unit) (h' : PH), Re_part_b219 N rec a0 h = some (v, h') → Run g pRe_part D 219 [(0, va_rf (some a0))] [] h (rV v) h' := by
  obtain ⟨D2, rfl⟩ : ∃ d, D = d + 1 := ⟨D - 1, by omega⟩
  intro a0 h v h' hE
  unfold Re_part_b219 at hE
  refine r_aload_n (t := some a0) 0 rfl rfl rfl ?_
  obtain ⟨hk1, hE⟩ := ckE hE
  refine r_getR rfl (fl_4_26 rfl) (Or.inl ⟨_, rfl⟩) rfl hk1 ?_
  obtain ⟨a_2, ha3, hE⟩ := bnE hE
  obtain ⟨hk4, hE⟩ := ckE hE
  obtain ⟨v5, h6, hq7, hE⟩ := bdE hE
  refine r_callV0 (rest := []) (hc := (Ta_step_ok g N _ _ _ _ hq7 D2 (by omega))) rfl pm_Ta_step lw_4_92 im_Ta_step sl_Ta_step ha3 rfl rfl (rcOK hk4 rfl) (by decide) ?_
  cases hE
  exact r_ret rfl (Or.inr (Or.inr (Or.inr ⟨rfl, rfl, rfl, rfl⟩)))
def Re_part_b93 (N : Nat) (rec : Nat → Int32 → PH → Option (Unit × PH)) (a0 : Nat) (x1 : Int32) (x2 : Int32) (x3 : Int32) (x4 : Int32) (h : PH) : Option (Unit × PH) :=
  if x1 < 5 then
    if x3 = 0 then
      if x4 = 0 then
        ck ((hK h a0).1 = 4) <|
        ((hR h a0 0)).bind fun a_5 =>
        ck ((hK h a_5).1 = 8) <|
        bd (Ta_step N a_5 h) fun v8 h9 =>
        ck ((hK h9 a0).1 = 4) <|
        bd ((Re_either N rec) a0 (x1 + 1) h9) fun v12 h13 =>
        ck ((hK h13 a0).1 = 4) <|
        ((hR h13 a0 0)).bind fun a_16 =>
        ck ((hK h13 a_16).1 = 8) <|
        if (hI h13 a_16 2) = 41 then
          Re_part_b219 N rec  a0 h13
        else
          bd (Ta_blame N a_16 1 h13) fun v20 h21 =>
          Re_part_b219 N rec  a0 h21
      else
        ck ((hK h a0).1 = 4) <|
        ((hR h a0 0)).bind fun a_24 =>
        ck ((hK h a_24).1 = 8) <|
        bd (Ta_step N a_24 h) fun v27 h28 =>
        ck ((hK h28 a0).1 = 4) <|
        bd (rec a0 (x1 + 1) h28) fun v31 h32 =>
        ck ((hK h32 a0).1 = 4) <|
        ((hR h32 a0 1)).bind fun a_35 =>
        ck ((hK h32 a_35).1 = 0) <|
        bd (Ho_write N a_35 (-6) h32) fun v38 h39 =>
        some ((), h39)
    else
      ck ((hK h a0).1 = 4) <|
      if x2 = 0 then
        ((hR h a0 0)).bind fun a_43 =>
        ck ((hK h a_43).1 = 8) <|
        Re_part_b141 N rec  (hR h a0 1) (hI h a_43 5) a0 h
      else
        ((hR h a0 0)).bind fun a_46 =>
        ck ((hK h a_46).1 = 8) <|
        Re_part_b141 N rec  (hR h a0 1) (22 - (hI h a_46 6)) a0 h
  else
    ck ((hK h a0).1 = 4) <|
    ((hR h a0 0)).bind fun a_50 =>
    ck ((hK h a_50).1 = 8) <|
    bd (Ta_blame N a_50 5 h) fun v53 h54 =>
    some ((), h54)
set_option maxRecDepth 20000 in
theorem Re_part_b93_ok (g : GT) (N : Nat) (rec : Nat → Int32 → PH → Option (Unit × PH)) (K0 : Nat) (hrec : ∀ (a0 : Nat) (x1 : Int32) (h : PH) (v : Unit) (h' : PH), rec a0 x1 h = some (v, h') → ∀ D, K0 ≤ D → Calls g D pRe_part [va_rf (some a0), .int x1] h (oV v) h') (D : Nat) (hD : 9 ≤ D ∧ K0 + 5 ≤ D) : ∀ (a0 : Nat) (x1 : Int32) (x2 : Int32) (x3 : Int32) (x4 : Int32) (h : PH) (v : Unit) (h' : PH), Re_part_b93 N rec a0 x1 x2 x3 x4 h = some (v, h') → Run g pRe_part D 93 [(0, va_rf (some a0)), (1, .int x1), (2, .int x2), (3, .int x3), (4, .int x4)] [] h (rV v) h' := by
  obtain ⟨D2, rfl⟩ : ∃ d, D = d + 1 := ⟨D - 1, by omega⟩
  intro a0 x1 x2 x3 x4 h v h' hE
  unfold Re_part_b93 at hE
  refine r_iload_n 1 rfl rfl rfl ?_
  refine r_iconst 5 rfl ci_5 ?_
  refine r_icmp_lt (tgt := 109) rfl (by decide) (fun hc1 => ?_) (fun hc1 => ?_)
  · have hE := ifP hc1 hE
    refine r_iload_n 3 rfl rfl rfl ?_
    refine r_if_eq (tgt := 154) rfl (by decide) (fun hc2 => ?_) (fun hc2 => ?_)
    · have hE := ifP hc2 hE
      refine r_iload rfl rfl ?_
      refine r_if_eq (tgt := 185) rfl (by decide) (fun hc3 => ?_) (fun hc3 => ?_)
      · have hE := ifP hc3 hE
        refine r_aload_n (t := some a0) 0 rfl rfl rfl ?_
        obtain ⟨hk4, hE⟩ := ckE hE
        refine r_getR rfl (fl_4_26 rfl) (Or.inl ⟨_, rfl⟩) rfl hk4 ?_
        obtain ⟨a_5, ha6, hE⟩ := bnE hE
        obtain ⟨hk7, hE⟩ := ckE hE
        obtain ⟨v8, h9, hq10, hE⟩ := bdE hE
        refine r_callV0 (rest := []) (hc := (Ta_step_ok g N _ _ _ _ hq10 D2 (by omega))) rfl pm_Ta_step lw_4_92 im_Ta_step sl_Ta_step ha6 rfl rfl (rcOK hk7 rfl) (by decide) ?_
        refine r_aload_n (t := some a0) 0 rfl rfl rfl ?_
        refine r_iload_n 1 rfl rfl rfl ?_
        refine r_iconst 1 rfl ci_1 ?_
        refine r_iadd rfl ?_
        obtain ⟨hk11, hE⟩ := ckE hE
        obtain ⟨v12, h13, hq14, hE⟩ := bdE hE
        refine r_callV0 (rest := []) (hc := (Re_either_ok g N _ _ hrec _ _ _ _ _ hq14 D2 ⟨by omega, by omega⟩)) rfl pm_Re_either lw_4_176 im_Re_either sl_Re_either rfl rfl rfl (rcOK hk11 rfl) (by decide) ?_
        refine r_aload_n (t := some a0) 0 rfl rfl rfl ?_
        obtain ⟨hk15, hE⟩ := ckE hE
        refine r_getR rfl (fl_4_26 rfl) (Or.inl ⟨_, rfl⟩) rfl hk15 ?_
        obtain ⟨a_16, ha17, hE⟩ := bnE hE
        obtain ⟨hk18, hE⟩ := ckE hE
        refine r_getI rfl (fl_4_83 rfl) (Or.inl rfl) ha17 hk18 ?_
        refine r_bipush 41 rfl cb_41 ?_
        refine r_icmp_eq (tgt := 219) rfl (by decide) (fun hc19 => ?_) (fun hc19 => ?_)
        · have hE := ifP hc19 hE
          first | exact r_sb (Re_part_b219_ok g N _ _ hrec _ hD   _ _ _ _ hE) ⟨rfl, trivial⟩ | exact r_sb (Re_part_b219_ok g N _ _ hrec _ hD   _ _ _ _ hE) (by simp only [su1, su2, dr1_rf, dr1_in, dr1_lo, dr2_rf, dr2_in, dr2_lo]; exact ⟨rfl, trivial⟩)
        · have hE := ifN hc19 hE
          refine r_aload_n (t := some a0) 0 rfl rfl rfl ?_
          refine r_getR rfl (fl_4_26 rfl) (Or.inl ⟨_, rfl⟩) rfl hk15 ?_
          refine r_iconst 1 rfl ci_1 ?_
          obtain ⟨v20, h21, hq22, hE⟩ := bdE hE
          refine r_callV0 (rest := []) (hc := (Ta_blame_ok g N _ _ _ _ _ hq22 D2 (by omega))) rfl pm_Ta_blame lw_4_89 im_Ta_blame sl_Ta_blame ha17 rfl rfl (rcOK hk18 rfl) (by decide) ?_
          first | exact r_sb (Re_part_b219_ok g N _ _ hrec _ hD   _ _ _ _ hE) ⟨rfl, trivial⟩ | exact r_sb (Re_part_b219_ok g N _ _ hrec _ hD   _ _ _ _ hE) (by simp only [su1, su2, dr1_rf, dr1_in, dr1_lo, dr2_rf, dr2_in, dr2_lo]; exact ⟨rfl, trivial⟩)
      · have hE := ifN hc3 hE
        refine r_aload_n (t := some a0) 0 rfl rfl rfl ?_
        obtain ⟨hk23, hE⟩ := ckE hE
        refine r_getR rfl (fl_4_26 rfl) (Or.inl ⟨_, rfl⟩) rfl hk23 ?_
        obtain ⟨a_24, ha25, hE⟩ := bnE hE
        obtain ⟨hk26, hE⟩ := ckE hE
        obtain ⟨v27, h28, hq29, hE⟩ := bdE hE
        refine r_callV0 (rest := []) (hc := (Ta_step_ok g N _ _ _ _ hq29 D2 (by omega))) rfl pm_Ta_step lw_4_92 im_Ta_step sl_Ta_step ha25 rfl rfl (rcOK hk26 rfl) (by decide) ?_
        refine r_aload_n (t := some a0) 0 rfl rfl rfl ?_
        refine r_iload_n 1 rfl rfl rfl ?_
        refine r_iconst 1 rfl ci_1 ?_
        refine r_iadd rfl ?_
        obtain ⟨hk30, hE⟩ := ckE hE
        obtain ⟨v31, h32, hq33, hE⟩ := bdE hE
        refine r_callV0 (rest := []) (hc := (hrec _ _ _ _ _ hq33 D2 (by omega))) rfl pm_Re_part lw_4_198 im_Re_part sl_Re_part rfl rfl rfl (rcOK hk30 rfl) (by decide) ?_
        refine r_aload_n (t := some a0) 0 rfl rfl rfl ?_
        obtain ⟨hk34, hE⟩ := ckE hE
        refine r_getR rfl (fl_4_30 rfl) (Or.inl ⟨_, rfl⟩) rfl hk34 ?_
        refine r_bipush (-6) rfl cb_m6 ?_
        obtain ⟨a_35, ha36, hE⟩ := bnE hE
        obtain ⟨hk37, hE⟩ := ckE hE
        obtain ⟨v38, h39, hq40, hE⟩ := bdE hE
        refine r_callV0 (rest := []) (hc := (Ho_write_ok g N _ _ _ _ _ hq40 D2 (by omega))) rfl pm_Ho_write lw_4_189 im_Ho_write sl_Ho_write ha36 rfl rfl (rcOK hk37 rfl) (by decide) ?_
        refine r_goto (tgt := 226) rfl (by decide) ?_
        cases hE
        exact r_ret rfl (Or.inr (Or.inr (Or.inr ⟨rfl, rfl, rfl, rfl⟩)))
    · have hE := ifN hc2 hE
      refine r_aload_n (t := some a0) 0 rfl rfl rfl ?_
      obtain ⟨hk41, hE⟩ := ckE hE
      refine r_getR rfl (fl_4_30 rfl) (Or.inl ⟨_, rfl⟩) rfl hk41 ?_
      refine r_iload_n 2 rfl rfl rfl ?_
      refine r_if_eq (tgt := 134) rfl (by decide) (fun hc42 => ?_) (fun hc42 => ?_)
      · have hE := ifP hc42 hE
        refine r_aload_n (t := some a0) 0 rfl rfl rfl ?_
        refine r_getR rfl (fl_4_26 rfl) (Or.inl ⟨_, rfl⟩) rfl hk41 ?_
        obtain ⟨a_43, ha44, hE⟩ := bnE hE
        obtain ⟨hk45, hE⟩ := ckE hE
        refine r_getI rfl (fl_4_154 rfl) (Or.inl rfl) ha44 hk45 ?_
        first | exact r_sb (Re_part_b141_ok g N _ _ hrec _ hD   _ _ _ _ _ _ hE) ⟨rfl, trivial⟩ | exact r_sb (Re_part_b141_ok g N _ _ hrec _ hD   _ _ _ _ _ _ hE) (by simp only [su1, su2, dr1_rf, dr1_in, dr1_lo, dr2_rf, dr2_in, dr2_lo]; exact ⟨rfl, trivial⟩)
      · have hE := ifN hc42 hE
        refine r_bipush 22 rfl cb_22 ?_
        refine r_aload_n (t := some a0) 0 rfl rfl rfl ?_
        refine r_getR rfl (fl_4_26 rfl) (Or.inl ⟨_, rfl⟩) rfl hk41 ?_
        obtain ⟨a_46, ha47, hE⟩ := bnE hE
        obtain ⟨hk48, hE⟩ := ckE hE
        refine r_getI rfl (fl_4_86 rfl) (Or.inl rfl) ha47 hk48 ?_
        refine r_isub rfl ?_
        refine r_goto (tgt := 141) rfl (by decide) ?_
        first | exact r_sb (Re_part_b141_ok g N _ _ hrec _ hD   _ _ _ _ _ _ hE) ⟨rfl, trivial⟩ | exact r_sb (Re_part_b141_ok g N _ _ hrec _ hD   _ _ _ _ _ _ hE) (by simp only [su1, su2, dr1_rf, dr1_in, dr1_lo, dr2_rf, dr2_in, dr2_lo]; exact ⟨rfl, trivial⟩)
  · have hE := ifN hc1 hE
    refine r_aload_n (t := some a0) 0 rfl rfl rfl ?_
    obtain ⟨hk49, hE⟩ := ckE hE
    refine r_getR rfl (fl_4_26 rfl) (Or.inl ⟨_, rfl⟩) rfl hk49 ?_
    refine r_iconst 5 rfl ci_5 ?_
    obtain ⟨a_50, ha51, hE⟩ := bnE hE
    obtain ⟨hk52, hE⟩ := ckE hE
    obtain ⟨v53, h54, hq55, hE⟩ := bdE hE
    refine r_callV0 (rest := []) (hc := (Ta_blame_ok g N _ _ _ _ _ hq55 D2 (by omega))) rfl pm_Ta_blame lw_4_89 im_Ta_blame sl_Ta_blame ha51 rfl rfl (rcOK hk52 rfl) (by decide) ?_
    refine r_goto (tgt := 226) rfl (by decide) ?_
    cases hE
    exact r_ret rfl (Or.inr (Or.inr (Or.inr ⟨rfl, rfl, rfl, rfl⟩)))
def Re_part_b49 (N : Nat) (rec : Nat → Int32 → PH → Option (Unit × PH)) (s0 : Int32) (a0 : Nat) (x1 : Int32) (x2 : Int32) (h : PH) : Option (Unit × PH) :=
  ck ((hK h a0).1 = 4) <|
  ((hR h a0 0)).bind fun a_2 =>
  ck ((hK h a_2).1 = 8) <|
  bd (Ta_isWord N a_2 20 h) fun v5 h6 =>
  if s0 = 0 then
    if (bI v5) = 0 then
      ck ((hK h6 a0).1 = 4) <|
      ((hR h6 a0 0)).bind fun a_11 =>
      ck ((hK h6 a_11).1 = 8) <|
      if (hI h6 a_11 2) = 40 then
        Re_part_b93 N rec  a0 x1 x2 s0 (bI v5) h6
      else
        bd (Ta_blame N a_11 1 h6) fun v15 h16 =>
        some ((), h16)
    else
      Re_part_b93 N rec  a0 x1 x2 s0 (bI v5) h6
  else
    Re_part_b93 N rec  a0 x1 x2 s0 (bI v5) h6
set_option maxRecDepth 20000 in
theorem Re_part_b49_ok (g : GT) (N : Nat) (rec : Nat → Int32 → PH → Option (Unit × PH)) (K0 : Nat) (hrec : ∀ (a0 : Nat) (x1 : Int32) (h : PH) (v : Unit) (h' : PH), rec a0 x1 h = some (v, h') → ∀ D, K0 ≤ D → Calls g D pRe_part [va_rf (some a0), .int x1] h (oV v) h') (D : Nat) (hD : 9 ≤ D ∧ K0 + 5 ≤ D) : ∀ (s0 : Int32) (a0 : Nat) (x1 : Int32) (x2 : Int32) (h : PH) (v : Unit) (h' : PH), Re_part_b49 N rec s0 a0 x1 x2 h = some (v, h') → Run g pRe_part D 49 [(0, va_rf (some a0)), (1, .int x1), (2, .int x2)] [.int s0] h (rV v) h' := by
  obtain ⟨D2, rfl⟩ : ∃ d, D = d + 1 := ⟨D - 1, by omega⟩
  intro s0 a0 x1 x2 h v h' hE
  unfold Re_part_b49 at hE
  refine r_istore_n 3 rfl rfl (by decide) ?_
  refine r_aload_n (t := some a0) 0 rfl rfl rfl ?_
  obtain ⟨hk1, hE⟩ := ckE hE
  refine r_getR rfl (fl_4_26 rfl) (Or.inl ⟨_, rfl⟩) rfl hk1 ?_
  refine r_bipush 20 rfl cb_20 ?_
  obtain ⟨a_2, ha3, hE⟩ := bnE hE
  obtain ⟨hk4, hE⟩ := ckE hE
  obtain ⟨v5, h6, hq7, hE⟩ := bdE hE
  refine r_callV1 (rest := []) (hc := (Ta_isWord_ok g N _ _ _ _ _ hq7 D2 (by omega))) rfl pm_Ta_isWord lw_4_185 im_Ta_isWord sl_Ta_isWord ha3 rfl rfl (rcOK hk4 rfl) (by decide) ?_
  refine r_istore rfl (by decide) ?_
  refine r_iload_n 3 rfl rfl rfl ?_
  refine r_if_ne (tgt := 93) rfl (by decide) (fun hc8 => ?_) (fun hc8 => ?_)
  · have hE := ifP hc8 hE
    refine r_iload rfl rfl ?_
    refine r_if_ne (tgt := 93) rfl (by decide) (fun hc9 => ?_) (fun hc9 => ?_)
    · have hE := ifP hc9 hE
      refine r_aload_n (t := some a0) 0 rfl rfl rfl ?_
      obtain ⟨hk10, hE⟩ := ckE hE
      refine r_getR rfl (fl_4_26 rfl) (Or.inl ⟨_, rfl⟩) rfl hk10 ?_
      obtain ⟨a_11, ha12, hE⟩ := bnE hE
      obtain ⟨hk13, hE⟩ := ckE hE
      refine r_getI rfl (fl_4_83 rfl) (Or.inl rfl) ha12 hk13 ?_
      refine r_bipush 40 rfl cb_40 ?_
      refine r_icmp_eq (tgt := 93) rfl (by decide) (fun hc14 => ?_) (fun hc14 => ?_)
      · have hE := ifP hc14 hE
        first | exact r_sb (Re_part_b93_ok g N _ _ hrec _ hD   _ _ _ _ _ _ _ _ hE) ⟨rfl, rfl, rfl, rfl, rfl, trivial⟩ | exact r_sb (Re_part_b93_ok g N _ _ hrec _ hD   _ _ _ _ _ _ _ _ hE) (by simp only [su1, su2, dr1_rf, dr1_in, dr1_lo, dr2_rf, dr2_in, dr2_lo]; exact ⟨rfl, rfl, rfl, rfl, rfl, trivial⟩)
      · have hE := ifN hc14 hE
        refine r_aload_n (t := some a0) 0 rfl rfl rfl ?_
        refine r_getR rfl (fl_4_26 rfl) (Or.inl ⟨_, rfl⟩) rfl hk10 ?_
        refine r_iconst 1 rfl ci_1 ?_
        obtain ⟨v15, h16, hq17, hE⟩ := bdE hE
        refine r_callV0 (rest := []) (hc := (Ta_blame_ok g N _ _ _ _ _ hq17 D2 (by omega))) rfl pm_Ta_blame lw_4_89 im_Ta_blame sl_Ta_blame ha12 rfl rfl (rcOK hk13 rfl) (by decide) ?_
        refine r_goto (tgt := 226) rfl (by decide) ?_
        cases hE
        exact r_ret rfl (Or.inr (Or.inr (Or.inr ⟨rfl, rfl, rfl, rfl⟩)))
    · have hE := ifN hc9 hE
      first | exact r_sb (Re_part_b93_ok g N _ _ hrec _ hD   _ _ _ _ _ _ _ _ hE) ⟨rfl, rfl, rfl, rfl, rfl, trivial⟩ | exact r_sb (Re_part_b93_ok g N _ _ hrec _ hD   _ _ _ _ _ _ _ _ hE) (by simp only [su1, su2, dr1_rf, dr1_in, dr1_lo, dr2_rf, dr2_in, dr2_lo]; exact ⟨rfl, rfl, rfl, rfl, rfl, trivial⟩)
  · have hE := ifN hc8 hE
    first | exact r_sb (Re_part_b93_ok g N _ _ hrec _ hD   _ _ _ _ _ _ _ _ hE) ⟨rfl, rfl, rfl, rfl, rfl, trivial⟩ | exact r_sb (Re_part_b93_ok g N _ _ hrec _ hD   _ _ _ _ _ _ _ _ hE) (by simp only [su1, su2, dr1_rf, dr1_in, dr1_lo, dr2_rf, dr2_in, dr2_lo]; exact ⟨rfl, rfl, rfl, rfl, rfl, trivial⟩)
def Re_part_b44 (N : Nat) (rec : Nat → Int32 → PH → Option (Unit × PH)) (a0 : Nat) (x1 : Int32) (x2 : Int32) (h : PH) : Option (Unit × PH) :=
  Re_part_b49 N rec  1 a0 x1 x2 h
set_option maxRecDepth 20000 in
theorem Re_part_b44_ok (g : GT) (N : Nat) (rec : Nat → Int32 → PH → Option (Unit × PH)) (K0 : Nat) (hrec : ∀ (a0 : Nat) (x1 : Int32) (h : PH) (v : Unit) (h' : PH), rec a0 x1 h = some (v, h') → ∀ D, K0 ≤ D → Calls g D pRe_part [va_rf (some a0), .int x1] h (oV v) h') (D : Nat) (hD : 9 ≤ D ∧ K0 + 5 ≤ D) : ∀ (a0 : Nat) (x1 : Int32) (x2 : Int32) (h : PH) (v : Unit) (h' : PH), Re_part_b44 N rec a0 x1 x2 h = some (v, h') → Run g pRe_part D 44 [(0, va_rf (some a0)), (1, .int x1), (2, .int x2)] [] h (rV v) h' := by
  obtain ⟨D2, rfl⟩ : ∃ d, D = d + 1 := ⟨D - 1, by omega⟩
  intro a0 x1 x2 h v h' hE
  unfold Re_part_b44 at hE
  refine r_iconst 1 rfl ci_1 ?_
  refine r_goto (tgt := 49) rfl (by decide) ?_
  first | exact r_sb (Re_part_b49_ok g N _ _ hrec _ hD   _ _ _ _ _ _ _ hE) ⟨rfl, rfl, rfl, trivial⟩ | exact r_sb (Re_part_b49_ok g N _ _ hrec _ hD   _ _ _ _ _ _ _ hE) (by simp only [su1, su2, dr1_rf, dr1_in, dr1_lo, dr2_rf, dr2_in, dr2_lo]; exact ⟨rfl, rfl, rfl, trivial⟩)
def Re_part_b28 (N : Nat) (rec : Nat → Int32 → PH → Option (Unit × PH)) (s0 : Int32) (a0 : Nat) (x1 : Int32) (h : PH) : Option (Unit × PH) :=
  ck ((hK h a0).1 = 4) <|
  ((hR h a0 0)).bind fun a_2 =>
  ck ((hK h a_2).1 = 8) <|
  if (hI h a_2 2) = 1 then
    Re_part_b44 N rec  a0 x1 s0 h
  else
    if s0 = 0 then
      Re_part_b49 N rec  0 a0 x1 s0 h
    else
      Re_part_b44 N rec  a0 x1 s0 h
set_option maxRecDepth 20000 in
theorem Re_part_b28_ok (g : GT) (N : Nat) (rec : Nat → Int32 → PH → Option (Unit × PH)) (K0 : Nat) (hrec : ∀ (a0 : Nat) (x1 : Int32) (h : PH) (v : Unit) (h' : PH), rec a0 x1 h = some (v, h') → ∀ D, K0 ≤ D → Calls g D pRe_part [va_rf (some a0), .int x1] h (oV v) h') (D : Nat) (hD : 9 ≤ D ∧ K0 + 5 ≤ D) : ∀ (s0 : Int32) (a0 : Nat) (x1 : Int32) (h : PH) (v : Unit) (h' : PH), Re_part_b28 N rec s0 a0 x1 h = some (v, h') → Run g pRe_part D 28 [(0, va_rf (some a0)), (1, .int x1)] [.int s0] h (rV v) h' := by
  obtain ⟨D2, rfl⟩ : ∃ d, D = d + 1 := ⟨D - 1, by omega⟩
  intro s0 a0 x1 h v h' hE
  unfold Re_part_b28 at hE
  refine r_istore_n 2 rfl rfl (by decide) ?_
  refine r_aload_n (t := some a0) 0 rfl rfl rfl ?_
  obtain ⟨hk1, hE⟩ := ckE hE
  refine r_getR rfl (fl_4_26 rfl) (Or.inl ⟨_, rfl⟩) rfl hk1 ?_
  obtain ⟨a_2, ha3, hE⟩ := bnE hE
  obtain ⟨hk4, hE⟩ := ckE hE
  refine r_getI rfl (fl_4_83 rfl) (Or.inl rfl) ha3 hk4 ?_
  refine r_iconst 1 rfl ci_1 ?_
  refine r_icmp_eq (tgt := 44) rfl (by decide) (fun hc5 => ?_) (fun hc5 => ?_)
  · have hE := ifP hc5 hE
    first | exact r_sb (Re_part_b44_ok g N _ _ hrec _ hD   _ _ _ _ _ _ hE) ⟨rfl, rfl, rfl, trivial⟩ | exact r_sb (Re_part_b44_ok g N _ _ hrec _ hD   _ _ _ _ _ _ hE) (by simp only [su1, su2, dr1_rf, dr1_in, dr1_lo, dr2_rf, dr2_in, dr2_lo]; exact ⟨rfl, rfl, rfl, trivial⟩)
  · have hE := ifN hc5 hE
    refine r_iload_n 2 rfl rfl rfl ?_
    refine r_if_eq (tgt := 48) rfl (by decide) (fun hc6 => ?_) (fun hc6 => ?_)
    · have hE := ifP hc6 hE
      refine r_iconst 0 rfl ci_0 ?_
      first | exact r_sb (Re_part_b49_ok g N _ _ hrec _ hD   _ _ _ _ _ _ _ hE) ⟨rfl, rfl, rfl, trivial⟩ | exact r_sb (Re_part_b49_ok g N _ _ hrec _ hD   _ _ _ _ _ _ _ hE) (by simp only [su1, su2, dr1_rf, dr1_in, dr1_lo, dr2_rf, dr2_in, dr2_lo]; exact ⟨rfl, rfl, rfl, trivial⟩)
    · have hE := ifN hc6 hE
      first | exact r_sb (Re_part_b44_ok g N _ _ hrec _ hD   _ _ _ _ _ _ hE) ⟨rfl, rfl, rfl, trivial⟩ | exact r_sb (Re_part_b44_ok g N _ _ hrec _ hD   _ _ _ _ _ _ hE) (by simp only [su1, su2, dr1_rf, dr1_in, dr1_lo, dr2_rf, dr2_in, dr2_lo]; exact ⟨rfl, rfl, rfl, trivial⟩)
def Re_part_b27 (N : Nat) (rec : Nat → Int32 → PH → Option (Unit × PH)) (a0 : Nat) (x1 : Int32) (h : PH) : Option (Unit × PH) :=
  Re_part_b28 N rec  0 a0 x1 h
set_option maxRecDepth 20000 in
theorem Re_part_b27_ok (g : GT) (N : Nat) (rec : Nat → Int32 → PH → Option (Unit × PH)) (K0 : Nat) (hrec : ∀ (a0 : Nat) (x1 : Int32) (h : PH) (v : Unit) (h' : PH), rec a0 x1 h = some (v, h') → ∀ D, K0 ≤ D → Calls g D pRe_part [va_rf (some a0), .int x1] h (oV v) h') (D : Nat) (hD : 9 ≤ D ∧ K0 + 5 ≤ D) : ∀ (a0 : Nat) (x1 : Int32) (h : PH) (v : Unit) (h' : PH), Re_part_b27 N rec a0 x1 h = some (v, h') → Run g pRe_part D 27 [(0, va_rf (some a0)), (1, .int x1)] [] h (rV v) h' := by
  obtain ⟨D2, rfl⟩ : ∃ d, D = d + 1 := ⟨D - 1, by omega⟩
  intro a0 x1 h v h' hE
  unfold Re_part_b27 at hE
  refine r_iconst 0 rfl ci_0 ?_
  first | exact r_sb (Re_part_b28_ok g N _ _ hrec _ hD   _ _ _ _ _ _ hE) ⟨rfl, rfl, trivial⟩ | exact r_sb (Re_part_b28_ok g N _ _ hrec _ hD   _ _ _ _ _ _ hE) (by simp only [su1, su2, dr1_rf, dr1_in, dr1_lo, dr2_rf, dr2_in, dr2_lo]; exact ⟨rfl, rfl, trivial⟩)
def Re_part (N : Nat) : Nat → Nat → Int32 → PH → Option (Unit × PH)
  | 0 => fun _ _ _ => none
  | n + 1 => fun a0 x1 h =>
    ck ((hK h a0).1 = 4) <|
    ((hR h a0 0)).bind fun a_2 =>
    ck ((hK h a_2).1 = 8) <|
    if (hI h a_2 2) = 2 then
      if (hI h a_2 6) < 23 then
        Re_part_b27 N (Re_part N n)  a0 x1 h
      else
        Re_part_b28 N (Re_part N n)  1 a0 x1 h
    else
      Re_part_b27 N (Re_part N n)  a0 x1 h
set_option maxRecDepth 20000 in
theorem Re_part_ok (g : GT) (N : Nat) : ∀ (n : Nat) (a0 : Nat) (x1 : Int32) (h : PH) (v : Unit) (h' : PH), Re_part N n a0 x1 h = some (v, h') → ∀ D, 6 * n + 12 ≤ D → Calls g D pRe_part [va_rf (some a0), .int x1] h (oV v) h' := by
  intro n
  induction n with
  | zero => exact fun _ _ _ _ _ hE => nomatch (show none = some _ from hE)
  | succ n hrec =>
    intro a0 x1 h v h' hE D hD0
    have hD : 9 ≤ D ∧ 6 * n + 12 + 5 ≤ D := ⟨by omega, by omega⟩
    refine Calls.of cok_Re_part ht_Re_part pl_Re_part (fun ad => by rw [lg_len, sL_cat]; simp only [List.map_cons, List.map_nil, rf_cat, cat_i, cat_l, List.sum_cons, List.sum_nil]; decide) ?_
    rw [show lv_args 0 [va_rf (some a0), .int x1] = [(0, va_rf (some a0)), (1, .int x1)] from (by simp only [lv_args, rf_cat, cat_i, cat_l]; try rfl)]
    obtain ⟨D2, rfl⟩ : ∃ d, D = d + 1 := ⟨D - 1, by omega⟩
    unfold Re_part at hE
    refine r_aload_n (t := some a0) 0 rfl rfl rfl ?_
    obtain ⟨hk1, hE⟩ := ckE hE
    refine r_getR rfl (fl_4_26 rfl) (Or.inl ⟨_, rfl⟩) rfl hk1 ?_
    obtain ⟨a_2, ha3, hE⟩ := bnE hE
    obtain ⟨hk4, hE⟩ := ckE hE
    refine r_getI rfl (fl_4_83 rfl) (Or.inl rfl) ha3 hk4 ?_
    refine r_iconst 2 rfl ci_2 ?_
    refine r_icmp_ne (tgt := 27) rfl (by decide) (fun hc5 => ?_) (fun hc5 => ?_)
    · have hE := ifP hc5 hE
      refine r_aload_n (t := some a0) 0 rfl rfl rfl ?_
      refine r_getR rfl (fl_4_26 rfl) (Or.inl ⟨_, rfl⟩) rfl hk1 ?_
      refine r_getI rfl (fl_4_86 rfl) (Or.inl rfl) ha3 hk4 ?_
      refine r_bipush 23 rfl cb_23 ?_
      refine r_icmp_lt (tgt := 27) rfl (by decide) (fun hc6 => ?_) (fun hc6 => ?_)
      · have hE := ifP hc6 hE
        first | exact r_sb (Re_part_b27_ok g N _ _ hrec _ hD   _ _ _ _ _ hE) ⟨rfl, rfl, trivial⟩ | exact r_sb (Re_part_b27_ok g N _ _ hrec _ hD   _ _ _ _ _ hE) (by simp only [su1, su2, dr1_rf, dr1_in, dr1_lo, dr2_rf, dr2_in, dr2_lo]; exact ⟨rfl, rfl, trivial⟩)
      · have hE := ifN hc6 hE
        refine r_iconst 1 rfl ci_1 ?_
        refine r_goto (tgt := 28) rfl (by decide) ?_
        first | exact r_sb (Re_part_b28_ok g N _ _ hrec _ hD   _ _ _ _ _ _ hE) ⟨rfl, rfl, trivial⟩ | exact r_sb (Re_part_b28_ok g N _ _ hrec _ hD   _ _ _ _ _ _ hE) (by simp only [su1, su2, dr1_rf, dr1_in, dr1_lo, dr2_rf, dr2_in, dr2_lo]; exact ⟨rfl, rfl, trivial⟩)
    · have hE := ifN hc5 hE
      first | exact r_sb (Re_part_b27_ok g N _ _ hrec _ hD   _ _ _ _ _ hE) ⟨rfl, rfl, trivial⟩ | exact r_sb (Re_part_b27_ok g N _ _ hrec _ hD   _ _ _ _ _ hE) (by simp only [su1, su2, dr1_rf, dr1_in, dr1_lo, dr2_rf, dr2_in, dr2_lo]; exact ⟨rfl, rfl, trivial⟩)
def Re_habitLine_b26 (N : Nat) (a0 : Nat) (h : PH) : Option (Unit × PH) :=
  ck ((hK h a0).1 = 4) <|
  ((hR h a0 0)).bind fun a_2 =>
  ck ((hK h a_2).1 = 8) <|
  bd (Ta_blame N a_2 5 h) fun v5 h6 =>
  some ((), h6)
set_option maxRecDepth 20000 in
theorem Re_habitLine_b26_ok (g : GT) (N : Nat) (D : Nat) (hD : 60 ≤ D) : ∀ (a0 : Nat) (h : PH) (v : Unit) (h' : PH), Re_habitLine_b26 N a0 h = some (v, h') → Run g pRe_habitLine D 26 [(0, va_rf (some a0))] [] h (rV v) h' := by
  obtain ⟨D2, rfl⟩ : ∃ d, D = d + 1 := ⟨D - 1, by omega⟩
  intro a0 h v h' hE
  unfold Re_habitLine_b26 at hE
  refine r_aload_n (t := some a0) 0 rfl rfl rfl ?_
  obtain ⟨hk1, hE⟩ := ckE hE
  refine r_getR rfl (fl_4_26 rfl) (Or.inl ⟨_, rfl⟩) rfl hk1 ?_
  refine r_iconst 5 rfl ci_5 ?_
  obtain ⟨a_2, ha3, hE⟩ := bnE hE
  obtain ⟨hk4, hE⟩ := ckE hE
  obtain ⟨v5, h6, hq7, hE⟩ := bdE hE
  refine r_callV0 (rest := []) (hc := (Ta_blame_ok g N _ _ _ _ _ hq7 D2 (by omega))) rfl pm_Ta_blame lw_4_89 im_Ta_blame sl_Ta_blame ha3 rfl rfl (rcOK hk4 rfl) (by decide) ?_
  cases hE
  exact r_ret rfl (Or.inr (Or.inr (Or.inr ⟨rfl, rfl, rfl, rfl⟩)))
def Re_habitLine_b109 (N : Nat) (a0 : Nat) (x1 : Int32) (h : PH) : Option (Unit × PH) :=
  ck ((hK h a0).1 = 4) <|
  ((hR h a0 0)).bind fun a_2 =>
  ck ((hK h a_2).1 = 8) <|
  ((hR h a0 3)).bind fun a_5 =>
  ck ((hK h a_5).1 = 23) <|
  ck (inb x1 (hK h a_5).2 = true) <|
  lt0 (wJ h a_5 (ix x1) (hJ h a_2 7)) fun h9 =>
  ((hR h9 a0 0)).bind fun a_11 =>
  ck ((hK h9 a_11).1 = 8) <|
  bd (Ta_step N a_11 h9) fun v14 h15 =>
  ck ((hK h15 a0).1 = 4) <|
  bd ((Re_either N (Re_part N 7)) a0 0 h15) fun v18 h19 =>
  ck ((hK h19 a0).1 = 4) <|
  bd (Re_sign N a0 59 h19) fun v22 h23 =>
  ck ((hK h23 a0).1 = 4) <|
  ((hR h23 a0 1)).bind fun a_26 =>
  ck ((hK h23 a_26).1 = 0) <|
  bd (Ho_endHabit N a_26 h23) fun v29 h30 =>
  some ((), h30)
set_option maxRecDepth 20000 in
theorem Re_habitLine_b109_ok (g : GT) (N : Nat) (D : Nat) (hD : 60 ≤ D) : ∀ (a0 : Nat) (x1 : Int32) (h : PH) (v : Unit) (h' : PH), Re_habitLine_b109 N a0 x1 h = some (v, h') → Run g pRe_habitLine D 109 [(0, va_rf (some a0)), (1, .int x1)] [] h (rV v) h' := by
  obtain ⟨D2, rfl⟩ : ∃ d, D = d + 1 := ⟨D - 1, by omega⟩
  intro a0 x1 h v h' hE
  unfold Re_habitLine_b109 at hE
  refine r_aload_n (t := some a0) 0 rfl rfl rfl ?_
  obtain ⟨hk1, hE⟩ := ckE hE
  refine r_getR rfl (fl_4_9 rfl) (Or.inr ⟨_, rfl⟩) rfl hk1 ?_
  refine r_iload_n 1 rfl rfl rfl ?_
  refine r_aload_n (t := some a0) 0 rfl rfl rfl ?_
  refine r_getR rfl (fl_4_26 rfl) (Or.inl ⟨_, rfl⟩) rfl hk1 ?_
  obtain ⟨a_2, ha3, hE⟩ := bnE hE
  obtain ⟨hk4, hE⟩ := ckE hE
  refine r_getJ rfl (fl_4_168 rfl) ha3 hk4 ?_
  obtain ⟨a_5, ha6, hE⟩ := bnE hE
  obtain ⟨hk7, hE⟩ := ckE hE
  obtain ⟨hi8, hE⟩ := ckE hE
  obtain ⟨h9, he10, hE⟩ := ltE hE
  refine r_last rfl ha6 hk7 hi8 he10 ?_
  refine r_aload_n (t := some a0) 0 rfl rfl rfl ?_
  refine r_getR rfl (fl_4_26 rfl) (Or.inl ⟨_, rfl⟩) rfl (kwJ he10 hk1) ?_
  obtain ⟨a_11, ha12, hE⟩ := bnE hE
  obtain ⟨hk13, hE⟩ := ckE hE
  obtain ⟨v14, h15, hq16, hE⟩ := bdE hE
  refine r_callV0 (rest := []) (hc := (Ta_step_ok g N _ _ _ _ hq16 D2 (by omega))) rfl pm_Ta_step lw_4_92 im_Ta_step sl_Ta_step ha12 rfl rfl (rcOK hk13 rfl) (by decide) ?_
  refine r_aload_n (t := some a0) 0 rfl rfl rfl ?_
  refine r_iconst 0 rfl ci_0 ?_
  obtain ⟨hk17, hE⟩ := ckE hE
  obtain ⟨v18, h19, hq20, hE⟩ := bdE hE
  refine r_callV0 (rest := []) (hc := (Re_either_ok g N _ _ (Re_part_ok g N 7) _ _ _ _ _ hq20 D2 ⟨by omega, by omega⟩)) rfl pm_Re_either lw_4_176 im_Re_either sl_Re_either rfl rfl rfl (rcOK hk17 rfl) (by decide) ?_
  refine r_aload_n (t := some a0) 0 rfl rfl rfl ?_
  refine r_bipush 59 rfl cb_59 ?_
  obtain ⟨hk21, hE⟩ := ckE hE
  obtain ⟨v22, h23, hq24, hE⟩ := bdE hE
  refine r_callV0 (rest := []) (hc := (Re_sign_ok g N _ _ _ _ _ hq24 D2 (by omega))) rfl pm_Re_sign lw_4_59 im_Re_sign sl_Re_sign rfl rfl rfl (rcOK hk21 rfl) (by decide) ?_
  refine r_aload_n (t := some a0) 0 rfl rfl rfl ?_
  obtain ⟨hk25, hE⟩ := ckE hE
  refine r_getR rfl (fl_4_30 rfl) (Or.inl ⟨_, rfl⟩) rfl hk25 ?_
  obtain ⟨a_26, ha27, hE⟩ := bnE hE
  obtain ⟨hk28, hE⟩ := ckE hE
  obtain ⟨v29, h30, hq31, hE⟩ := bdE hE
  refine r_callV0 (rest := []) (hc := (Ho_endHabit_ok g N _ _ _ _ hq31 D2 (by omega))) rfl pm_Ho_endHabit lw_4_179 im_Ho_endHabit sl_Ho_endHabit ha27 rfl rfl (rcOK hk28 rfl) (by decide) ?_
  cases hE
  exact r_ret rfl (Or.inr (Or.inr (Or.inr ⟨rfl, rfl, rfl, rfl⟩)))
def Re_habitLine_b76 (N : Nat) (a0 : Nat) (x1 : Int32) (h : PH) : Option (Unit × PH) :=
  ck ((hK h a0).1 = 4) <|
  ((hR h a0 0)).bind fun a_2 =>
  ck ((hK h a_2).1 = 8) <|
  bd (Ta_blame N a_2 1 h) fun v5 h6 =>
  Re_habitLine_b109 N  a0 x1 h6
set_option maxRecDepth 20000 in
theorem Re_habitLine_b76_ok (g : GT) (N : Nat) (D : Nat) (hD : 60 ≤ D) : ∀ (a0 : Nat) (x1 : Int32) (h : PH) (v : Unit) (h' : PH), Re_habitLine_b76 N a0 x1 h = some (v, h') → Run g pRe_habitLine D 76 [(0, va_rf (some a0)), (1, .int x1)] [] h (rV v) h' := by
  obtain ⟨D2, rfl⟩ : ∃ d, D = d + 1 := ⟨D - 1, by omega⟩
  intro a0 x1 h v h' hE
  unfold Re_habitLine_b76 at hE
  refine r_aload_n (t := some a0) 0 rfl rfl rfl ?_
  obtain ⟨hk1, hE⟩ := ckE hE
  refine r_getR rfl (fl_4_26 rfl) (Or.inl ⟨_, rfl⟩) rfl hk1 ?_
  refine r_iconst 1 rfl ci_1 ?_
  obtain ⟨a_2, ha3, hE⟩ := bnE hE
  obtain ⟨hk4, hE⟩ := ckE hE
  obtain ⟨v5, h6, hq7, hE⟩ := bdE hE
  refine r_callV0 (rest := []) (hc := (Ta_blame_ok g N _ _ _ _ _ hq7 D2 (by omega))) rfl pm_Ta_blame lw_4_89 im_Ta_blame sl_Ta_blame ha3 rfl rfl (rcOK hk4 rfl) (by decide) ?_
  refine r_goto (tgt := 109) rfl (by decide) ?_
  first | exact r_sb (Re_habitLine_b109_ok g N _ hD   _ _ _ _ _ hE) ⟨rfl, rfl, trivial⟩ | exact r_sb (Re_habitLine_b109_ok g N _ hD   _ _ _ _ _ hE) (by simp only [su1, su2, dr1_rf, dr1_in, dr1_lo, dr2_rf, dr2_in, dr2_lo]; exact ⟨rfl, rfl, trivial⟩)
def Re_habitLine_b87 (N : Nat) (a0 : Nat) (x1 : Int32) (h : PH) : Option (Unit × PH) :=
  ck ((hK h a0).1 = 4) <|
  ((hR h a0 0)).bind fun a_2 =>
  ck ((hK h a_2).1 = 8) <|
  bd (Re_isNamed N a0 (hJ h a_2 7) h) fun v5 h6 =>
  if (bI v5) = 0 then
    Re_habitLine_b109 N  a0 x1 h6
  else
    ck ((hK h6 a0).1 = 4) <|
    ((hR h6 a0 0)).bind fun a_10 =>
    ck ((hK h6 a_10).1 = 8) <|
    bd (Ta_blame N a_10 3 h6) fun v13 h14 =>
    Re_habitLine_b109 N  a0 x1 h14
set_option maxRecDepth 20000 in
theorem Re_habitLine_b87_ok (g : GT) (N : Nat) (D : Nat) (hD : 60 ≤ D) : ∀ (a0 : Nat) (x1 : Int32) (h : PH) (v : Unit) (h' : PH), Re_habitLine_b87 N a0 x1 h = some (v, h') → Run g pRe_habitLine D 87 [(0, va_rf (some a0)), (1, .int x1)] [] h (rV v) h' := by
  obtain ⟨D2, rfl⟩ : ∃ d, D = d + 1 := ⟨D - 1, by omega⟩
  intro a0 x1 h v h' hE
  unfold Re_habitLine_b87 at hE
  refine r_aload_n (t := some a0) 0 rfl rfl rfl ?_
  refine r_aload_n (t := some a0) 0 rfl rfl rfl ?_
  obtain ⟨hk1, hE⟩ := ckE hE
  refine r_getR rfl (fl_4_26 rfl) (Or.inl ⟨_, rfl⟩) rfl hk1 ?_
  obtain ⟨a_2, ha3, hE⟩ := bnE hE
  obtain ⟨hk4, hE⟩ := ckE hE
  refine r_getJ rfl (fl_4_168 rfl) ha3 hk4 ?_
  obtain ⟨v5, h6, hq7, hE⟩ := bdE hE
  refine r_callV1 (rest := []) (hc := (Re_isNamed_ok g N _ _ _ _ _ hq7 D2 (by omega))) rfl pm_Re_isNamed lw_4_172 im_Re_isNamed sl_Re_isNamed rfl rfl rfl (rcOK hk1 rfl) (by decide) ?_
  refine r_if_eq (tgt := 109) rfl (by decide) (fun hc8 => ?_) (fun hc8 => ?_)
  · have hE := ifP hc8 hE
    first | exact r_sb (Re_habitLine_b109_ok g N _ hD   _ _ _ _ _ hE) ⟨rfl, rfl, trivial⟩ | exact r_sb (Re_habitLine_b109_ok g N _ hD   _ _ _ _ _ hE) (by simp only [su1, su2, dr1_rf, dr1_in, dr1_lo, dr2_rf, dr2_in, dr2_lo]; exact ⟨rfl, rfl, trivial⟩)
  · have hE := ifN hc8 hE
    refine r_aload_n (t := some a0) 0 rfl rfl rfl ?_
    obtain ⟨hk9, hE⟩ := ckE hE
    refine r_getR rfl (fl_4_26 rfl) (Or.inl ⟨_, rfl⟩) rfl hk9 ?_
    refine r_iconst 3 rfl ci_3 ?_
    obtain ⟨a_10, ha11, hE⟩ := bnE hE
    obtain ⟨hk12, hE⟩ := ckE hE
    obtain ⟨v13, h14, hq15, hE⟩ := bdE hE
    refine r_callV0 (rest := []) (hc := (Ta_blame_ok g N _ _ _ _ _ hq15 D2 (by omega))) rfl pm_Ta_blame lw_4_89 im_Ta_blame sl_Ta_blame ha11 rfl rfl (rcOK hk12 rfl) (by decide) ?_
    first | exact r_sb (Re_habitLine_b109_ok g N _ hD   _ _ _ _ _ hE) ⟨rfl, rfl, trivial⟩ | exact r_sb (Re_habitLine_b109_ok g N _ hD   _ _ _ _ _ hE) (by simp only [su1, su2, dr1_rf, dr1_in, dr1_lo, dr2_rf, dr2_in, dr2_lo]; exact ⟨rfl, rfl, trivial⟩)
def Re_habitLine (N : Nat) (a0 : Nat) (h : PH) : Option (Unit × PH) :=
  ck ((hK h a0).1 = 4) <|
  ((hR h a0 1)).bind fun a_2 =>
  ck ((hK h a_2).1 = 0) <|
  if (hI h a_2 12) < 0 then
    Re_habitLine_b26 N  a0 h
  else
    if 4 ≤ (hI h a_2 12) then
      Re_habitLine_b26 N  a0 h
    else
      ((hR h a0 3)).bind fun a_7 =>
      ck ((hK h a_7).1 = 23) <|
      if (hI h a_2 12) < (Int32.ofNat (hK h a_7).2) then
        ((hR h a0 0)).bind fun a_11 =>
        ck ((hK h a_11).1 = 8) <|
        bd (Ta_step N a_11 h) fun v14 h15 =>
        ck ((hK h15 a0).1 = 4) <|
        ((hR h15 a0 0)).bind fun a_18 =>
        ck ((hK h15 a_18).1 = 8) <|
        if (hI h15 a_18 2) = 2 then
          if (hI h15 a_18 6) = (-1) then
            Re_habitLine_b87 N  a0 (hI h a_2 12) h15
          else
            if 23 ≤ (hI h15 a_18 6) then
              Re_habitLine_b87 N  a0 (hI h a_2 12) h15
            else
              Re_habitLine_b76 N  a0 (hI h a_2 12) h15
        else
          Re_habitLine_b76 N  a0 (hI h a_2 12) h15
      else
        Re_habitLine_b26 N  a0 h
set_option maxRecDepth 20000 in
theorem Re_habitLine_ok (g : GT) (N : Nat) (a0 : Nat) (h : PH) (v : Unit) (h' : PH) (hE : Re_habitLine N a0 h = some (v, h')) (D : Nat) (hD : 60 ≤ D) : Calls g D pRe_habitLine [va_rf (some a0)] h (oV v) h' := by
  refine Calls.of cok_Re_habitLine ht_Re_habitLine pl_Re_habitLine (fun ad => by rw [lg_len, sL_cat]; simp only [List.map_cons, List.map_nil, rf_cat, cat_i, cat_l, List.sum_cons, List.sum_nil]; decide) ?_
  rw [show lv_args 0 [va_rf (some a0)] = [(0, va_rf (some a0))] from (by simp only [lv_args, rf_cat, cat_i, cat_l]; try rfl)]
  obtain ⟨D2, rfl⟩ : ∃ d, D = d + 1 := ⟨D - 1, by omega⟩
  unfold Re_habitLine at hE
  refine r_aload_n (t := some a0) 0 rfl rfl rfl ?_
  obtain ⟨hk1, hE⟩ := ckE hE
  refine r_getR rfl (fl_4_30 rfl) (Or.inl ⟨_, rfl⟩) rfl hk1 ?_
  obtain ⟨a_2, ha3, hE⟩ := bnE hE
  obtain ⟨hk4, hE⟩ := ckE hE
  refine r_getI rfl (fl_4_165 rfl) (Or.inl rfl) ha3 hk4 ?_
  refine r_istore_n 1 rfl rfl (by decide) ?_
  refine r_iload_n 1 rfl rfl rfl ?_
  refine r_if_lt (tgt := 26) rfl (by decide) (fun hc5 => ?_) (fun hc5 => ?_)
  · have hE := ifP hc5 hE
    first | exact r_sb (Re_habitLine_b26_ok g N _ hD   _ _ _ _ hE) ⟨rfl, trivial⟩ | exact r_sb (Re_habitLine_b26_ok g N _ hD   _ _ _ _ hE) (by simp only [su1, su2, dr1_rf, dr1_in, dr1_lo, dr2_rf, dr2_in, dr2_lo]; exact ⟨rfl, trivial⟩)
  · have hE := ifN hc5 hE
    refine r_iload_n 1 rfl rfl rfl ?_
    refine r_iconst 4 rfl ci_4 ?_
    refine r_icmp_ge (tgt := 26) rfl (by decide) (fun hc6 => ?_) (fun hc6 => ?_)
    · have hE := ifP hc6 hE
      first | exact r_sb (Re_habitLine_b26_ok g N _ hD   _ _ _ _ hE) ⟨rfl, trivial⟩ | exact r_sb (Re_habitLine_b26_ok g N _ hD   _ _ _ _ hE) (by simp only [su1, su2, dr1_rf, dr1_in, dr1_lo, dr2_rf, dr2_in, dr2_lo]; exact ⟨rfl, trivial⟩)
    · have hE := ifN hc6 hE
      refine r_iload_n 1 rfl rfl rfl ?_
      refine r_aload_n (t := some a0) 0 rfl rfl rfl ?_
      refine r_getR rfl (fl_4_9 rfl) (Or.inr ⟨_, rfl⟩) rfl hk1 ?_
      obtain ⟨a_7, ha8, hE⟩ := bnE hE
      obtain ⟨hk9, hE⟩ := ckE hE
      refine r_alen (kd := 23) rfl (by decide) (by decide) ha8 hk9 ?_
      refine r_icmp_lt (tgt := 35) rfl (by decide) (fun hc10 => ?_) (fun hc10 => ?_)
      · have hE := ifP hc10 hE
        refine r_aload_n (t := some a0) 0 rfl rfl rfl ?_
        refine r_getR rfl (fl_4_26 rfl) (Or.inl ⟨_, rfl⟩) rfl hk1 ?_
        obtain ⟨a_11, ha12, hE⟩ := bnE hE
        obtain ⟨hk13, hE⟩ := ckE hE
        obtain ⟨v14, h15, hq16, hE⟩ := bdE hE
        refine r_callV0 (rest := []) (hc := (Ta_step_ok g N _ _ _ _ hq16 D2 (by omega))) rfl pm_Ta_step lw_4_92 im_Ta_step sl_Ta_step ha12 rfl rfl (rcOK hk13 rfl) (by decide) ?_
        refine r_aload_n (t := some a0) 0 rfl rfl rfl ?_
        obtain ⟨hk17, hE⟩ := ckE hE
        refine r_getR rfl (fl_4_26 rfl) (Or.inl ⟨_, rfl⟩) rfl hk17 ?_
        obtain ⟨a_18, ha19, hE⟩ := bnE hE
        obtain ⟨hk20, hE⟩ := ckE hE
        refine r_getI rfl (fl_4_83 rfl) (Or.inl rfl) ha19 hk20 ?_
        refine r_iconst 2 rfl ci_2 ?_
        refine r_icmp_ne (tgt := 76) rfl (by decide) (fun hc21 => ?_) (fun hc21 => ?_)
        · have hE := ifP hc21 hE
          refine r_aload_n (t := some a0) 0 rfl rfl rfl ?_
          refine r_getR rfl (fl_4_26 rfl) (Or.inl ⟨_, rfl⟩) rfl hk17 ?_
          refine r_getI rfl (fl_4_86 rfl) (Or.inl rfl) ha19 hk20 ?_
          refine r_iconst (-1) rfl ci_m1 ?_
          refine r_icmp_eq (tgt := 87) rfl (by decide) (fun hc22 => ?_) (fun hc22 => ?_)
          · have hE := ifP hc22 hE
            first | exact r_sb (Re_habitLine_b87_ok g N _ hD   _ _ _ _ _ hE) ⟨rfl, rfl, trivial⟩ | exact r_sb (Re_habitLine_b87_ok g N _ hD   _ _ _ _ _ hE) (by simp only [su1, su2, dr1_rf, dr1_in, dr1_lo, dr2_rf, dr2_in, dr2_lo]; exact ⟨rfl, rfl, trivial⟩)
          · have hE := ifN hc22 hE
            refine r_aload_n (t := some a0) 0 rfl rfl rfl ?_
            refine r_getR rfl (fl_4_26 rfl) (Or.inl ⟨_, rfl⟩) rfl hk17 ?_
            refine r_getI rfl (fl_4_86 rfl) (Or.inl rfl) ha19 hk20 ?_
            refine r_bipush 23 rfl cb_23 ?_
            refine r_icmp_ge (tgt := 87) rfl (by decide) (fun hc23 => ?_) (fun hc23 => ?_)
            · have hE := ifP hc23 hE
              first | exact r_sb (Re_habitLine_b87_ok g N _ hD   _ _ _ _ _ hE) ⟨rfl, rfl, trivial⟩ | exact r_sb (Re_habitLine_b87_ok g N _ hD   _ _ _ _ _ hE) (by simp only [su1, su2, dr1_rf, dr1_in, dr1_lo, dr2_rf, dr2_in, dr2_lo]; exact ⟨rfl, rfl, trivial⟩)
            · have hE := ifN hc23 hE
              first | exact r_sb (Re_habitLine_b76_ok g N _ hD   _ _ _ _ _ hE) ⟨rfl, rfl, trivial⟩ | exact r_sb (Re_habitLine_b76_ok g N _ hD   _ _ _ _ _ hE) (by simp only [su1, su2, dr1_rf, dr1_in, dr1_lo, dr2_rf, dr2_in, dr2_lo]; exact ⟨rfl, rfl, trivial⟩)
        · have hE := ifN hc21 hE
          first | exact r_sb (Re_habitLine_b76_ok g N _ hD   _ _ _ _ _ hE) ⟨rfl, rfl, trivial⟩ | exact r_sb (Re_habitLine_b76_ok g N _ hD   _ _ _ _ _ hE) (by simp only [su1, su2, dr1_rf, dr1_in, dr1_lo, dr2_rf, dr2_in, dr2_lo]; exact ⟨rfl, rfl, trivial⟩)
      · have hE := ifN hc10 hE
        first | exact r_sb (Re_habitLine_b26_ok g N _ hD   _ _ _ _ hE) ⟨rfl, trivial⟩ | exact r_sb (Re_habitLine_b26_ok g N _ hD   _ _ _ _ hE) (by simp only [su1, su2, dr1_rf, dr1_in, dr1_lo, dr2_rf, dr2_in, dr2_lo]; exact ⟨rfl, trivial⟩)
def Re_worthsLine_b7 (N : Nat) : Nat → Nat → Int32 → Int32 → Int32 → PH → Option (Unit × PH)
  | 0 => fun _ _ _ _ _ => none
  | n + 1 => fun a0 x1 x2 x3 h =>
    if 3 < x3 then
      some ((), h)
    else
      ck ((hK h a0).1 = 4) <|
      bd (Re_number N a0 0 x1 h) fun v3 h4 =>
      ck ((hK h4 a0).1 = 4) <|
      ((hR h4 a0 1)).bind fun a_7 =>
      ck ((hK h4 a_7).1 = 0) <|
      bd (Le_put N (hR h4 a_7 14) x3 (x2 + v3) h4) fun v10 h11 =>
      (Re_worthsLine_b7 N n) a0 v3 (x2 + v3) (x3 + 1) h11
set_option maxRecDepth 20000 in
theorem Re_worthsLine_b7_ok (g : GT) (N : Nat) (D : Nat) (hD : 6 ≤ D) : ∀ (n : Nat) (a0 : Nat) (x1 : Int32) (x2 : Int32) (x3 : Int32) (h : PH) (v : Unit) (h' : PH), Re_worthsLine_b7 N n a0 x1 x2 x3 h = some (v, h') → Run g pRe_worthsLine D 7 [(0, va_rf (some a0)), (1, .int x1), (2, .int x2), (3, .int x3)] [] h (rV v) h' := by
  obtain ⟨D2, rfl⟩ : ∃ d, D = d + 1 := ⟨D - 1, by omega⟩
  intro n
  induction n with
  | zero => exact fun _ _ _ _ _ _ _ hE => nomatch (show none = some _ from hE)
  | succ n ih =>
    intro a0 x1 x2 x3 h v h' hE
    unfold Re_worthsLine_b7 at hE
    refine r_iload_n 3 rfl rfl rfl ?_
    refine r_iconst 3 rfl ci_3 ?_
    refine r_icmp_gt (tgt := 41) rfl (by decide) (fun hc1 => ?_) (fun hc1 => ?_)
    · have hE := ifP hc1 hE
      cases hE
      exact r_ret rfl (Or.inr (Or.inr (Or.inr ⟨rfl, rfl, rfl, rfl⟩)))
    · have hE := ifN hc1 hE
      refine r_aload_n (t := some a0) 0 rfl rfl rfl ?_
      refine r_iconst 0 rfl ci_0 ?_
      refine r_iload_n 1 rfl rfl rfl ?_
      obtain ⟨hk2, hE⟩ := ckE hE
      obtain ⟨v3, h4, hq5, hE⟩ := bdE hE
      refine r_callV1 (rest := []) (hc := (Re_number_ok g N _ _ _ _ _ _ hq5 D2 (by omega))) rfl pm_Re_number lw_4_52 im_Re_number sl_Re_number rfl rfl rfl (rcOK hk2 rfl) (by decide) ?_
      refine r_istore_n 1 rfl rfl (by decide) ?_
      refine r_iload_n 2 rfl rfl rfl ?_
      refine r_iload_n 1 rfl rfl rfl ?_
      refine r_iadd rfl ?_
      refine r_istore_n 2 rfl rfl (by decide) ?_
      refine r_aload_n (t := some a0) 0 rfl rfl rfl ?_
      obtain ⟨hk6, hE⟩ := ckE hE
      refine r_getR rfl (fl_4_30 rfl) (Or.inl ⟨_, rfl⟩) rfl hk6 ?_
      obtain ⟨a_7, ha8, hE⟩ := bnE hE
      obtain ⟨hk9, hE⟩ := ckE hE
      refine r_getR rfl (fl_4_142 rfl) (Or.inr ⟨_, rfl⟩) ha8 hk9 ?_
      refine r_iload_n 3 rfl rfl rfl ?_
      refine r_iload_n 2 rfl rfl rfl ?_
      obtain ⟨v10, h11, hq12, hE⟩ := bdE hE
      refine r_callSN0 (rest := []) (hc := (Le_put_ok g N _ _ _ _ _ _ hq12 D2 (by omega))) rfl pm_Le_put lw_4_146 st_Le_put rfl rfl (by decide) ?_
      refine r_iinc _ rfl rfl (congrArg _ ci_1) (by decide) ?_
      refine r_goto (tgt := 7) rfl (by decide) ?_
      first | exact r_sb (ih _ _ _ _ _ _ _ hE) ⟨rfl, rfl, rfl, rfl, trivial⟩ | exact r_sb (ih _ _ _ _ _ _ _ hE) (by simp only [su1, su2, dr1_rf, dr1_in, dr1_lo, dr2_rf, dr2_in, dr2_lo]; exact ⟨rfl, rfl, rfl, rfl, trivial⟩)
def Re_worthsLine (N : Nat) (a0 : Nat) (h : PH) : Option (Unit × PH) :=
  Re_worthsLine_b7 N N a0 99 0 1 h
set_option maxRecDepth 20000 in
theorem Re_worthsLine_ok (g : GT) (N : Nat) (a0 : Nat) (h : PH) (v : Unit) (h' : PH) (hE : Re_worthsLine N a0 h = some (v, h')) (D : Nat) (hD : 6 ≤ D) : Calls g D pRe_worthsLine [va_rf (some a0)] h (oV v) h' := by
  refine Calls.of cok_Re_worthsLine ht_Re_worthsLine pl_Re_worthsLine (fun ad => by rw [lg_len, sL_cat]; simp only [List.map_cons, List.map_nil, rf_cat, cat_i, cat_l, List.sum_cons, List.sum_nil]; decide) ?_
  rw [show lv_args 0 [va_rf (some a0)] = [(0, va_rf (some a0))] from (by simp only [lv_args, rf_cat, cat_i, cat_l]; try rfl)]
  obtain ⟨D2, rfl⟩ : ∃ d, D = d + 1 := ⟨D - 1, by omega⟩
  unfold Re_worthsLine at hE
  refine r_bipush 99 rfl cb_99 ?_
  refine r_istore_n 1 rfl rfl (by decide) ?_
  refine r_iconst 0 rfl ci_0 ?_
  refine r_istore_n 2 rfl rfl (by decide) ?_
  refine r_iconst 1 rfl ci_1 ?_
  refine r_istore_n 3 rfl rfl (by decide) ?_
  first | exact r_sb (Re_worthsLine_b7_ok g N _ hD  N _ _ _ _ _ _ _ hE) ⟨rfl, rfl, rfl, rfl, trivial⟩ | exact r_sb (Re_worthsLine_b7_ok g N _ hD  N _ _ _ _ _ _ _ hE) (by simp only [su1, su2, dr1_rf, dr1_in, dr1_lo, dr2_rf, dr2_in, dr2_lo]; exact ⟨rfl, rfl, rfl, rfl, trivial⟩)
def Re_plainLine_b234 (N : Nat) (a0 : Nat) (h : PH) : Option (Unit × PH) :=
  ck ((hK h a0).1 = 4) <|
  bd (Re_number N a0 0 10 h) fun v2 h3 =>
  ((hR h a0 1)).bind fun a_5 =>
  ck ((hK h3 a_5).1 = 0) <|
  lt0 (wI h3 a_5 11 v2) fun h8 =>
  some ((), h8)
set_option maxRecDepth 20000 in
theorem Re_plainLine_b234_ok (g : GT) (N : Nat) (D : Nat) (hD : 6 ≤ D) : ∀ (a0 : Nat) (h : PH) (v : Unit) (h' : PH), Re_plainLine_b234 N a0 h = some (v, h') → Run g pRe_plainLine D 234 [(0, va_rf (some a0))] [] h (rV v) h' := by
  obtain ⟨D2, rfl⟩ : ∃ d, D = d + 1 := ⟨D - 1, by omega⟩
  intro a0 h v h' hE
  unfold Re_plainLine_b234 at hE
  refine r_aload_n (t := some a0) 0 rfl rfl rfl ?_
  obtain ⟨hk1, hE⟩ := ckE hE
  refine r_getR rfl (fl_4_30 rfl) (Or.inl ⟨_, rfl⟩) rfl hk1 ?_
  refine r_aload_n (t := some a0) 0 rfl rfl rfl ?_
  refine r_iconst 0 rfl ci_0 ?_
  refine r_bipush 10 rfl cb_10 ?_
  obtain ⟨v2, h3, hq4, hE⟩ := bdE hE
  refine r_callV1 (rest := [va_rf (hR h a0 1)]) (hc := (Re_number_ok g N _ _ _ _ _ _ hq4 D2 (by omega))) rfl pm_Re_number lw_4_52 im_Re_number sl_Re_number rfl rfl rfl (rcOK hk1 rfl) (by simp only [List.map_cons, List.map_nil, rf_cat, cat_i, cat_l, List.sum_cons, List.sum_nil]; decide) ?_
  obtain ⟨a_5, ha6, hE⟩ := bnE hE
  obtain ⟨hk7, hE⟩ := ckE hE
  obtain ⟨h8, he9, hE⟩ := ltE hE
  refine r_putI rfl (fl_4_139 rfl) finF ha6 hk7 he9 ?_
  cases hE
  exact r_ret rfl (Or.inr (Or.inr (Or.inr ⟨rfl, rfl, rfl, rfl⟩)))
def Re_plainLine (N : Nat) (a0 : Nat) (x1 : Int32) (h : PH) : Option (Unit × PH) :=
  if (Int32.toInt x1 < 1 ∨ 9 < Int32.toInt x1) then
    Re_plainLine_b234 N  a0 h
  else if x1 = 1 then
    ck ((hK h a0).1 = 4) <|
    bd (Re_number N a0 0 120 h) fun v4 h5 =>
    ((hR h a0 1)).bind fun a_7 =>
    ck ((hK h5 a_7).1 = 0) <|
    lt0 (wI h5 a_7 1 v4) fun h10 =>
    some ((), h10)
  else if x1 = 2 then
    ck ((hK h a0).1 = 4) <|
    bd (Re_number N a0 0 12 h) fun v14 h15 =>
    ((hR h a0 1)).bind fun a_17 =>
    ck ((hK h15 a_17).1 = 0) <|
    lt0 (wI h15 a_17 2 v14) fun h20 =>
    ck ((hK h20 a0).1 = 4) <|
    bd (Re_keyword N a0 13 h20) fun v23 h24 =>
    ck ((hK h24 a0).1 = 4) <|
    bd (Re_number N a0 0 99 h24) fun v27 h28 =>
    ((hR h24 a0 1)).bind fun a_30 =>
    ck ((hK h28 a_30).1 = 0) <|
    lt0 (wI h28 a_30 3 v27) fun h33 =>
    some ((), h33)
  else if x1 = 3 then
    Re_plainLine_b234 N  a0 h
  else if x1 = 4 then
    ck ((hK h a0).1 = 4) <|
    bd (Re_number N a0 0 99 h) fun v38 h39 =>
    ((hR h a0 1)).bind fun a_41 =>
    ck ((hK h39 a_41).1 = 0) <|
    lt0 (wI h39 a_41 4 v38) fun h44 =>
    some ((), h44)
  else if x1 = 5 then
    ck ((hK h a0).1 = 4) <|
    bd (Re_number N a0 0 99 h) fun v48 h49 =>
    ((hR h a0 1)).bind fun a_51 =>
    ck ((hK h49 a_51).1 = 0) <|
    lt0 (wI h49 a_51 5 v48) fun h54 =>
    some ((), h54)
  else if x1 = 6 then
    ck ((hK h a0).1 = 4) <|
    bd (Re_number N a0 0 99 h) fun v58 h59 =>
    ((hR h a0 1)).bind fun a_61 =>
    ck ((hK h59 a_61).1 = 0) <|
    lt0 (wI h59 a_61 6 v58) fun h64 =>
    ck ((hK h64 a0).1 = 4) <|
    bd (Re_keyword N a0 14 h64) fun v67 h68 =>
    ck ((hK h68 a0).1 = 4) <|
    ((hR h68 a0 1)).bind fun a_71 =>
    ck ((hK h68 a_71).1 = 0) <|
    bd (Re_number N a0 0 ((hI h68 a_71 0) - 1) h68) fun v74 h75 =>
    ck ((hK h75 a_71).1 = 0) <|
    lt0 (wI h75 a_71 7 v74) fun h78 =>
    some ((), h78)
  else if x1 = 7 then
    ck ((hK h a0).1 = 4) <|
    bd (Re_number N a0 1 3 h) fun v82 h83 =>
    ((hR h a0 1)).bind fun a_85 =>
    ck ((hK h83 a_85).1 = 0) <|
    lt0 (wI h83 a_85 8 v82) fun h88 =>
    some ((), h88)
  else if x1 = 8 then
    ck ((hK h a0).1 = 4) <|
    bd (Re_number N a0 0 99 h) fun v92 h93 =>
    ((hR h a0 1)).bind fun a_95 =>
    ck ((hK h93 a_95).1 = 0) <|
    lt0 (wI h93 a_95 9 v92) fun h98 =>
    some ((), h98)
  else if x1 = 9 then
    ck ((hK h a0).1 = 4) <|
    bd (Re_number N a0 0 10 h) fun v102 h103 =>
    ((hR h a0 1)).bind fun a_105 =>
    ck ((hK h103 a_105).1 = 0) <|
    lt0 (wI h103 a_105 10 v102) fun h108 =>
    some ((), h108)
  else none
set_option maxRecDepth 20000 in
theorem Re_plainLine_ok (g : GT) (N : Nat) (a0 : Nat) (x1 : Int32) (h : PH) (v : Unit) (h' : PH) (hE : Re_plainLine N a0 x1 h = some (v, h')) (D : Nat) (hD : 6 ≤ D) : Calls g D pRe_plainLine [va_rf (some a0), .int x1] h (oV v) h' := by
  refine Calls.of cok_Re_plainLine ht_Re_plainLine pl_Re_plainLine (fun ad => by rw [lg_len, sL_cat]; simp only [List.map_cons, List.map_nil, rf_cat, cat_i, cat_l, List.sum_cons, List.sum_nil]; decide) ?_
  rw [show lv_args 0 [va_rf (some a0), .int x1] = [(0, va_rf (some a0)), (1, .int x1)] from (by simp only [lv_args, rf_cat, cat_i, cat_l]; try rfl)]
  obtain ⟨D2, rfl⟩ : ∃ d, D = d + 1 := ⟨D - 1, by omega⟩
  unfold Re_plainLine at hE
  refine r_iload_n 1 rfl rfl rfl ?_
  rcases Decidable.em (Int32.toInt x1 < 1 ∨ 9 < Int32.toInt x1) with hc1 | hc1
  · have hE := ifP hc1 hE
    refine r_tabOut (tgt := 234) rfl hc1 (by decide) ?_
    first | exact r_sb (Re_plainLine_b234_ok g N _ hD   _ _ _ _ hE) ⟨rfl, trivial⟩ | exact r_sb (Re_plainLine_b234_ok g N _ hD   _ _ _ _ hE) (by simp only [su1, su2, dr1_rf, dr1_in, dr1_lo, dr2_rf, dr2_in, dr2_lo]; exact ⟨rfl, trivial⟩)
  · have hE := ifN hc1 hE
    rcases Decidable.em (x1 = 1) with hx2 | hx2
    · have hE := ifP hx2 hE
      refine r_tabIn (tgt := 52) 0 rfl hc1 (by rw [hx2]; decide +kernel) rfl (by decide) ?_
      refine r_aload_n (t := some a0) 0 rfl rfl rfl ?_
      obtain ⟨hk3, hE⟩ := ckE hE
      refine r_getR rfl (fl_4_30 rfl) (Or.inl ⟨_, rfl⟩) rfl hk3 ?_
      refine r_aload_n (t := some a0) 0 rfl rfl rfl ?_
      refine r_iconst 0 rfl ci_0 ?_
      refine r_bipush 120 rfl cb_120 ?_
      obtain ⟨v4, h5, hq6, hE⟩ := bdE hE
      refine r_callV1 (rest := [va_rf (hR h a0 1)]) (hc := (Re_number_ok g N _ _ _ _ _ _ hq6 D2 (by omega))) rfl pm_Re_number lw_4_52 im_Re_number sl_Re_number rfl rfl rfl (rcOK hk3 rfl) (by simp only [List.map_cons, List.map_nil, rf_cat, cat_i, cat_l, List.sum_cons, List.sum_nil]; decide) ?_
      obtain ⟨a_7, ha8, hE⟩ := bnE hE
      obtain ⟨hk9, hE⟩ := ckE hE
      obtain ⟨h10, he11, hE⟩ := ltE hE
      refine r_putI rfl (fl_4_111 rfl) finF ha8 hk9 he11 ?_
      refine r_goto (tgt := 248) rfl (by decide) ?_
      cases hE
      exact r_ret rfl (Or.inr (Or.inr (Or.inr ⟨rfl, rfl, rfl, rfl⟩)))
    have hE := ifN hx2 hE
    rcases Decidable.em (x1 = 2) with hx12 | hx12
    · have hE := ifP hx12 hE
      refine r_tabIn (tgt := 69) 1 rfl hc1 (by rw [hx12]; decide +kernel) rfl (by decide) ?_
      refine r_aload_n (t := some a0) 0 rfl rfl rfl ?_
      obtain ⟨hk13, hE⟩ := ckE hE
      refine r_getR rfl (fl_4_30 rfl) (Or.inl ⟨_, rfl⟩) rfl hk13 ?_
      refine r_aload_n (t := some a0) 0 rfl rfl rfl ?_
      refine r_iconst 0 rfl ci_0 ?_
      refine r_bipush 12 rfl cb_12 ?_
      obtain ⟨v14, h15, hq16, hE⟩ := bdE hE
      refine r_callV1 (rest := [va_rf (hR h a0 1)]) (hc := (Re_number_ok g N _ _ _ _ _ _ hq16 D2 (by omega))) rfl pm_Re_number lw_4_52 im_Re_number sl_Re_number rfl rfl rfl (rcOK hk13 rfl) (by simp only [List.map_cons, List.map_nil, rf_cat, cat_i, cat_l, List.sum_cons, List.sum_nil]; decide) ?_
      obtain ⟨a_17, ha18, hE⟩ := bnE hE
      obtain ⟨hk19, hE⟩ := ckE hE
      obtain ⟨h20, he21, hE⟩ := ltE hE
      refine r_putI rfl (fl_4_114 rfl) finF ha18 hk19 he21 ?_
      refine r_aload_n (t := some a0) 0 rfl rfl rfl ?_
      refine r_bipush 13 rfl cb_13 ?_
      obtain ⟨hk22, hE⟩ := ckE hE
      obtain ⟨v23, h24, hq25, hE⟩ := bdE hE
      refine r_callV0 (rest := []) (hc := (Re_keyword_ok g N _ _ _ _ _ hq25 D2 (by omega))) rfl pm_Re_keyword lw_4_48 im_Re_keyword sl_Re_keyword rfl rfl rfl (rcOK hk22 rfl) (by decide) ?_
      refine r_aload_n (t := some a0) 0 rfl rfl rfl ?_
      obtain ⟨hk26, hE⟩ := ckE hE
      refine r_getR rfl (fl_4_30 rfl) (Or.inl ⟨_, rfl⟩) rfl hk26 ?_
      refine r_aload_n (t := some a0) 0 rfl rfl rfl ?_
      refine r_iconst 0 rfl ci_0 ?_
      refine r_bipush 99 rfl cb_99 ?_
      obtain ⟨v27, h28, hq29, hE⟩ := bdE hE
      refine r_callV1 (rest := [va_rf (hR h24 a0 1)]) (hc := (Re_number_ok g N _ _ _ _ _ _ hq29 D2 (by omega))) rfl pm_Re_number lw_4_52 im_Re_number sl_Re_number rfl rfl rfl (rcOK hk26 rfl) (by simp only [List.map_cons, List.map_nil, rf_cat, cat_i, cat_l, List.sum_cons, List.sum_nil]; decide) ?_
      obtain ⟨a_30, ha31, hE⟩ := bnE hE
      obtain ⟨hk32, hE⟩ := ckE hE
      obtain ⟨h33, he34, hE⟩ := ltE hE
      refine r_putI rfl (fl_4_117 rfl) finF ha31 hk32 he34 ?_
      refine r_goto (tgt := 248) rfl (by decide) ?_
      cases hE
      exact r_ret rfl (Or.inr (Or.inr (Or.inr ⟨rfl, rfl, rfl, rfl⟩)))
    have hE := ifN hx12 hE
    rcases Decidable.em (x1 = 3) with hx35 | hx35
    · have hE := ifP hx35 hE
      refine r_tabIn (tgt := 234) 2 rfl hc1 (by rw [hx35]; decide +kernel) rfl (by decide) ?_
      first | exact r_sb (Re_plainLine_b234_ok g N _ hD   _ _ _ _ hE) ⟨rfl, trivial⟩ | exact r_sb (Re_plainLine_b234_ok g N _ hD   _ _ _ _ hE) (by simp only [su1, su2, dr1_rf, dr1_in, dr1_lo, dr2_rf, dr2_in, dr2_lo]; exact ⟨rfl, trivial⟩)
    have hE := ifN hx35 hE
    rcases Decidable.em (x1 = 4) with hx36 | hx36
    · have hE := ifP hx36 hE
      refine r_tabIn (tgt := 106) 3 rfl hc1 (by rw [hx36]; decide +kernel) rfl (by decide) ?_
      refine r_aload_n (t := some a0) 0 rfl rfl rfl ?_
      obtain ⟨hk37, hE⟩ := ckE hE
      refine r_getR rfl (fl_4_30 rfl) (Or.inl ⟨_, rfl⟩) rfl hk37 ?_
      refine r_aload_n (t := some a0) 0 rfl rfl rfl ?_
      refine r_iconst 0 rfl ci_0 ?_
      refine r_bipush 99 rfl cb_99 ?_
      obtain ⟨v38, h39, hq40, hE⟩ := bdE hE
      refine r_callV1 (rest := [va_rf (hR h a0 1)]) (hc := (Re_number_ok g N _ _ _ _ _ _ hq40 D2 (by omega))) rfl pm_Re_number lw_4_52 im_Re_number sl_Re_number rfl rfl rfl (rcOK hk37 rfl) (by simp only [List.map_cons, List.map_nil, rf_cat, cat_i, cat_l, List.sum_cons, List.sum_nil]; decide) ?_
      obtain ⟨a_41, ha42, hE⟩ := bnE hE
      obtain ⟨hk43, hE⟩ := ckE hE
      obtain ⟨h44, he45, hE⟩ := ltE hE
      refine r_putI rfl (fl_4_120 rfl) finF ha42 hk43 he45 ?_
      refine r_goto (tgt := 248) rfl (by decide) ?_
      cases hE
      exact r_ret rfl (Or.inr (Or.inr (Or.inr ⟨rfl, rfl, rfl, rfl⟩)))
    have hE := ifN hx36 hE
    rcases Decidable.em (x1 = 5) with hx46 | hx46
    · have hE := ifP hx46 hE
      refine r_tabIn (tgt := 123) 4 rfl hc1 (by rw [hx46]; decide +kernel) rfl (by decide) ?_
      refine r_aload_n (t := some a0) 0 rfl rfl rfl ?_
      obtain ⟨hk47, hE⟩ := ckE hE
      refine r_getR rfl (fl_4_30 rfl) (Or.inl ⟨_, rfl⟩) rfl hk47 ?_
      refine r_aload_n (t := some a0) 0 rfl rfl rfl ?_
      refine r_iconst 0 rfl ci_0 ?_
      refine r_bipush 99 rfl cb_99 ?_
      obtain ⟨v48, h49, hq50, hE⟩ := bdE hE
      refine r_callV1 (rest := [va_rf (hR h a0 1)]) (hc := (Re_number_ok g N _ _ _ _ _ _ hq50 D2 (by omega))) rfl pm_Re_number lw_4_52 im_Re_number sl_Re_number rfl rfl rfl (rcOK hk47 rfl) (by simp only [List.map_cons, List.map_nil, rf_cat, cat_i, cat_l, List.sum_cons, List.sum_nil]; decide) ?_
      obtain ⟨a_51, ha52, hE⟩ := bnE hE
      obtain ⟨hk53, hE⟩ := ckE hE
      obtain ⟨h54, he55, hE⟩ := ltE hE
      refine r_putI rfl (fl_4_123 rfl) finF ha52 hk53 he55 ?_
      refine r_goto (tgt := 248) rfl (by decide) ?_
      cases hE
      exact r_ret rfl (Or.inr (Or.inr (Or.inr ⟨rfl, rfl, rfl, rfl⟩)))
    have hE := ifN hx46 hE
    rcases Decidable.em (x1 = 6) with hx56 | hx56
    · have hE := ifP hx56 hE
      refine r_tabIn (tgt := 140) 5 rfl hc1 (by rw [hx56]; decide +kernel) rfl (by decide) ?_
      refine r_aload_n (t := some a0) 0 rfl rfl rfl ?_
      obtain ⟨hk57, hE⟩ := ckE hE
      refine r_getR rfl (fl_4_30 rfl) (Or.inl ⟨_, rfl⟩) rfl hk57 ?_
      refine r_aload_n (t := some a0) 0 rfl rfl rfl ?_
      refine r_iconst 0 rfl ci_0 ?_
      refine r_bipush 99 rfl cb_99 ?_
      obtain ⟨v58, h59, hq60, hE⟩ := bdE hE
      refine r_callV1 (rest := [va_rf (hR h a0 1)]) (hc := (Re_number_ok g N _ _ _ _ _ _ hq60 D2 (by omega))) rfl pm_Re_number lw_4_52 im_Re_number sl_Re_number rfl rfl rfl (rcOK hk57 rfl) (by simp only [List.map_cons, List.map_nil, rf_cat, cat_i, cat_l, List.sum_cons, List.sum_nil]; decide) ?_
      obtain ⟨a_61, ha62, hE⟩ := bnE hE
      obtain ⟨hk63, hE⟩ := ckE hE
      obtain ⟨h64, he65, hE⟩ := ltE hE
      refine r_putI rfl (fl_4_126 rfl) finF ha62 hk63 he65 ?_
      refine r_aload_n (t := some a0) 0 rfl rfl rfl ?_
      refine r_bipush 14 rfl cb_14 ?_
      obtain ⟨hk66, hE⟩ := ckE hE
      obtain ⟨v67, h68, hq69, hE⟩ := bdE hE
      refine r_callV0 (rest := []) (hc := (Re_keyword_ok g N _ _ _ _ _ hq69 D2 (by omega))) rfl pm_Re_keyword lw_4_48 im_Re_keyword sl_Re_keyword rfl rfl rfl (rcOK hk66 rfl) (by decide) ?_
      refine r_aload_n (t := some a0) 0 rfl rfl rfl ?_
      obtain ⟨hk70, hE⟩ := ckE hE
      refine r_getR rfl (fl_4_30 rfl) (Or.inl ⟨_, rfl⟩) rfl hk70 ?_
      refine r_aload_n (t := some a0) 0 rfl rfl rfl ?_
      refine r_iconst 0 rfl ci_0 ?_
      refine r_aload_n (t := some a0) 0 rfl rfl rfl ?_
      refine r_getR rfl (fl_4_30 rfl) (Or.inl ⟨_, rfl⟩) rfl hk70 ?_
      obtain ⟨a_71, ha72, hE⟩ := bnE hE
      obtain ⟨hk73, hE⟩ := ckE hE
      refine r_getI rfl (fl_4_56 rfl) (Or.inl rfl) ha72 hk73 ?_
      refine r_iconst 1 rfl ci_1 ?_
      refine r_isub rfl ?_
      obtain ⟨v74, h75, hq76, hE⟩ := bdE hE
      refine r_callV1 (rest := [va_rf (hR h68 a0 1)]) (hc := (Re_number_ok g N _ _ _ _ _ _ hq76 D2 (by omega))) rfl pm_Re_number lw_4_52 im_Re_number sl_Re_number rfl rfl rfl (rcOK hk70 rfl) (by simp only [List.map_cons, List.map_nil, rf_cat, cat_i, cat_l, List.sum_cons, List.sum_nil]; decide) ?_
      obtain ⟨hk77, hE⟩ := ckE hE
      obtain ⟨h78, he79, hE⟩ := ltE hE
      refine r_putI rfl (fl_4_129 rfl) finF ha72 hk77 he79 ?_
      refine r_goto (tgt := 248) rfl (by decide) ?_
      cases hE
      exact r_ret rfl (Or.inr (Or.inr (Or.inr ⟨rfl, rfl, rfl, rfl⟩)))
    have hE := ifN hx56 hE
    rcases Decidable.em (x1 = 7) with hx80 | hx80
    · have hE := ifP hx80 hE
      refine r_tabIn (tgt := 184) 6 rfl hc1 (by rw [hx80]; decide +kernel) rfl (by decide) ?_
      refine r_aload_n (t := some a0) 0 rfl rfl rfl ?_
      obtain ⟨hk81, hE⟩ := ckE hE
      refine r_getR rfl (fl_4_30 rfl) (Or.inl ⟨_, rfl⟩) rfl hk81 ?_
      refine r_aload_n (t := some a0) 0 rfl rfl rfl ?_
      refine r_iconst 1 rfl ci_1 ?_
      refine r_iconst 3 rfl ci_3 ?_
      obtain ⟨v82, h83, hq84, hE⟩ := bdE hE
      refine r_callV1 (rest := [va_rf (hR h a0 1)]) (hc := (Re_number_ok g N _ _ _ _ _ _ hq84 D2 (by omega))) rfl pm_Re_number lw_4_52 im_Re_number sl_Re_number rfl rfl rfl (rcOK hk81 rfl) (by simp only [List.map_cons, List.map_nil, rf_cat, cat_i, cat_l, List.sum_cons, List.sum_nil]; decide) ?_
      obtain ⟨a_85, ha86, hE⟩ := bnE hE
      obtain ⟨hk87, hE⟩ := ckE hE
      obtain ⟨h88, he89, hE⟩ := ltE hE
      refine r_putI rfl (fl_4_132 rfl) finF ha86 hk87 he89 ?_
      refine r_goto (tgt := 248) rfl (by decide) ?_
      cases hE
      exact r_ret rfl (Or.inr (Or.inr (Or.inr ⟨rfl, rfl, rfl, rfl⟩)))
    have hE := ifN hx80 hE
    rcases Decidable.em (x1 = 8) with hx90 | hx90
    · have hE := ifP hx90 hE
      refine r_tabIn (tgt := 200) 7 rfl hc1 (by rw [hx90]; decide +kernel) rfl (by decide) ?_
      refine r_aload_n (t := some a0) 0 rfl rfl rfl ?_
      obtain ⟨hk91, hE⟩ := ckE hE
      refine r_getR rfl (fl_4_30 rfl) (Or.inl ⟨_, rfl⟩) rfl hk91 ?_
      refine r_aload_n (t := some a0) 0 rfl rfl rfl ?_
      refine r_iconst 0 rfl ci_0 ?_
      refine r_bipush 99 rfl cb_99 ?_
      obtain ⟨v92, h93, hq94, hE⟩ := bdE hE
      refine r_callV1 (rest := [va_rf (hR h a0 1)]) (hc := (Re_number_ok g N _ _ _ _ _ _ hq94 D2 (by omega))) rfl pm_Re_number lw_4_52 im_Re_number sl_Re_number rfl rfl rfl (rcOK hk91 rfl) (by simp only [List.map_cons, List.map_nil, rf_cat, cat_i, cat_l, List.sum_cons, List.sum_nil]; decide) ?_
      obtain ⟨a_95, ha96, hE⟩ := bnE hE
      obtain ⟨hk97, hE⟩ := ckE hE
      obtain ⟨h98, he99, hE⟩ := ltE hE
      refine r_putI rfl (fl_4_133 rfl) finF ha96 hk97 he99 ?_
      refine r_goto (tgt := 248) rfl (by decide) ?_
      cases hE
      exact r_ret rfl (Or.inr (Or.inr (Or.inr ⟨rfl, rfl, rfl, rfl⟩)))
    have hE := ifN hx90 hE
    rcases Decidable.em (x1 = 9) with hx100 | hx100
    · have hE := ifP hx100 hE
      refine r_tabIn (tgt := 217) 8 rfl hc1 (by rw [hx100]; decide +kernel) rfl (by decide) ?_
      refine r_aload_n (t := some a0) 0 rfl rfl rfl ?_
      obtain ⟨hk101, hE⟩ := ckE hE
      refine r_getR rfl (fl_4_30 rfl) (Or.inl ⟨_, rfl⟩) rfl hk101 ?_
      refine r_aload_n (t := some a0) 0 rfl rfl rfl ?_
      refine r_iconst 0 rfl ci_0 ?_
      refine r_bipush 10 rfl cb_10 ?_
      obtain ⟨v102, h103, hq104, hE⟩ := bdE hE
      refine r_callV1 (rest := [va_rf (hR h a0 1)]) (hc := (Re_number_ok g N _ _ _ _ _ _ hq104 D2 (by omega))) rfl pm_Re_number lw_4_52 im_Re_number sl_Re_number rfl rfl rfl (rcOK hk101 rfl) (by simp only [List.map_cons, List.map_nil, rf_cat, cat_i, cat_l, List.sum_cons, List.sum_nil]; decide) ?_
      obtain ⟨a_105, ha106, hE⟩ := bnE hE
      obtain ⟨hk107, hE⟩ := ckE hE
      obtain ⟨h108, he109, hE⟩ := ltE hE
      refine r_putI rfl (fl_4_136 rfl) finF ha106 hk107 he109 ?_
      refine r_goto (tgt := 248) rfl (by decide) ?_
      cases hE
      exact r_ret rfl (Or.inr (Or.inr (Or.inr ⟨rfl, rfl, rfl, rfl⟩)))
    have hE := ifN hx100 hE
    exact nomatch hE
def Re_houseLine_b63 (N : Nat) (a0 : Nat) (h : PH) : Option (Unit × PH) :=
  ck ((hK h a0).1 = 4) <|
  ((hR h a0 0)).bind fun a_2 =>
  ck ((hK h a_2).1 = 8) <|
  bd (Ta_blame N a_2 1 h) fun v5 h6 =>
  some ((), h6)
set_option maxRecDepth 20000 in
theorem Re_houseLine_b63_ok (g : GT) (N : Nat) (D : Nat) (hD : 61 ≤ D) : ∀ (a0 : Nat) (h : PH) (v : Unit) (h' : PH), Re_houseLine_b63 N a0 h = some (v, h') → Run g pRe_houseLine D 63 [(0, va_rf (some a0))] [] h (rV v) h' := by
  obtain ⟨D2, rfl⟩ : ∃ d, D = d + 1 := ⟨D - 1, by omega⟩
  intro a0 h v h' hE
  unfold Re_houseLine_b63 at hE
  refine r_aload_n (t := some a0) 0 rfl rfl rfl ?_
  obtain ⟨hk1, hE⟩ := ckE hE
  refine r_getR rfl (fl_4_26 rfl) (Or.inl ⟨_, rfl⟩) rfl hk1 ?_
  refine r_iconst 1 rfl ci_1 ?_
  obtain ⟨a_2, ha3, hE⟩ := bnE hE
  obtain ⟨hk4, hE⟩ := ckE hE
  obtain ⟨v5, h6, hq7, hE⟩ := bdE hE
  refine r_callV0 (rest := []) (hc := (Ta_blame_ok g N _ _ _ _ _ hq7 D2 (by omega))) rfl pm_Ta_blame lw_4_89 im_Ta_blame sl_Ta_blame ha3 rfl rfl (rcOK hk4 rfl) (by decide) ?_
  refine r_goto (tgt := 131) rfl (by decide) ?_
  cases hE
  exact r_ret rfl (Or.inr (Or.inr (Or.inr ⟨rfl, rfl, rfl, rfl⟩)))
def Re_houseLine_b125 (N : Nat) (a0 : Nat) (h : PH) : Option (Unit × PH) :=
  ck ((hK h a0).1 = 4) <|
  bd (Re_sign N a0 59 h) fun v2 h3 =>
  some ((), h3)
set_option maxRecDepth 20000 in
theorem Re_houseLine_b125_ok (g : GT) (N : Nat) (D : Nat) (hD : 61 ≤ D) : ∀ (a0 : Nat) (h : PH) (v : Unit) (h' : PH), Re_houseLine_b125 N a0 h = some (v, h') → Run g pRe_houseLine D 125 [(0, va_rf (some a0))] [] h (rV v) h' := by
  obtain ⟨D2, rfl⟩ : ∃ d, D = d + 1 := ⟨D - 1, by omega⟩
  intro a0 h v h' hE
  unfold Re_houseLine_b125 at hE
  refine r_aload_n (t := some a0) 0 rfl rfl rfl ?_
  refine r_bipush 59 rfl cb_59 ?_
  obtain ⟨hk1, hE⟩ := ckE hE
  obtain ⟨v2, h3, hq4, hE⟩ := bdE hE
  refine r_callV0 (rest := []) (hc := (Re_sign_ok g N _ _ _ _ _ hq4 D2 (by omega))) rfl pm_Re_sign lw_4_59 im_Re_sign sl_Re_sign rfl rfl rfl (rcOK hk1 rfl) (by decide) ?_
  cases hE
  exact r_ret rfl (Or.inr (Or.inr (Or.inr ⟨rfl, rfl, rfl, rfl⟩)))
def Re_houseLine_b22 (N : Nat) (s0 : Int32) (a0 : Nat) (h : PH) : Option (Unit × PH) :=
  if s0 = 11 then
    ck ((hK h a0).1 = 4) <|
    bd (Re_callsLine N a0 h) fun v3 h4 =>
    some ((), h4)
  else
    if s0 = 12 then
      ck ((hK h a0).1 = 4) <|
      bd (Re_habitLine N a0 h) fun v8 h9 =>
      some ((), h9)
    else
      if s0 < 1 then
        Re_houseLine_b63 N  a0 h
      else
        ck ((hK h a0).1 = 4) <|
        ((hR h a0 4)).bind fun a_13 =>
        ck ((hK h a_13).1 = 21) <|
        if s0 < (Int32.ofNat (hK h a_13).2) then
          ck (inb s0 (hK h a_13).2 = true) <|
          if (bI (hZ h a_13 (ix s0))) = 0 then
            ck (inb s0 (hK h a_13).2 = true) <|
            lt0 (wZ h a_13 (ix s0) (tb 1)) fun h20 =>
            ((hR h20 a0 0)).bind fun a_22 =>
            ck ((hK h20 a_22).1 = 8) <|
            bd (Ta_step N a_22 h20) fun v25 h26 =>
            if s0 = 3 then
              ck ((hK h26 a0).1 = 4) <|
              bd (Re_worthsLine N a0 h26) fun v30 h31 =>
              Re_houseLine_b125 N  a0 h31
            else
              ck ((hK h26 a0).1 = 4) <|
              bd (Re_plainLine N a0 s0 h26) fun v34 h35 =>
              Re_houseLine_b125 N  a0 h35
          else
            ((hR h a0 0)).bind fun a_37 =>
            ck ((hK h a_37).1 = 8) <|
            bd (Ta_blame N a_37 3 h) fun v40 h41 =>
            some ((), h41)
        else
          Re_houseLine_b63 N  a0 h
set_option maxRecDepth 20000 in
theorem Re_houseLine_b22_ok (g : GT) (N : Nat) (D : Nat) (hD : 61 ≤ D) : ∀ (s0 : Int32) (a0 : Nat) (h : PH) (v : Unit) (h' : PH), Re_houseLine_b22 N s0 a0 h = some (v, h') → Run g pRe_houseLine D 22 [(0, va_rf (some a0))] [.int s0] h (rV v) h' := by
  obtain ⟨D2, rfl⟩ : ∃ d, D = d + 1 := ⟨D - 1, by omega⟩
  intro s0 a0 h v h' hE
  unfold Re_houseLine_b22 at hE
  refine r_istore_n 1 rfl rfl (by decide) ?_
  refine r_iload_n 1 rfl rfl rfl ?_
  refine r_bipush 11 rfl cb_11 ?_
  refine r_icmp_ne (tgt := 36) rfl (by decide) (fun hc1 => ?_) (fun hc1 => ?_)
  · have hE := ifP hc1 hE
    refine r_aload_n (t := some a0) 0 rfl rfl rfl ?_
    obtain ⟨hk2, hE⟩ := ckE hE
    obtain ⟨v3, h4, hq5, hE⟩ := bdE hE
    refine r_callV0 (rest := []) (hc := (Re_callsLine_ok g N _ _ _ _ hq5 D2 (by omega))) rfl pm_Re_callsLine lw_4_99 im_Re_callsLine sl_Re_callsLine rfl rfl rfl (rcOK hk2 rfl) (by decide) ?_
    refine r_goto (tgt := 131) rfl (by decide) ?_
    cases hE
    exact r_ret rfl (Or.inr (Or.inr (Or.inr ⟨rfl, rfl, rfl, rfl⟩)))
  · have hE := ifN hc1 hE
    refine r_iload_n 1 rfl rfl rfl ?_
    refine r_bipush 12 rfl cb_12 ?_
    refine r_icmp_ne (tgt := 49) rfl (by decide) (fun hc6 => ?_) (fun hc6 => ?_)
    · have hE := ifP hc6 hE
      refine r_aload_n (t := some a0) 0 rfl rfl rfl ?_
      obtain ⟨hk7, hE⟩ := ckE hE
      obtain ⟨v8, h9, hq10, hE⟩ := bdE hE
      refine r_callV0 (rest := []) (hc := (Re_habitLine_ok g N _ _ _ _ hq10 D2 (by omega))) rfl pm_Re_habitLine lw_4_102 im_Re_habitLine sl_Re_habitLine rfl rfl rfl (rcOK hk7 rfl) (by decide) ?_
      refine r_goto (tgt := 131) rfl (by decide) ?_
      cases hE
      exact r_ret rfl (Or.inr (Or.inr (Or.inr ⟨rfl, rfl, rfl, rfl⟩)))
    · have hE := ifN hc6 hE
      refine r_iload_n 1 rfl rfl rfl ?_
      refine r_iconst 1 rfl ci_1 ?_
      refine r_icmp_lt (tgt := 63) rfl (by decide) (fun hc11 => ?_) (fun hc11 => ?_)
      · have hE := ifP hc11 hE
        first | exact r_sb (Re_houseLine_b63_ok g N _ hD   _ _ _ _ hE) ⟨rfl, trivial⟩ | exact r_sb (Re_houseLine_b63_ok g N _ hD   _ _ _ _ hE) (by simp only [su1, su2, dr1_rf, dr1_in, dr1_lo, dr2_rf, dr2_in, dr2_lo]; exact ⟨rfl, trivial⟩)
      · have hE := ifN hc11 hE
        refine r_iload_n 1 rfl rfl rfl ?_
        refine r_aload_n (t := some a0) 0 rfl rfl rfl ?_
        obtain ⟨hk12, hE⟩ := ckE hE
        refine r_getR rfl (fl_4_15 rfl) (Or.inr ⟨_, rfl⟩) rfl hk12 ?_
        obtain ⟨a_13, ha14, hE⟩ := bnE hE
        obtain ⟨hk15, hE⟩ := ckE hE
        refine r_alen (kd := 21) rfl (by decide) (by decide) ha14 hk15 ?_
        refine r_icmp_lt (tgt := 74) rfl (by decide) (fun hc16 => ?_) (fun hc16 => ?_)
        · have hE := ifP hc16 hE
          refine r_aload_n (t := some a0) 0 rfl rfl rfl ?_
          refine r_getR rfl (fl_4_15 rfl) (Or.inr ⟨_, rfl⟩) rfl hk12 ?_
          refine r_iload_n 1 rfl rfl rfl ?_
          obtain ⟨hi17, hE⟩ := ckE hE
          refine r_zald rfl ha14 hk15 hi17 ?_
          refine r_if_eq (tgt := 94) rfl (by decide) (fun hc18 => ?_) (fun hc18 => ?_)
          · have hE := ifP hc18 hE
            refine r_aload_n (t := some a0) 0 rfl rfl rfl ?_
            refine r_getR rfl (fl_4_15 rfl) (Or.inr ⟨_, rfl⟩) rfl hk12 ?_
            refine r_iload_n 1 rfl rfl rfl ?_
            refine r_iconst 1 rfl ci_1 ?_
            obtain ⟨hi19, hE⟩ := ckE hE
            obtain ⟨h20, he21, hE⟩ := ltE hE
            refine r_zast rfl ha14 hk15 hi19 rfl he21 ?_
            refine r_aload_n (t := some a0) 0 rfl rfl rfl ?_
            refine r_getR rfl (fl_4_26 rfl) (Or.inl ⟨_, rfl⟩) rfl (kwZ he21 hk12) ?_
            obtain ⟨a_22, ha23, hE⟩ := bnE hE
            obtain ⟨hk24, hE⟩ := ckE hE
            obtain ⟨v25, h26, hq27, hE⟩ := bdE hE
            refine r_callV0 (rest := []) (hc := (Ta_step_ok g N _ _ _ _ hq27 D2 (by omega))) rfl pm_Ta_step lw_4_92 im_Ta_step sl_Ta_step ha23 rfl rfl (rcOK hk24 rfl) (by decide) ?_
            refine r_iload_n 1 rfl rfl rfl ?_
            refine r_iconst 3 rfl ci_3 ?_
            refine r_icmp_ne (tgt := 120) rfl (by decide) (fun hc28 => ?_) (fun hc28 => ?_)
            · have hE := ifP hc28 hE
              refine r_aload_n (t := some a0) 0 rfl rfl rfl ?_
              obtain ⟨hk29, hE⟩ := ckE hE
              obtain ⟨v30, h31, hq32, hE⟩ := bdE hE
              refine r_callV0 (rest := []) (hc := (Re_worthsLine_ok g N _ _ _ _ hq32 D2 (by omega))) rfl pm_Re_worthsLine lw_4_105 im_Re_worthsLine sl_Re_worthsLine rfl rfl rfl (rcOK hk29 rfl) (by decide) ?_
              refine r_goto (tgt := 125) rfl (by decide) ?_
              first | exact r_sb (Re_houseLine_b125_ok g N _ hD   _ _ _ _ hE) ⟨rfl, trivial⟩ | exact r_sb (Re_houseLine_b125_ok g N _ hD   _ _ _ _ hE) (by simp only [su1, su2, dr1_rf, dr1_in, dr1_lo, dr2_rf, dr2_in, dr2_lo]; exact ⟨rfl, trivial⟩)
            · have hE := ifN hc28 hE
              refine r_aload_n (t := some a0) 0 rfl rfl rfl ?_
              refine r_iload_n 1 rfl rfl rfl ?_
              obtain ⟨hk33, hE⟩ := ckE hE
              obtain ⟨v34, h35, hq36, hE⟩ := bdE hE
              refine r_callV0 (rest := []) (hc := (Re_plainLine_ok g N _ _ _ _ _ hq36 D2 (by omega))) rfl pm_Re_plainLine lw_4_108 im_Re_plainLine sl_Re_plainLine rfl rfl rfl (rcOK hk33 rfl) (by decide) ?_
              first | exact r_sb (Re_houseLine_b125_ok g N _ hD   _ _ _ _ hE) ⟨rfl, trivial⟩ | exact r_sb (Re_houseLine_b125_ok g N _ hD   _ _ _ _ hE) (by simp only [su1, su2, dr1_rf, dr1_in, dr1_lo, dr2_rf, dr2_in, dr2_lo]; exact ⟨rfl, trivial⟩)
          · have hE := ifN hc18 hE
            refine r_aload_n (t := some a0) 0 rfl rfl rfl ?_
            refine r_getR rfl (fl_4_26 rfl) (Or.inl ⟨_, rfl⟩) rfl hk12 ?_
            refine r_iconst 3 rfl ci_3 ?_
            obtain ⟨a_37, ha38, hE⟩ := bnE hE
            obtain ⟨hk39, hE⟩ := ckE hE
            obtain ⟨v40, h41, hq42, hE⟩ := bdE hE
            refine r_callV0 (rest := []) (hc := (Ta_blame_ok g N _ _ _ _ _ hq42 D2 (by omega))) rfl pm_Ta_blame lw_4_89 im_Ta_blame sl_Ta_blame ha38 rfl rfl (rcOK hk39 rfl) (by decide) ?_
            refine r_goto (tgt := 131) rfl (by decide) ?_
            cases hE
            exact r_ret rfl (Or.inr (Or.inr (Or.inr ⟨rfl, rfl, rfl, rfl⟩)))
        · have hE := ifN hc16 hE
          first | exact r_sb (Re_houseLine_b63_ok g N _ hD   _ _ _ _ hE) ⟨rfl, trivial⟩ | exact r_sb (Re_houseLine_b63_ok g N _ hD   _ _ _ _ hE) (by simp only [su1, su2, dr1_rf, dr1_in, dr1_lo, dr2_rf, dr2_in, dr2_lo]; exact ⟨rfl, trivial⟩)
def Re_houseLine (N : Nat) (a0 : Nat) (h : PH) : Option (Unit × PH) :=
  ck ((hK h a0).1 = 4) <|
  ((hR h a0 0)).bind fun a_2 =>
  ck ((hK h a_2).1 = 8) <|
  if (hI h a_2 2) = 2 then
    Re_houseLine_b22 N  (hI h a_2 6) a0 h
  else
    Re_houseLine_b22 N  (-1) a0 h
set_option maxRecDepth 20000 in
theorem Re_houseLine_ok (g : GT) (N : Nat) (a0 : Nat) (h : PH) (v : Unit) (h' : PH) (hE : Re_houseLine N a0 h = some (v, h')) (D : Nat) (hD : 61 ≤ D) : Calls g D pRe_houseLine [va_rf (some a0)] h (oV v) h' := by
  refine Calls.of cok_Re_houseLine ht_Re_houseLine pl_Re_houseLine (fun ad => by rw [lg_len, sL_cat]; simp only [List.map_cons, List.map_nil, rf_cat, cat_i, cat_l, List.sum_cons, List.sum_nil]; decide) ?_
  rw [show lv_args 0 [va_rf (some a0)] = [(0, va_rf (some a0))] from (by simp only [lv_args, rf_cat, cat_i, cat_l]; try rfl)]
  obtain ⟨D2, rfl⟩ : ∃ d, D = d + 1 := ⟨D - 1, by omega⟩
  unfold Re_houseLine at hE
  refine r_aload_n (t := some a0) 0 rfl rfl rfl ?_
  obtain ⟨hk1, hE⟩ := ckE hE
  refine r_getR rfl (fl_4_26 rfl) (Or.inl ⟨_, rfl⟩) rfl hk1 ?_
  obtain ⟨a_2, ha3, hE⟩ := bnE hE
  obtain ⟨hk4, hE⟩ := ckE hE
  refine r_getI rfl (fl_4_83 rfl) (Or.inl rfl) ha3 hk4 ?_
  refine r_iconst 2 rfl ci_2 ?_
  refine r_icmp_ne (tgt := 21) rfl (by decide) (fun hc5 => ?_) (fun hc5 => ?_)
  · have hE := ifP hc5 hE
    refine r_aload_n (t := some a0) 0 rfl rfl rfl ?_
    refine r_getR rfl (fl_4_26 rfl) (Or.inl ⟨_, rfl⟩) rfl hk1 ?_
    refine r_getI rfl (fl_4_86 rfl) (Or.inl rfl) ha3 hk4 ?_
    refine r_goto (tgt := 22) rfl (by decide) ?_
    first | exact r_sb (Re_houseLine_b22_ok g N _ hD   _ _ _ _ _ hE) ⟨rfl, trivial⟩ | exact r_sb (Re_houseLine_b22_ok g N _ hD   _ _ _ _ _ hE) (by simp only [su1, su2, dr1_rf, dr1_in, dr1_lo, dr2_rf, dr2_in, dr2_lo]; exact ⟨rfl, trivial⟩)
  · have hE := ifN hc5 hE
    refine r_iconst (-1) rfl ci_m1 ?_
    first | exact r_sb (Re_houseLine_b22_ok g N _ hD   _ _ _ _ _ hE) ⟨rfl, trivial⟩ | exact r_sb (Re_houseLine_b22_ok g N _ hD   _ _ _ _ _ hE) (by simp only [su1, su2, dr1_rf, dr1_in, dr1_lo, dr2_rf, dr2_in, dr2_lo]; exact ⟨rfl, trivial⟩)
def Re_readHouse_b118 (N : Nat) (a0 : Nat) (h : PH) : Option (Int32 × PH) :=
  ck ((hK h a0).1 = 4) <|
  ((hR h a0 1)).bind fun a_2 =>
  ck ((hK h a_2).1 = 0) <|
  bd (Ho_settle N a_2 h) fun v5 h6 =>
  ck ((hK h6 a0).1 = 4) <|
  ((hR h6 a0 0)).bind fun a_9 =>
  ck ((hK h6 a_9).1 = 8) <|
  some ((hI h6 a_9 8), h6)
set_option maxRecDepth 20000 in
theorem Re_readHouse_b118_ok (g : GT) (N : Nat) (D : Nat) (hD : 62 ≤ D) : ∀ (a0 : Nat) (h : PH) (v : Int32) (h' : PH), Re_readHouse_b118 N a0 h = some (v, h') → Run g pRe_readHouse D 118 [(0, va_rf (some a0))] [] h (rI v) h' := by
  obtain ⟨D2, rfl⟩ : ∃ d, D = d + 1 := ⟨D - 1, by omega⟩
  intro a0 h v h' hE
  unfold Re_readHouse_b118 at hE
  refine r_aload_n (t := some a0) 0 rfl rfl rfl ?_
  obtain ⟨hk1, hE⟩ := ckE hE
  refine r_getR rfl (fl_4_30 rfl) (Or.inl ⟨_, rfl⟩) rfl hk1 ?_
  obtain ⟨a_2, ha3, hE⟩ := bnE hE
  obtain ⟨hk4, hE⟩ := ckE hE
  obtain ⟨v5, h6, hq7, hE⟩ := bdE hE
  refine r_callV0 (rest := []) (hc := (Ho_settle_ok g N _ _ _ _ hq7 D2 (by omega))) rfl pm_Ho_settle lw_4_69 im_Ho_settle sl_Ho_settle ha3 rfl rfl (rcOK hk4 rfl) (by decide) ?_
  refine r_aload_n (t := some a0) 0 rfl rfl rfl ?_
  obtain ⟨hk8, hE⟩ := ckE hE
  refine r_getR rfl (fl_4_26 rfl) (Or.inl ⟨_, rfl⟩) rfl hk8 ?_
  obtain ⟨a_9, ha10, hE⟩ := bnE hE
  obtain ⟨hk11, hE⟩ := ckE hE
  refine r_getI rfl (fl_4_72 rfl) (Or.inl rfl) ha10 hk11 ?_
  cases hE
  exact r_ret rfl (Or.inl ⟨rfl, _, _, rfl, rfl, rfl, rfl⟩)
def Re_readHouse_b94 (N : Nat) : Nat → Nat → Int32 → PH → Option (Int32 × PH)
  | 0 => fun _ _ _ => none
  | n + 1 => fun a0 x1 h =>
    if 1000 < x1 then
      Re_readHouse_b118 N  a0 h
    else
      ck ((hK h a0).1 = 4) <|
      bd (Re_hasMore N a0 h) fun v3 h4 =>
      if (bI v3) = 0 then
        Re_readHouse_b118 N  a0 h4
      else
        ck ((hK h4 a0).1 = 4) <|
        bd (Re_houseLine N a0 h4) fun v8 h9 =>
        (Re_readHouse_b94 N n) a0 (x1 + 1) h9
set_option maxRecDepth 20000 in
theorem Re_readHouse_b94_ok (g : GT) (N : Nat) (D : Nat) (hD : 62 ≤ D) : ∀ (n : Nat) (a0 : Nat) (x1 : Int32) (h : PH) (v : Int32) (h' : PH), Re_readHouse_b94 N n a0 x1 h = some (v, h') → Run g pRe_readHouse D 94 [(0, va_rf (some a0)), (1, .int x1)] [] h (rI v) h' := by
  obtain ⟨D2, rfl⟩ : ∃ d, D = d + 1 := ⟨D - 1, by omega⟩
  intro n
  induction n with
  | zero => exact fun _ _ _ _ _ hE => nomatch (show none = some _ from hE)
  | succ n ih =>
    intro a0 x1 h v h' hE
    unfold Re_readHouse_b94 at hE
    refine r_iload_n 1 rfl rfl rfl ?_
    refine r_sipush 1000 rfl cs_1000 ?_
    refine r_icmp_gt (tgt := 118) rfl (by decide) (fun hc1 => ?_) (fun hc1 => ?_)
    · have hE := ifP hc1 hE
      first | exact r_sb (Re_readHouse_b118_ok g N _ hD   _ _ _ _ hE) ⟨rfl, trivial⟩ | exact r_sb (Re_readHouse_b118_ok g N _ hD   _ _ _ _ hE) (by simp only [su1, su2, dr1_rf, dr1_in, dr1_lo, dr2_rf, dr2_in, dr2_lo]; exact ⟨rfl, trivial⟩)
    · have hE := ifN hc1 hE
      refine r_aload_n (t := some a0) 0 rfl rfl rfl ?_
      obtain ⟨hk2, hE⟩ := ckE hE
      obtain ⟨v3, h4, hq5, hE⟩ := bdE hE
      refine r_callV1 (rest := []) (hc := (Re_hasMore_ok g N _ _ _ _ hq5 D2 (by omega))) rfl pm_Re_hasMore lw_4_62 im_Re_hasMore sl_Re_hasMore rfl rfl rfl (rcOK hk2 rfl) (by decide) ?_
      refine r_if_eq (tgt := 118) rfl (by decide) (fun hc6 => ?_) (fun hc6 => ?_)
      · have hE := ifP hc6 hE
        first | exact r_sb (Re_readHouse_b118_ok g N _ hD   _ _ _ _ hE) ⟨rfl, trivial⟩ | exact r_sb (Re_readHouse_b118_ok g N _ hD   _ _ _ _ hE) (by simp only [su1, su2, dr1_rf, dr1_in, dr1_lo, dr2_rf, dr2_in, dr2_lo]; exact ⟨rfl, trivial⟩)
      · have hE := ifN hc6 hE
        refine r_aload_n (t := some a0) 0 rfl rfl rfl ?_
        obtain ⟨hk7, hE⟩ := ckE hE
        obtain ⟨v8, h9, hq10, hE⟩ := bdE hE
        refine r_callV0 (rest := []) (hc := (Re_houseLine_ok g N _ _ _ _ hq10 D2 (by omega))) rfl pm_Re_houseLine lw_4_66 im_Re_houseLine sl_Re_houseLine rfl rfl rfl (rcOK hk7 rfl) (by decide) ?_
        refine r_iinc _ rfl rfl (congrArg _ ci_1) (by decide) ?_
        refine r_goto (tgt := 94) rfl (by decide) ?_
        first | exact r_sb (ih _ _ _ _ _ hE) ⟨rfl, rfl, trivial⟩ | exact r_sb (ih _ _ _ _ _ hE) (by simp only [su1, su2, dr1_rf, dr1_in, dr1_lo, dr2_rf, dr2_in, dr2_lo]; exact ⟨rfl, rfl, trivial⟩)
def Re_readHouse_b38 (N : Nat) : Nat → Nat → Int32 → PH → Option (Int32 × PH)
  | 0 => fun _ _ _ => none
  | n + 1 => fun a0 x1 h =>
    ck ((hK h a0).1 = 4) <|
    ((hR h a0 5)).bind fun a_2 =>
    ck ((hK h a_2).1 = 21) <|
    if (Int32.ofNat (hK h a_2).2) ≤ x1 then
      ((hR h a0 0)).bind fun a_6 =>
      ck ((hK h a_6).1 = 8) <|
      bd (Ta_rewind N a_6 h) fun v9 h10 =>
      ck ((hK h10 a0).1 = 4) <|
      bd (Re_keyword N a0 0 h10) fun v13 h14 =>
      ck ((hK h14 a0).1 = 4) <|
      bd (Re_number N a0 1 24 h14) fun v17 h18 =>
      ((hR h14 a0 1)).bind fun a_20 =>
      ck ((hK h18 a_20).1 = 0) <|
      lt0 (wI h18 a_20 0 v17) fun h23 =>
      ck ((hK h23 a0).1 = 4) <|
      bd (Re_sign N a0 59 h23) fun v26 h27 =>
      Re_readHouse_b94 N N a0 0 h27
    else
      ck (inb x1 (hK h a_2).2 = true) <|
      lt0 (wZ h a_2 (ix x1) (tb 0)) fun h30 =>
      (Re_readHouse_b38 N n) a0 (x1 + 1) h30
set_option maxRecDepth 20000 in
theorem Re_readHouse_b38_ok (g : GT) (N : Nat) (D : Nat) (hD : 62 ≤ D) : ∀ (n : Nat) (a0 : Nat) (x1 : Int32) (h : PH) (v : Int32) (h' : PH), Re_readHouse_b38 N n a0 x1 h = some (v, h') → Run g pRe_readHouse D 38 [(0, va_rf (some a0)), (1, .int x1)] [] h (rI v) h' := by
  obtain ⟨D2, rfl⟩ : ∃ d, D = d + 1 := ⟨D - 1, by omega⟩
  intro n
  induction n with
  | zero => exact fun _ _ _ _ _ hE => nomatch (show none = some _ from hE)
  | succ n ih =>
    intro a0 x1 h v h' hE
    unfold Re_readHouse_b38 at hE
    refine r_iload_n 1 rfl rfl rfl ?_
    refine r_aload_n (t := some a0) 0 rfl rfl rfl ?_
    obtain ⟨hk1, hE⟩ := ckE hE
    refine r_getR rfl (fl_4_19 rfl) (Or.inr ⟨_, rfl⟩) rfl hk1 ?_
    obtain ⟨a_2, ha3, hE⟩ := bnE hE
    obtain ⟨hk4, hE⟩ := ckE hE
    refine r_alen (kd := 21) rfl (by decide) (by decide) ha3 hk4 ?_
    refine r_icmp_ge (tgt := 60) rfl (by decide) (fun hc5 => ?_) (fun hc5 => ?_)
    · have hE := ifP hc5 hE
      refine r_aload_n (t := some a0) 0 rfl rfl rfl ?_
      refine r_getR rfl (fl_4_26 rfl) (Or.inl ⟨_, rfl⟩) rfl hk1 ?_
      obtain ⟨a_6, ha7, hE⟩ := bnE hE
      obtain ⟨hk8, hE⟩ := ckE hE
      obtain ⟨v9, h10, hq11, hE⟩ := bdE hE
      refine r_callV0 (rest := []) (hc := (Ta_rewind_ok g N _ _ _ _ hq11 D2 (by omega))) rfl pm_Ta_rewind lw_4_43 im_Ta_rewind sl_Ta_rewind ha7 rfl rfl (rcOK hk8 rfl) (by decide) ?_
      refine r_aload_n (t := some a0) 0 rfl rfl rfl ?_
      refine r_iconst 0 rfl ci_0 ?_
      obtain ⟨hk12, hE⟩ := ckE hE
      obtain ⟨v13, h14, hq15, hE⟩ := bdE hE
      refine r_callV0 (rest := []) (hc := (Re_keyword_ok g N _ _ _ _ _ hq15 D2 (by omega))) rfl pm_Re_keyword lw_4_48 im_Re_keyword sl_Re_keyword rfl rfl rfl (rcOK hk12 rfl) (by decide) ?_
      refine r_aload_n (t := some a0) 0 rfl rfl rfl ?_
      obtain ⟨hk16, hE⟩ := ckE hE
      refine r_getR rfl (fl_4_30 rfl) (Or.inl ⟨_, rfl⟩) rfl hk16 ?_
      refine r_aload_n (t := some a0) 0 rfl rfl rfl ?_
      refine r_iconst 1 rfl ci_1 ?_
      refine r_bipush 24 rfl cb_24 ?_
      obtain ⟨v17, h18, hq19, hE⟩ := bdE hE
      refine r_callV1 (rest := [va_rf (hR h14 a0 1)]) (hc := (Re_number_ok g N _ _ _ _ _ _ hq19 D2 (by omega))) rfl pm_Re_number lw_4_52 im_Re_number sl_Re_number rfl rfl rfl (rcOK hk16 rfl) (by simp only [List.map_cons, List.map_nil, rf_cat, cat_i, cat_l, List.sum_cons, List.sum_nil]; decide) ?_
      obtain ⟨a_20, ha21, hE⟩ := bnE hE
      obtain ⟨hk22, hE⟩ := ckE hE
      obtain ⟨h23, he24, hE⟩ := ltE hE
      refine r_putI rfl (fl_4_56 rfl) finF ha21 hk22 he24 ?_
      refine r_aload_n (t := some a0) 0 rfl rfl rfl ?_
      refine r_bipush 59 rfl cb_59 ?_
      obtain ⟨hk25, hE⟩ := ckE hE
      obtain ⟨v26, h27, hq28, hE⟩ := bdE hE
      refine r_callV0 (rest := []) (hc := (Re_sign_ok g N _ _ _ _ _ hq28 D2 (by omega))) rfl pm_Re_sign lw_4_59 im_Re_sign sl_Re_sign rfl rfl rfl (rcOK hk25 rfl) (by decide) ?_
      refine r_iconst 0 rfl ci_0 ?_
      refine r_istore_n 1 rfl rfl (by decide) ?_
      first | exact r_sb (Re_readHouse_b94_ok g N _ hD  N _ _ _ _ _ hE) ⟨rfl, rfl, trivial⟩ | exact r_sb (Re_readHouse_b94_ok g N _ hD  N _ _ _ _ _ hE) (by simp only [su1, su2, dr1_rf, dr1_in, dr1_lo, dr2_rf, dr2_in, dr2_lo]; exact ⟨rfl, rfl, trivial⟩)
    · have hE := ifN hc5 hE
      refine r_aload_n (t := some a0) 0 rfl rfl rfl ?_
      refine r_getR rfl (fl_4_19 rfl) (Or.inr ⟨_, rfl⟩) rfl hk1 ?_
      refine r_iload_n 1 rfl rfl rfl ?_
      refine r_iconst 0 rfl ci_0 ?_
      obtain ⟨hi29, hE⟩ := ckE hE
      obtain ⟨h30, he31, hE⟩ := ltE hE
      refine r_zast rfl ha3 hk4 hi29 rfl he31 ?_
      refine r_iinc _ rfl rfl (congrArg _ ci_1) (by decide) ?_
      refine r_goto (tgt := 38) rfl (by decide) ?_
      first | exact r_sb (ih _ _ _ _ _ hE) ⟨rfl, rfl, trivial⟩ | exact r_sb (ih _ _ _ _ _ hE) (by simp only [su1, su2, dr1_rf, dr1_in, dr1_lo, dr2_rf, dr2_in, dr2_lo]; exact ⟨rfl, rfl, trivial⟩)
def Re_readHouse_b14 (N : Nat) : Nat → Nat → Int32 → PH → Option (Int32 × PH)
  | 0 => fun _ _ _ => none
  | n + 1 => fun a0 x1 h =>
    ck ((hK h a0).1 = 4) <|
    ((hR h a0 4)).bind fun a_2 =>
    ck ((hK h a_2).1 = 21) <|
    if (Int32.ofNat (hK h a_2).2) ≤ x1 then
      Re_readHouse_b38 N N a0 0 h
    else
      ck (inb x1 (hK h a_2).2 = true) <|
      lt0 (wZ h a_2 (ix x1) (tb 0)) fun h7 =>
      (Re_readHouse_b14 N n) a0 (x1 + 1) h7
set_option maxRecDepth 20000 in
theorem Re_readHouse_b14_ok (g : GT) (N : Nat) (D : Nat) (hD : 62 ≤ D) : ∀ (n : Nat) (a0 : Nat) (x1 : Int32) (h : PH) (v : Int32) (h' : PH), Re_readHouse_b14 N n a0 x1 h = some (v, h') → Run g pRe_readHouse D 14 [(0, va_rf (some a0)), (1, .int x1)] [] h (rI v) h' := by
  obtain ⟨D2, rfl⟩ : ∃ d, D = d + 1 := ⟨D - 1, by omega⟩
  intro n
  induction n with
  | zero => exact fun _ _ _ _ _ hE => nomatch (show none = some _ from hE)
  | succ n ih =>
    intro a0 x1 h v h' hE
    unfold Re_readHouse_b14 at hE
    refine r_iload_n 1 rfl rfl rfl ?_
    refine r_aload_n (t := some a0) 0 rfl rfl rfl ?_
    obtain ⟨hk1, hE⟩ := ckE hE
    refine r_getR rfl (fl_4_15 rfl) (Or.inr ⟨_, rfl⟩) rfl hk1 ?_
    obtain ⟨a_2, ha3, hE⟩ := bnE hE
    obtain ⟨hk4, hE⟩ := ckE hE
    refine r_alen (kd := 21) rfl (by decide) (by decide) ha3 hk4 ?_
    refine r_icmp_ge (tgt := 36) rfl (by decide) (fun hc5 => ?_) (fun hc5 => ?_)
    · have hE := ifP hc5 hE
      refine r_iconst 0 rfl ci_0 ?_
      refine r_istore_n 1 rfl rfl (by decide) ?_
      first | exact r_sb (Re_readHouse_b38_ok g N _ hD  N _ _ _ _ _ hE) ⟨rfl, rfl, trivial⟩ | exact r_sb (Re_readHouse_b38_ok g N _ hD  N _ _ _ _ _ hE) (by simp only [su1, su2, dr1_rf, dr1_in, dr1_lo, dr2_rf, dr2_in, dr2_lo]; exact ⟨rfl, rfl, trivial⟩)
    · have hE := ifN hc5 hE
      refine r_aload_n (t := some a0) 0 rfl rfl rfl ?_
      refine r_getR rfl (fl_4_15 rfl) (Or.inr ⟨_, rfl⟩) rfl hk1 ?_
      refine r_iload_n 1 rfl rfl rfl ?_
      refine r_iconst 0 rfl ci_0 ?_
      obtain ⟨hi6, hE⟩ := ckE hE
      obtain ⟨h7, he8, hE⟩ := ltE hE
      refine r_zast rfl ha3 hk4 hi6 rfl he8 ?_
      refine r_iinc _ rfl rfl (congrArg _ ci_1) (by decide) ?_
      refine r_goto (tgt := 14) rfl (by decide) ?_
      first | exact r_sb (ih _ _ _ _ _ hE) ⟨rfl, rfl, trivial⟩ | exact r_sb (ih _ _ _ _ _ hE) (by simp only [su1, su2, dr1_rf, dr1_in, dr1_lo, dr2_rf, dr2_in, dr2_lo]; exact ⟨rfl, rfl, trivial⟩)
def Re_readHouse (N : Nat) (a0 : Nat) (h : PH) : Option (Int32 × PH) :=
  ck ((hK h a0).1 = 4) <|
  ((hR h a0 1)).bind fun a_2 =>
  ck ((hK h a_2).1 = 0) <|
  bd (Ho_begin N a_2 h) fun v5 h6 =>
  ck ((hK h6 a0).1 = 4) <|
  lt0 (wI h6 a0 6 0) fun h9 =>
  Re_readHouse_b14 N N a0 0 h9
set_option maxRecDepth 20000 in
theorem Re_readHouse_ok (g : GT) (N : Nat) (a0 : Nat) (h : PH) (v : Int32) (h' : PH) (hE : Re_readHouse N a0 h = some (v, h')) (D : Nat) (hD : 62 ≤ D) : Calls g D pRe_readHouse [va_rf (some a0)] h (oI v) h' := by
  refine Calls.of cok_Re_readHouse ht_Re_readHouse pl_Re_readHouse (fun ad => by rw [lg_len, sL_cat]; simp only [List.map_cons, List.map_nil, rf_cat, cat_i, cat_l, List.sum_cons, List.sum_nil]; decide) ?_
  rw [show lv_args 0 [va_rf (some a0)] = [(0, va_rf (some a0))] from (by simp only [lv_args, rf_cat, cat_i, cat_l]; try rfl)]
  obtain ⟨D2, rfl⟩ : ∃ d, D = d + 1 := ⟨D - 1, by omega⟩
  unfold Re_readHouse at hE
  refine r_aload_n (t := some a0) 0 rfl rfl rfl ?_
  obtain ⟨hk1, hE⟩ := ckE hE
  refine r_getR rfl (fl_4_30 rfl) (Or.inl ⟨_, rfl⟩) rfl hk1 ?_
  obtain ⟨a_2, ha3, hE⟩ := bnE hE
  obtain ⟨hk4, hE⟩ := ckE hE
  obtain ⟨v5, h6, hq7, hE⟩ := bdE hE
  refine r_callV0 (rest := []) (hc := (Ho_begin_ok g N _ _ _ _ hq7 D2 (by omega))) rfl pm_Ho_begin lw_4_38 im_Ho_begin sl_Ho_begin ha3 rfl rfl (rcOK hk4 rfl) (by decide) ?_
  refine r_aload_n (t := some a0) 0 rfl rfl rfl ?_
  refine r_iconst 0 rfl ci_0 ?_
  obtain ⟨hk8, hE⟩ := ckE hE
  obtain ⟨h9, he10, hE⟩ := ltE hE
  refine r_putI rfl (fl_4_22 rfl) finF rfl hk8 he10 ?_
  refine r_iconst 0 rfl ci_0 ?_
  refine r_istore_n 1 rfl rfl (by decide) ?_
  first | exact r_sb (Re_readHouse_b14_ok g N _ hD  N _ _ _ _ _ hE) ⟨rfl, rfl, trivial⟩ | exact r_sb (Re_readHouse_b14_ok g N _ hD  N _ _ _ _ _ hE) (by simp only [su1, su2, dr1_rf, dr1_in, dr1_lo, dr2_rf, dr2_in, dr2_lo]; exact ⟨rfl, rfl, trivial⟩)
def Re_eveningLine_b35 (N : Nat) (a0 : Nat) (h : PH) : Option (Unit × PH) :=
  ck ((hK h a0).1 = 4) <|
  ((hR h a0 0)).bind fun a_2 =>
  ck ((hK h a_2).1 = 8) <|
  bd (Ta_blame N a_2 1 h) fun v5 h6 =>
  some ((), h6)
set_option maxRecDepth 20000 in
theorem Re_eveningLine_b35_ok (g : GT) (N : Nat) (D : Nat) (hD : 6 ≤ D) : ∀ (a0 : Nat) (h : PH) (v : Unit) (h' : PH), Re_eveningLine_b35 N a0 h = some (v, h') → Run g pRe_eveningLine D 35 [(0, va_rf (some a0))] [] h (rV v) h' := by
  obtain ⟨D2, rfl⟩ : ∃ d, D = d + 1 := ⟨D - 1, by omega⟩
  intro a0 h v h' hE
  unfold Re_eveningLine_b35 at hE
  refine r_aload_n (t := some a0) 0 rfl rfl rfl ?_
  obtain ⟨hk1, hE⟩ := ckE hE
  refine r_getR rfl (fl_4_26 rfl) (Or.inl ⟨_, rfl⟩) rfl hk1 ?_
  refine r_iconst 1 rfl ci_1 ?_
  obtain ⟨a_2, ha3, hE⟩ := bnE hE
  obtain ⟨hk4, hE⟩ := ckE hE
  obtain ⟨v5, h6, hq7, hE⟩ := bdE hE
  refine r_callV0 (rest := []) (hc := (Ta_blame_ok g N _ _ _ _ _ hq7 D2 (by omega))) rfl pm_Ta_blame lw_4_89 im_Ta_blame sl_Ta_blame ha3 rfl rfl (rcOK hk4 rfl) (by decide) ?_
  refine r_goto (tgt := 114) rfl (by decide) ?_
  cases hE
  exact r_ret rfl (Or.inr (Or.inr (Or.inr ⟨rfl, rfl, rfl, rfl⟩)))
def Re_eveningLine_b98 (N : Nat) (s0 : Int32) (a0 : Nat) (x1 : Int32) (h : PH) : Option (Unit × PH) :=
  ck ((hK h a0).1 = 4) <|
  bd (Re_sign N a0 59 h) fun v2 h3 =>
  ck ((hK h3 a0).1 = 4) <|
  ((hR h3 a0 2)).bind fun a_6 =>
  ck ((hK h3 a_6).1 = 6) <|
  bd (Sc_add N a_6 x1 s0 h3) fun v9 h10 =>
  some ((), h10)
set_option maxRecDepth 20000 in
theorem Re_eveningLine_b98_ok (g : GT) (N : Nat) (D : Nat) (hD : 6 ≤ D) : ∀ (s0 : Int32) (a0 : Nat) (x1 : Int32) (h : PH) (v : Unit) (h' : PH), Re_eveningLine_b98 N s0 a0 x1 h = some (v, h') → Run g pRe_eveningLine D 98 [(0, va_rf (some a0)), (1, .int x1)] [.int s0] h (rV v) h' := by
  obtain ⟨D2, rfl⟩ : ∃ d, D = d + 1 := ⟨D - 1, by omega⟩
  intro s0 a0 x1 h v h' hE
  unfold Re_eveningLine_b98 at hE
  refine r_istore_n 2 rfl rfl (by decide) ?_
  refine r_aload_n (t := some a0) 0 rfl rfl rfl ?_
  refine r_bipush 59 rfl cb_59 ?_
  obtain ⟨hk1, hE⟩ := ckE hE
  obtain ⟨v2, h3, hq4, hE⟩ := bdE hE
  refine r_callV0 (rest := []) (hc := (Re_sign_ok g N _ _ _ _ _ hq4 D2 (by omega))) rfl pm_Re_sign lw_4_59 im_Re_sign sl_Re_sign rfl rfl rfl (rcOK hk1 rfl) (by decide) ?_
  refine r_aload_n (t := some a0) 0 rfl rfl rfl ?_
  obtain ⟨hk5, hE⟩ := ckE hE
  refine r_getR rfl (fl_4_34 rfl) (Or.inl ⟨_, rfl⟩) rfl hk5 ?_
  refine r_iload_n 1 rfl rfl rfl ?_
  refine r_iload_n 2 rfl rfl rfl ?_
  obtain ⟨a_6, ha7, hE⟩ := bnE hE
  obtain ⟨hk8, hE⟩ := ckE hE
  obtain ⟨v9, h10, hq11, hE⟩ := bdE hE
  refine r_callV0 (rest := []) (hc := (Sc_add_ok g N _ _ _ _ _ _ hq11 D2 (by omega))) rfl pm_Sc_add lw_4_95 im_Sc_add sl_Sc_add ha7 rfl rfl (rcOK hk8 rfl) (by decide) ?_
  cases hE
  exact r_ret rfl (Or.inr (Or.inr (Or.inr ⟨rfl, rfl, rfl, rfl⟩)))
def Re_eveningLine_b88 (N : Nat) (a0 : Nat) (x1 : Int32) (h : PH) : Option (Unit × PH) :=
  ck ((hK h a0).1 = 4) <|
  bd (Re_number N a0 0 4 h) fun v2 h3 =>
  Re_eveningLine_b98 N  v2 a0 x1 h3
set_option maxRecDepth 20000 in
theorem Re_eveningLine_b88_ok (g : GT) (N : Nat) (D : Nat) (hD : 6 ≤ D) : ∀ (a0 : Nat) (x1 : Int32) (h : PH) (v : Unit) (h' : PH), Re_eveningLine_b88 N a0 x1 h = some (v, h') → Run g pRe_eveningLine D 88 [(0, va_rf (some a0)), (1, .int x1)] [] h (rV v) h' := by
  obtain ⟨D2, rfl⟩ : ∃ d, D = d + 1 := ⟨D - 1, by omega⟩
  intro a0 x1 h v h' hE
  unfold Re_eveningLine_b88 at hE
  refine r_aload_n (t := some a0) 0 rfl rfl rfl ?_
  refine r_iconst 0 rfl ci_0 ?_
  refine r_iconst 4 rfl ci_4 ?_
  obtain ⟨hk1, hE⟩ := ckE hE
  obtain ⟨v2, h3, hq4, hE⟩ := bdE hE
  refine r_callV1 (rest := []) (hc := (Re_number_ok g N _ _ _ _ _ _ hq4 D2 (by omega))) rfl pm_Re_number lw_4_52 im_Re_number sl_Re_number rfl rfl rfl (rcOK hk1 rfl) (by decide) ?_
  refine r_goto (tgt := 98) rfl (by decide) ?_
  first | exact r_sb (Re_eveningLine_b98_ok g N _ hD   _ _ _ _ _ _ hE) ⟨rfl, rfl, trivial⟩ | exact r_sb (Re_eveningLine_b98_ok g N _ hD   _ _ _ _ _ _ hE) (by simp only [su1, su2, dr1_rf, dr1_in, dr1_lo, dr2_rf, dr2_in, dr2_lo]; exact ⟨rfl, rfl, trivial⟩)
def Re_eveningLine_b22 (N : Nat) (s0 : Int32) (a0 : Nat) (h : PH) : Option (Unit × PH) :=
  if s0 < 16 then
    Re_eveningLine_b35 N  a0 h
  else
    if s0 ≤ 19 then
      ck ((hK h a0).1 = 4) <|
      ((hR h a0 2)).bind fun a_4 =>
      ck ((hK h a_4).1 = 6) <|
      if (hI h a_4 2) < 60 then
        ((hR h a0 0)).bind fun a_8 =>
        ck ((hK h a_8).1 = 8) <|
        bd (Ta_step N a_8 h) fun v11 h12 =>
        if s0 = 16 then
          Re_eveningLine_b88 N  a0 s0 h12
        else
          if s0 = 17 then
            Re_eveningLine_b88 N  a0 s0 h12
          else
            Re_eveningLine_b98 N  0 a0 s0 h12
      else
        ((hR h a0 0)).bind fun a_16 =>
        ck ((hK h a_16).1 = 8) <|
        bd (Ta_blame N a_16 5 h) fun v19 h20 =>
        some ((), h20)
    else
      Re_eveningLine_b35 N  a0 h
set_option maxRecDepth 20000 in
theorem Re_eveningLine_b22_ok (g : GT) (N : Nat) (D : Nat) (hD : 6 ≤ D) : ∀ (s0 : Int32) (a0 : Nat) (h : PH) (v : Unit) (h' : PH), Re_eveningLine_b22 N s0 a0 h = some (v, h') → Run g pRe_eveningLine D 22 [(0, va_rf (some a0))] [.int s0] h (rV v) h' := by
  obtain ⟨D2, rfl⟩ : ∃ d, D = d + 1 := ⟨D - 1, by omega⟩
  intro s0 a0 h v h' hE
  unfold Re_eveningLine_b22 at hE
  refine r_istore_n 1 rfl rfl (by decide) ?_
  refine r_iload_n 1 rfl rfl rfl ?_
  refine r_bipush 16 rfl cb_16 ?_
  refine r_icmp_lt (tgt := 35) rfl (by decide) (fun hc1 => ?_) (fun hc1 => ?_)
  · have hE := ifP hc1 hE
    first | exact r_sb (Re_eveningLine_b35_ok g N _ hD   _ _ _ _ hE) ⟨rfl, trivial⟩ | exact r_sb (Re_eveningLine_b35_ok g N _ hD   _ _ _ _ hE) (by simp only [su1, su2, dr1_rf, dr1_in, dr1_lo, dr2_rf, dr2_in, dr2_lo]; exact ⟨rfl, trivial⟩)
  · have hE := ifN hc1 hE
    refine r_iload_n 1 rfl rfl rfl ?_
    refine r_bipush 19 rfl cb_19 ?_
    refine r_icmp_le (tgt := 46) rfl (by decide) (fun hc2 => ?_) (fun hc2 => ?_)
    · have hE := ifP hc2 hE
      refine r_aload_n (t := some a0) 0 rfl rfl rfl ?_
      obtain ⟨hk3, hE⟩ := ckE hE
      refine r_getR rfl (fl_4_34 rfl) (Or.inl ⟨_, rfl⟩) rfl hk3 ?_
      obtain ⟨a_4, ha5, hE⟩ := bnE hE
      obtain ⟨hk6, hE⟩ := ckE hE
      refine r_getI rfl (fl_4_75 rfl) (Or.inl rfl) ha5 hk6 ?_
      refine r_bipush 60 rfl cb_60 ?_
      refine r_icmp_lt (tgt := 69) rfl (by decide) (fun hc7 => ?_) (fun hc7 => ?_)
      · have hE := ifP hc7 hE
        refine r_aload_n (t := some a0) 0 rfl rfl rfl ?_
        refine r_getR rfl (fl_4_26 rfl) (Or.inl ⟨_, rfl⟩) rfl hk3 ?_
        obtain ⟨a_8, ha9, hE⟩ := bnE hE
        obtain ⟨hk10, hE⟩ := ckE hE
        obtain ⟨v11, h12, hq13, hE⟩ := bdE hE
        refine r_callV0 (rest := []) (hc := (Ta_step_ok g N _ _ _ _ hq13 D2 (by omega))) rfl pm_Ta_step lw_4_92 im_Ta_step sl_Ta_step ha9 rfl rfl (rcOK hk10 rfl) (by decide) ?_
        refine r_iload_n 1 rfl rfl rfl ?_
        refine r_bipush 16 rfl cb_16 ?_
        refine r_icmp_eq (tgt := 88) rfl (by decide) (fun hc14 => ?_) (fun hc14 => ?_)
        · have hE := ifP hc14 hE
          first | exact r_sb (Re_eveningLine_b88_ok g N _ hD   _ _ _ _ _ hE) ⟨rfl, rfl, trivial⟩ | exact r_sb (Re_eveningLine_b88_ok g N _ hD   _ _ _ _ _ hE) (by simp only [su1, su2, dr1_rf, dr1_in, dr1_lo, dr2_rf, dr2_in, dr2_lo]; exact ⟨rfl, rfl, trivial⟩)
        · have hE := ifN hc14 hE
          refine r_iload_n 1 rfl rfl rfl ?_
          refine r_bipush 17 rfl cb_17 ?_
          refine r_icmp_ne (tgt := 97) rfl (by decide) (fun hc15 => ?_) (fun hc15 => ?_)
          · have hE := ifP hc15 hE
            first | exact r_sb (Re_eveningLine_b88_ok g N _ hD   _ _ _ _ _ hE) ⟨rfl, rfl, trivial⟩ | exact r_sb (Re_eveningLine_b88_ok g N _ hD   _ _ _ _ _ hE) (by simp only [su1, su2, dr1_rf, dr1_in, dr1_lo, dr2_rf, dr2_in, dr2_lo]; exact ⟨rfl, rfl, trivial⟩)
          · have hE := ifN hc15 hE
            refine r_iconst 0 rfl ci_0 ?_
            first | exact r_sb (Re_eveningLine_b98_ok g N _ hD   _ _ _ _ _ _ hE) ⟨rfl, rfl, trivial⟩ | exact r_sb (Re_eveningLine_b98_ok g N _ hD   _ _ _ _ _ _ hE) (by simp only [su1, su2, dr1_rf, dr1_in, dr1_lo, dr2_rf, dr2_in, dr2_lo]; exact ⟨rfl, rfl, trivial⟩)
      · have hE := ifN hc7 hE
        refine r_aload_n (t := some a0) 0 rfl rfl rfl ?_
        refine r_getR rfl (fl_4_26 rfl) (Or.inl ⟨_, rfl⟩) rfl hk3 ?_
        refine r_iconst 5 rfl ci_5 ?_
        obtain ⟨a_16, ha17, hE⟩ := bnE hE
        obtain ⟨hk18, hE⟩ := ckE hE
        obtain ⟨v19, h20, hq21, hE⟩ := bdE hE
        refine r_callV0 (rest := []) (hc := (Ta_blame_ok g N _ _ _ _ _ hq21 D2 (by omega))) rfl pm_Ta_blame lw_4_89 im_Ta_blame sl_Ta_blame ha17 rfl rfl (rcOK hk18 rfl) (by decide) ?_
        refine r_goto (tgt := 114) rfl (by decide) ?_
        cases hE
        exact r_ret rfl (Or.inr (Or.inr (Or.inr ⟨rfl, rfl, rfl, rfl⟩)))
    · have hE := ifN hc2 hE
      first | exact r_sb (Re_eveningLine_b35_ok g N _ hD   _ _ _ _ hE) ⟨rfl, trivial⟩ | exact r_sb (Re_eveningLine_b35_ok g N _ hD   _ _ _ _ hE) (by simp only [su1, su2, dr1_rf, dr1_in, dr1_lo, dr2_rf, dr2_in, dr2_lo]; exact ⟨rfl, trivial⟩)
def Re_eveningLine (N : Nat) (a0 : Nat) (h : PH) : Option (Unit × PH) :=
  ck ((hK h a0).1 = 4) <|
  ((hR h a0 0)).bind fun a_2 =>
  ck ((hK h a_2).1 = 8) <|
  if (hI h a_2 2) = 2 then
    Re_eveningLine_b22 N  (hI h a_2 6) a0 h
  else
    Re_eveningLine_b22 N  (-1) a0 h
set_option maxRecDepth 20000 in
theorem Re_eveningLine_ok (g : GT) (N : Nat) (a0 : Nat) (h : PH) (v : Unit) (h' : PH) (hE : Re_eveningLine N a0 h = some (v, h')) (D : Nat) (hD : 6 ≤ D) : Calls g D pRe_eveningLine [va_rf (some a0)] h (oV v) h' := by
  refine Calls.of cok_Re_eveningLine ht_Re_eveningLine pl_Re_eveningLine (fun ad => by rw [lg_len, sL_cat]; simp only [List.map_cons, List.map_nil, rf_cat, cat_i, cat_l, List.sum_cons, List.sum_nil]; decide) ?_
  rw [show lv_args 0 [va_rf (some a0)] = [(0, va_rf (some a0))] from (by simp only [lv_args, rf_cat, cat_i, cat_l]; try rfl)]
  obtain ⟨D2, rfl⟩ : ∃ d, D = d + 1 := ⟨D - 1, by omega⟩
  unfold Re_eveningLine at hE
  refine r_aload_n (t := some a0) 0 rfl rfl rfl ?_
  obtain ⟨hk1, hE⟩ := ckE hE
  refine r_getR rfl (fl_4_26 rfl) (Or.inl ⟨_, rfl⟩) rfl hk1 ?_
  obtain ⟨a_2, ha3, hE⟩ := bnE hE
  obtain ⟨hk4, hE⟩ := ckE hE
  refine r_getI rfl (fl_4_83 rfl) (Or.inl rfl) ha3 hk4 ?_
  refine r_iconst 2 rfl ci_2 ?_
  refine r_icmp_ne (tgt := 21) rfl (by decide) (fun hc5 => ?_) (fun hc5 => ?_)
  · have hE := ifP hc5 hE
    refine r_aload_n (t := some a0) 0 rfl rfl rfl ?_
    refine r_getR rfl (fl_4_26 rfl) (Or.inl ⟨_, rfl⟩) rfl hk1 ?_
    refine r_getI rfl (fl_4_86 rfl) (Or.inl rfl) ha3 hk4 ?_
    refine r_goto (tgt := 22) rfl (by decide) ?_
    first | exact r_sb (Re_eveningLine_b22_ok g N _ hD   _ _ _ _ _ hE) ⟨rfl, trivial⟩ | exact r_sb (Re_eveningLine_b22_ok g N _ hD   _ _ _ _ _ hE) (by simp only [su1, su2, dr1_rf, dr1_in, dr1_lo, dr2_rf, dr2_in, dr2_lo]; exact ⟨rfl, trivial⟩)
  · have hE := ifN hc5 hE
    refine r_iconst (-1) rfl ci_m1 ?_
    first | exact r_sb (Re_eveningLine_b22_ok g N _ hD   _ _ _ _ _ hE) ⟨rfl, trivial⟩ | exact r_sb (Re_eveningLine_b22_ok g N _ hD   _ _ _ _ _ hE) (by simp only [su1, su2, dr1_rf, dr1_in, dr1_lo, dr2_rf, dr2_in, dr2_lo]; exact ⟨rfl, trivial⟩)
def Re_readEvening_b41 (N : Nat) (a0 : Nat) (h : PH) : Option (Int32 × PH) :=
  ck ((hK h a0).1 = 4) <|
  ((hR h a0 0)).bind fun a_2 =>
  ck ((hK h a_2).1 = 8) <|
  some ((hI h a_2 8), h)
set_option maxRecDepth 20000 in
theorem Re_readEvening_b41_ok (g : GT) (N : Nat) (D : Nat) (hD : 7 ≤ D) : ∀ (a0 : Nat) (h : PH) (v : Int32) (h' : PH), Re_readEvening_b41 N a0 h = some (v, h') → Run g pRe_readEvening D 41 [(0, va_rf (some a0))] [] h (rI v) h' := by
  obtain ⟨D2, rfl⟩ : ∃ d, D = d + 1 := ⟨D - 1, by omega⟩
  intro a0 h v h' hE
  unfold Re_readEvening_b41 at hE
  refine r_aload_n (t := some a0) 0 rfl rfl rfl ?_
  obtain ⟨hk1, hE⟩ := ckE hE
  refine r_getR rfl (fl_4_26 rfl) (Or.inl ⟨_, rfl⟩) rfl hk1 ?_
  obtain ⟨a_2, ha3, hE⟩ := bnE hE
  obtain ⟨hk4, hE⟩ := ckE hE
  refine r_getI rfl (fl_4_72 rfl) (Or.inl rfl) ha3 hk4 ?_
  cases hE
  exact r_ret rfl (Or.inl ⟨rfl, _, _, rfl, rfl, rfl, rfl⟩)
def Re_readEvening_b17 (N : Nat) : Nat → Nat → Int32 → PH → Option (Int32 × PH)
  | 0 => fun _ _ _ => none
  | n + 1 => fun a0 x1 h =>
    if 1000 < x1 then
      Re_readEvening_b41 N  a0 h
    else
      ck ((hK h a0).1 = 4) <|
      bd (Re_hasMore N a0 h) fun v3 h4 =>
      if (bI v3) = 0 then
        Re_readEvening_b41 N  a0 h4
      else
        ck ((hK h4 a0).1 = 4) <|
        bd (Re_eveningLine N a0 h4) fun v8 h9 =>
        (Re_readEvening_b17 N n) a0 (x1 + 1) h9
set_option maxRecDepth 20000 in
theorem Re_readEvening_b17_ok (g : GT) (N : Nat) (D : Nat) (hD : 7 ≤ D) : ∀ (n : Nat) (a0 : Nat) (x1 : Int32) (h : PH) (v : Int32) (h' : PH), Re_readEvening_b17 N n a0 x1 h = some (v, h') → Run g pRe_readEvening D 17 [(0, va_rf (some a0)), (1, .int x1)] [] h (rI v) h' := by
  obtain ⟨D2, rfl⟩ : ∃ d, D = d + 1 := ⟨D - 1, by omega⟩
  intro n
  induction n with
  | zero => exact fun _ _ _ _ _ hE => nomatch (show none = some _ from hE)
  | succ n ih =>
    intro a0 x1 h v h' hE
    unfold Re_readEvening_b17 at hE
    refine r_iload_n 1 rfl rfl rfl ?_
    refine r_sipush 1000 rfl cs_1000 ?_
    refine r_icmp_gt (tgt := 41) rfl (by decide) (fun hc1 => ?_) (fun hc1 => ?_)
    · have hE := ifP hc1 hE
      first | exact r_sb (Re_readEvening_b41_ok g N _ hD   _ _ _ _ hE) ⟨rfl, trivial⟩ | exact r_sb (Re_readEvening_b41_ok g N _ hD   _ _ _ _ hE) (by simp only [su1, su2, dr1_rf, dr1_in, dr1_lo, dr2_rf, dr2_in, dr2_lo]; exact ⟨rfl, trivial⟩)
    · have hE := ifN hc1 hE
      refine r_aload_n (t := some a0) 0 rfl rfl rfl ?_
      obtain ⟨hk2, hE⟩ := ckE hE
      obtain ⟨v3, h4, hq5, hE⟩ := bdE hE
      refine r_callV1 (rest := []) (hc := (Re_hasMore_ok g N _ _ _ _ hq5 D2 (by omega))) rfl pm_Re_hasMore lw_4_62 im_Re_hasMore sl_Re_hasMore rfl rfl rfl (rcOK hk2 rfl) (by decide) ?_
      refine r_if_eq (tgt := 41) rfl (by decide) (fun hc6 => ?_) (fun hc6 => ?_)
      · have hE := ifP hc6 hE
        first | exact r_sb (Re_readEvening_b41_ok g N _ hD   _ _ _ _ hE) ⟨rfl, trivial⟩ | exact r_sb (Re_readEvening_b41_ok g N _ hD   _ _ _ _ hE) (by simp only [su1, su2, dr1_rf, dr1_in, dr1_lo, dr2_rf, dr2_in, dr2_lo]; exact ⟨rfl, trivial⟩)
      · have hE := ifN hc6 hE
        refine r_aload_n (t := some a0) 0 rfl rfl rfl ?_
        obtain ⟨hk7, hE⟩ := ckE hE
        obtain ⟨v8, h9, hq10, hE⟩ := bdE hE
        refine r_callV0 (rest := []) (hc := (Re_eveningLine_ok g N _ _ _ _ hq10 D2 (by omega))) rfl pm_Re_eveningLine lw_4_80 im_Re_eveningLine sl_Re_eveningLine rfl rfl rfl (rcOK hk7 rfl) (by decide) ?_
        refine r_iinc _ rfl rfl (congrArg _ ci_1) (by decide) ?_
        refine r_goto (tgt := 17) rfl (by decide) ?_
        first | exact r_sb (ih _ _ _ _ _ hE) ⟨rfl, rfl, trivial⟩ | exact r_sb (ih _ _ _ _ _ hE) (by simp only [su1, su2, dr1_rf, dr1_in, dr1_lo, dr2_rf, dr2_in, dr2_lo]; exact ⟨rfl, rfl, trivial⟩)
def Re_readEvening (N : Nat) (a0 : Nat) (h : PH) : Option (Int32 × PH) :=
  ck ((hK h a0).1 = 4) <|
  ((hR h a0 2)).bind fun a_2 =>
  ck ((hK h a_2).1 = 6) <|
  lt0 (wI h a_2 2 0) fun h5 =>
  ((hR h5 a0 0)).bind fun a_7 =>
  ck ((hK h5 a_7).1 = 8) <|
  bd (Ta_rewind N a_7 h5) fun v10 h11 =>
  Re_readEvening_b17 N N a0 0 h11
set_option maxRecDepth 20000 in
theorem Re_readEvening_ok (g : GT) (N : Nat) (a0 : Nat) (h : PH) (v : Int32) (h' : PH) (hE : Re_readEvening N a0 h = some (v, h')) (D : Nat) (hD : 7 ≤ D) : Calls g D pRe_readEvening [va_rf (some a0)] h (oI v) h' := by
  refine Calls.of cok_Re_readEvening ht_Re_readEvening pl_Re_readEvening (fun ad => by rw [lg_len, sL_cat]; simp only [List.map_cons, List.map_nil, rf_cat, cat_i, cat_l, List.sum_cons, List.sum_nil]; decide) ?_
  rw [show lv_args 0 [va_rf (some a0)] = [(0, va_rf (some a0))] from (by simp only [lv_args, rf_cat, cat_i, cat_l]; try rfl)]
  obtain ⟨D2, rfl⟩ : ∃ d, D = d + 1 := ⟨D - 1, by omega⟩
  unfold Re_readEvening at hE
  refine r_aload_n (t := some a0) 0 rfl rfl rfl ?_
  obtain ⟨hk1, hE⟩ := ckE hE
  refine r_getR rfl (fl_4_34 rfl) (Or.inl ⟨_, rfl⟩) rfl hk1 ?_
  refine r_iconst 0 rfl ci_0 ?_
  obtain ⟨a_2, ha3, hE⟩ := bnE hE
  obtain ⟨hk4, hE⟩ := ckE hE
  obtain ⟨h5, he6, hE⟩ := ltE hE
  refine r_putI rfl (fl_4_75 rfl) finF ha3 hk4 he6 ?_
  refine r_aload_n (t := some a0) 0 rfl rfl rfl ?_
  refine r_getR rfl (fl_4_26 rfl) (Or.inl ⟨_, rfl⟩) rfl (kwI he6 hk1) ?_
  obtain ⟨a_7, ha8, hE⟩ := bnE hE
  obtain ⟨hk9, hE⟩ := ckE hE
  obtain ⟨v10, h11, hq12, hE⟩ := bdE hE
  refine r_callV0 (rest := []) (hc := (Ta_rewind_ok g N _ _ _ _ hq12 D2 (by omega))) rfl pm_Ta_rewind lw_4_43 im_Ta_rewind sl_Ta_rewind ha8 rfl rfl (rcOK hk9 rfl) (by decide) ?_
  refine r_iconst 0 rfl ci_0 ?_
  refine r_istore_n 1 rfl rfl (by decide) ?_
  first | exact r_sb (Re_readEvening_b17_ok g N _ hD  N _ _ _ _ _ hE) ⟨rfl, rfl, trivial⟩ | exact r_sb (Re_readEvening_b17_ok g N _ hD  N _ _ _ _ _ hE) (by simp only [su1, su2, dr1_rf, dr1_in, dr1_lo, dr2_rf, dr2_in, dr2_lo]; exact ⟨rfl, rfl, trivial⟩)
