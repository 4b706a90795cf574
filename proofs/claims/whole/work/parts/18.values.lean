def Va_init (N : Nat) (a0 : Nat) (x1 : Option Nat) (x2 : Int32) (x3 : Int32) (h : PH) : Option (Unit × PH) :=
  ck (nb 5 = true) <|
  lt0 (nw h (20, ix 5) (ix 5)) fun h2 =>
  ck ((hK h2 a0).1 = 9) <|
  lt0 (wR h2 a0 3 (some (hN h))) fun h5 =>
  ck (nb 0 = true) <|
  lt0 (nw h5 (20, ix 0) (ix 0)) fun h8 =>
  ck ((hK h8 a0).1 = 9) <|
  lt0 (wR h8 a0 4 (some (hN h5))) fun h11 =>
  lt0 (wI h11 a0 5 0) fun h13 =>
  lt0 (wR h13 a0 0 x1) fun h15 =>
  ck (isB x2 = true) <|
  lt0 (wZ h15 a0 1 (tb x2)) fun h18 =>
  ck (isB x3 = true) <|
  lt0 (wZ h18 a0 2 (tb x3)) fun h21 =>
  some ((), h21)
set_option maxRecDepth 20000 in
theorem Va_init_ok (g : GT) (N : Nat) (a0 : Nat) (x1 : Option Nat) (x2 : Int32) (x3 : Int32) (h : PH) (v : Unit) (h' : PH) (hE : Va_init N a0 x1 x2 x3 h = some (v, h')) (D : Nat) (hD : 1 ≤ D) : Calls g D pVa_init [va_rf (some a0), va_rf x1, .int x2, .int x3] h (oV v) h' := by
  refine Calls.of cok_Va_init ht_Va_init pl_Va_init (fun ad => by rw [lg_len, sL_cat]; simp only [List.map_cons, List.map_nil, rf_cat, cat_i, cat_l, List.sum_cons, List.sum_nil]; decide) ?_
  rw [show lv_args 0 [va_rf (some a0), va_rf x1, .int x2, .int x3] = [(0, va_rf (some a0)), (1, va_rf x1), (2, .int x2), (3, .int x3)] from (by simp only [lv_args, rf_cat, cat_i, cat_l]; try rfl)]
  obtain ⟨D2, rfl⟩ : ∃ d, D = d + 1 := ⟨D - 1, by omega⟩
  unfold Va_init at hE
  refine r_aload_n (t := some a0) 0 rfl rfl rfl ?_
  refine r_objinit rfl rfl (gt2 129 rfl rfl) oi_1 oi_2 (by decide) ?_
  refine r_aload_n (t := some a0) 0 rfl rfl rfl ?_
  refine r_iconst 5 rfl ci_5 ?_
  obtain ⟨hc1, hE⟩ := ckE hE
  obtain ⟨h2, he3, hE⟩ := ltE hE
  refine r_newa (kd := 20) rfl (by decide) (by decide) rfl aw_20 hc1 he3 ?_
  obtain ⟨hk4, hE⟩ := ckE hE
  obtain ⟨h5, he6, hE⟩ := ltE hE
  refine r_putR rfl (fl_9_9 rfl) (Or.inr ⟨_, rfl⟩) (fun _ => ⟨rfl, _, _, rfl⟩) rfl hk4 he6 ?_
  refine r_aload_n (t := some a0) 0 rfl rfl rfl ?_
  refine r_iconst 0 rfl ci_0 ?_
  obtain ⟨hc7, hE⟩ := ckE hE
  obtain ⟨h8, he9, hE⟩ := ltE hE
  refine r_newa (kd := 20) rfl (by decide) (by decide) rfl aw_20 hc7 he9 ?_
  obtain ⟨hk10, hE⟩ := ckE hE
  obtain ⟨h11, he12, hE⟩ := ltE hE
  refine r_putR rfl (fl_9_15 rfl) (Or.inr ⟨_, rfl⟩) finF rfl hk10 he12 ?_
  refine r_aload_n (t := some a0) 0 rfl rfl rfl ?_
  refine r_iconst 0 rfl ci_0 ?_
  obtain ⟨h13, he14, hE⟩ := ltE hE
  refine r_putI rfl (fl_9_18 rfl) finF rfl (kwR he12 hk10) he14 ?_
  refine r_aload_n (t := some a0) 0 rfl rfl rfl ?_
  refine r_aload_n (t := x1) 1 rfl rfl rfl ?_
  obtain ⟨h15, he16, hE⟩ := ltE hE
  refine r_putR rfl (fl_9_22 rfl) (Or.inl ⟨_, rfl⟩) (fun _ => ⟨rfl, _, _, rfl⟩) rfl (kwI he14 (kwR he12 hk10)) he16 ?_
  refine r_aload_n (t := some a0) 0 rfl rfl rfl ?_
  refine r_iload_n 2 rfl rfl rfl ?_
  obtain ⟨hc17, hE⟩ := ckE hE
  obtain ⟨h18, he19, hE⟩ := ltE hE
  refine r_putZ rfl (fl_9_26 rfl) (fun _ => ⟨rfl, _, _, rfl⟩) rfl (kwR he16 (kwI he14 (kwR he12 hk10))) hc17 he19 ?_
  refine r_aload_n (t := some a0) 0 rfl rfl rfl ?_
  refine r_iload_n 3 rfl rfl rfl ?_
  obtain ⟨hc20, hE⟩ := ckE hE
  obtain ⟨h21, he22, hE⟩ := ltE hE
  refine r_putZ rfl (fl_9_30 rfl) (fun _ => ⟨rfl, _, _, rfl⟩) rfl (kwZ he19 (kwR he16 (kwI he14 (kwR he12 hk10)))) hc20 he22 ?_
  cases hE
  exact r_ret rfl (Or.inr (Or.inr (Or.inr ⟨rfl, rfl, rfl, rfl⟩)))
def Me_init (N : Nat) (a0 : Nat) (x1 : Option Nat) (h : PH) : Option (Unit × PH) :=
  ck (nb 64 = true) <|
  lt0 (nw h (20, ix 64) (ix 64)) fun h2 =>
  ck ((hK h2 a0).1 = 2) <|
  lt0 (wR h2 a0 1 (some (hN h))) fun h5 =>
  lt0 (wI h5 a0 2 0) fun h7 =>
  lt0 (wI h7 a0 3 0) fun h9 =>
  lt0 (wZ h9 a0 4 (tb 0)) fun h11 =>
  ck (nb 0 = true) <|
  lt0 (nw h11 (20, ix 0) (ix 0)) fun h14 =>
  ck ((hK h14 a0).1 = 2) <|
  lt0 (wR h14 a0 5 (some (hN h11))) fun h17 =>
  ck (nb 0 = true) <|
  lt0 (nw h17 (20, ix 0) (ix 0)) fun h20 =>
  ck ((hK h20 a0).1 = 2) <|
  lt0 (wR h20 a0 6 (some (hN h17))) fun h23 =>
  lt0 (wI h23 a0 7 0) fun h25 =>
  lt0 (wR h25 a0 0 x1) fun h27 =>
  some ((), h27)
set_option maxRecDepth 20000 in
theorem Me_init_ok (g : GT) (N : Nat) (a0 : Nat) (x1 : Option Nat) (h : PH) (v : Unit) (h' : PH) (hE : Me_init N a0 x1 h = some (v, h')) (D : Nat) (hD : 1 ≤ D) : Calls g D pMe_init [va_rf (some a0), va_rf x1] h (oV v) h' := by
  refine Calls.of cok_Me_init ht_Me_init pl_Me_init (fun ad => by rw [lg_len, sL_cat]; simp only [List.map_cons, List.map_nil, rf_cat, cat_i, cat_l, List.sum_cons, List.sum_nil]; decide) ?_
  rw [show lv_args 0 [va_rf (some a0), va_rf x1] = [(0, va_rf (some a0)), (1, va_rf x1)] from (by simp only [lv_args, rf_cat, cat_i, cat_l]; try rfl)]
  obtain ⟨D2, rfl⟩ : ∃ d, D = d + 1 := ⟨D - 1, by omega⟩
  unfold Me_init at hE
  refine r_aload_n (t := some a0) 0 rfl rfl rfl ?_
  refine r_objinit rfl rfl (gt2 154 rfl rfl) oi_1 oi_2 (by decide) ?_
  refine r_aload_n (t := some a0) 0 rfl rfl rfl ?_
  refine r_bipush 64 rfl cb_64 ?_
  obtain ⟨hc1, hE⟩ := ckE hE
  obtain ⟨h2, he3, hE⟩ := ltE hE
  refine r_newa (kd := 20) rfl (by decide) (by decide) rfl aw_20 hc1 he3 ?_
  obtain ⟨hk4, hE⟩ := ckE hE
  obtain ⟨h5, he6, hE⟩ := ltE hE
  refine r_putR rfl (fl_2_9 rfl) (Or.inr ⟨_, rfl⟩) (fun _ => ⟨rfl, _, _, rfl⟩) rfl hk4 he6 ?_
  refine r_aload_n (t := some a0) 0 rfl rfl rfl ?_
  refine r_iconst 0 rfl ci_0 ?_
  obtain ⟨h7, he8, hE⟩ := ltE hE
  refine r_putI rfl (fl_2_15 rfl) finF rfl (kwR he6 hk4) he8 ?_
  refine r_aload_n (t := some a0) 0 rfl rfl rfl ?_
  refine r_iconst 0 rfl ci_0 ?_
  obtain ⟨h9, he10, hE⟩ := ltE hE
  refine r_putI rfl (fl_2_19 rfl) finF rfl (kwI he8 (kwR he6 hk4)) he10 ?_
  refine r_aload_n (t := some a0) 0 rfl rfl rfl ?_
  refine r_iconst 0 rfl ci_0 ?_
  obtain ⟨h11, he12, hE⟩ := ltE hE
  refine r_putZ rfl (fl_2_22 rfl) finF rfl (kwI he10 (kwI he8 (kwR he6 hk4))) rfl he12 ?_
  refine r_aload_n (t := some a0) 0 rfl rfl rfl ?_
  refine r_iconst 0 rfl ci_0 ?_
  obtain ⟨hc13, hE⟩ := ckE hE
  obtain ⟨h14, he15, hE⟩ := ltE hE
  refine r_newa (kd := 20) rfl (by decide) (by decide) rfl aw_20 hc13 he15 ?_
  obtain ⟨hk16, hE⟩ := ckE hE
  obtain ⟨h17, he18, hE⟩ := ltE hE
  refine r_putR rfl (fl_2_26 rfl) (Or.inr ⟨_, rfl⟩) finF rfl hk16 he18 ?_
  refine r_aload_n (t := some a0) 0 rfl rfl rfl ?_
  refine r_iconst 0 rfl ci_0 ?_
  obtain ⟨hc19, hE⟩ := ckE hE
  obtain ⟨h20, he21, hE⟩ := ltE hE
  refine r_newa (kd := 20) rfl (by decide) (by decide) rfl aw_20 hc19 he21 ?_
  obtain ⟨hk22, hE⟩ := ckE hE
  obtain ⟨h23, he24, hE⟩ := ltE hE
  refine r_putR rfl (fl_2_29 rfl) (Or.inr ⟨_, rfl⟩) finF rfl hk22 he24 ?_
  refine r_aload_n (t := some a0) 0 rfl rfl rfl ?_
  refine r_iconst 0 rfl ci_0 ?_
  obtain ⟨h25, he26, hE⟩ := ltE hE
  refine r_putI rfl (fl_2_32 rfl) finF rfl (kwR he24 hk22) he26 ?_
  refine r_aload_n (t := some a0) 0 rfl rfl rfl ?_
  refine r_aload_n (t := x1) 1 rfl rfl rfl ?_
  obtain ⟨h27, he28, hE⟩ := ltE hE
  refine r_putR rfl (fl_2_35 rfl) (Or.inl ⟨_, rfl⟩) (fun _ => ⟨rfl, _, _, rfl⟩) rfl (kwI he26 (kwR he24 hk22)) he28 ?_
  cases hE
  exact r_ret rfl (Or.inr (Or.inr (Or.inr ⟨rfl, rfl, rfl, rfl⟩)))
def Rd_init (N : Nat) (a0 : Nat) (x1 : Option Nat) (x2 : Option Nat) (h : PH) : Option (Unit × PH) :=
  ck ((hK h a0).1 = 5) <|
  lt0 (wI h a0 2 1) fun h2 =>
  ck (nb 0 = true) <|
  lt0 (nw h2 (20, ix 0) (ix 0)) fun h5 =>
  ck ((hK h5 a0).1 = 5) <|
  lt0 (wR h5 a0 3 (some (hN h2))) fun h8 =>
  ck (nb 0 = true) <|
  lt0 (nw h8 (20, ix 0) (ix 0)) fun h11 =>
  ck ((hK h11 a0).1 = 5) <|
  lt0 (wR h11 a0 4 (some (hN h8))) fun h14 =>
  lt0 (wR h14 a0 0 x1) fun h16 =>
  lt0 (wR h16 a0 1 x2) fun h18 =>
  some ((), h18)
set_option maxRecDepth 20000 in
theorem Rd_init_ok (g : GT) (N : Nat) (a0 : Nat) (x1 : Option Nat) (x2 : Option Nat) (h : PH) (v : Unit) (h' : PH) (hE : Rd_init N a0 x1 x2 h = some (v, h')) (D : Nat) (hD : 1 ≤ D) : Calls g D pRd_init [va_rf (some a0), va_rf x1, va_rf x2] h (oV v) h' := by
  refine Calls.of cok_Rd_init ht_Rd_init pl_Rd_init (fun ad => by rw [lg_len, sL_cat]; simp only [List.map_cons, List.map_nil, rf_cat, cat_i, cat_l, List.sum_cons, List.sum_nil]; decide) ?_
  rw [show lv_args 0 [va_rf (some a0), va_rf x1, va_rf x2] = [(0, va_rf (some a0)), (1, va_rf x1), (2, va_rf x2)] from (by simp only [lv_args, rf_cat, cat_i, cat_l]; try rfl)]
  obtain ⟨D2, rfl⟩ : ∃ d, D = d + 1 := ⟨D - 1, by omega⟩
  unfold Rd_init at hE
  refine r_aload_n (t := some a0) 0 rfl rfl rfl ?_
  refine r_objinit rfl rfl (gt2 185 rfl rfl) oi_1 oi_2 (by decide) ?_
  refine r_aload_n (t := some a0) 0 rfl rfl rfl ?_
  refine r_iconst 1 rfl ci_1 ?_
  obtain ⟨hk1, hE⟩ := ckE hE
  obtain ⟨h2, he3, hE⟩ := ltE hE
  refine r_putI rfl (fl_5_9 rfl) finF rfl hk1 he3 ?_
  refine r_aload_n (t := some a0) 0 rfl rfl rfl ?_
  refine r_iconst 0 rfl ci_0 ?_
  obtain ⟨hc4, hE⟩ := ckE hE
  obtain ⟨h5, he6, hE⟩ := ltE hE
  refine r_newa (kd := 20) rfl (by decide) (by decide) rfl aw_20 hc4 he6 ?_
  obtain ⟨hk7, hE⟩ := ckE hE
  obtain ⟨h8, he9, hE⟩ := ltE hE
  refine r_putR rfl (fl_5_15 rfl) (Or.inr ⟨_, rfl⟩) finF rfl hk7 he9 ?_
  refine r_aload_n (t := some a0) 0 rfl rfl rfl ?_
  refine r_iconst 0 rfl ci_0 ?_
  obtain ⟨hc10, hE⟩ := ckE hE
  obtain ⟨h11, he12, hE⟩ := ltE hE
  refine r_newa (kd := 20) rfl (by decide) (by decide) rfl aw_20 hc10 he12 ?_
  obtain ⟨hk13, hE⟩ := ckE hE
  obtain ⟨h14, he15, hE⟩ := ltE hE
  refine r_putR rfl (fl_5_19 rfl) (Or.inr ⟨_, rfl⟩) finF rfl hk13 he15 ?_
  refine r_aload_n (t := some a0) 0 rfl rfl rfl ?_
  refine r_aload_n (t := x1) 1 rfl rfl rfl ?_
  obtain ⟨h16, he17, hE⟩ := ltE hE
  refine r_putR rfl (fl_5_22 rfl) (Or.inl ⟨_, rfl⟩) (fun _ => ⟨rfl, _, _, rfl⟩) rfl (kwR he15 hk13) he17 ?_
  refine r_aload_n (t := some a0) 0 rfl rfl rfl ?_
  refine r_aload_n (t := x2) 2 rfl rfl rfl ?_
  obtain ⟨h18, he19, hE⟩ := ltE hE
  refine r_putR rfl (fl_5_26 rfl) (Or.inl ⟨_, rfl⟩) (fun _ => ⟨rfl, _, _, rfl⟩) rfl (kwR he17 (kwR he15 hk13)) he19 ?_
  cases hE
  exact r_ret rfl (Or.inr (Or.inr (Or.inr ⟨rfl, rfl, rfl, rfl⟩)))
def Sh_init (N : Nat) (a0 : Nat) (x1 : Option Nat) (h : PH) : Option (Unit × PH) :=
  ck (nb 7 = true) <|
  lt0 (nw h (20, ix 7) (ix 7)) fun h2 =>
  ck ((hK h2 a0).1 = 7) <|
  lt0 (wR h2 a0 0 (some (hN h))) fun h5 =>
  ck (nb 242 = true) <|
  lt0 (nw h5 (20, ix 242) (ix 242)) fun h8 =>
  ck ((hK h8 a0).1 = 7) <|
  lt0 (wR h8 a0 2 (some (hN h5))) fun h11 =>
  ck (nb 242 = true) <|
  lt0 (nw h11 (20, ix 242) (ix 242)) fun h14 =>
  ck ((hK h14 a0).1 = 7) <|
  lt0 (wR h14 a0 3 (some (hN h11))) fun h17 =>
  lt0 (wR h17 a0 1 x1) fun h19 =>
  some ((), h19)
set_option maxRecDepth 20000 in
theorem Sh_init_ok (g : GT) (N : Nat) (a0 : Nat) (x1 : Option Nat) (h : PH) (v : Unit) (h' : PH) (hE : Sh_init N a0 x1 h = some (v, h')) (D : Nat) (hD : 1 ≤ D) : Calls g D pSh_init [va_rf (some a0), va_rf x1] h (oV v) h' := by
  refine Calls.of cok_Sh_init ht_Sh_init pl_Sh_init (fun ad => by rw [lg_len, sL_cat]; simp only [List.map_cons, List.map_nil, rf_cat, cat_i, cat_l, List.sum_cons, List.sum_nil]; decide) ?_
  rw [show lv_args 0 [va_rf (some a0), va_rf x1] = [(0, va_rf (some a0)), (1, va_rf x1)] from (by simp only [lv_args, rf_cat, cat_i, cat_l]; try rfl)]
  obtain ⟨D2, rfl⟩ : ∃ d, D = d + 1 := ⟨D - 1, by omega⟩
  unfold Sh_init at hE
  refine r_aload_n (t := some a0) 0 rfl rfl rfl ?_
  refine r_objinit rfl rfl (gt2 207 rfl rfl) oi_1 oi_2 (by decide) ?_
  refine r_aload_n (t := some a0) 0 rfl rfl rfl ?_
  refine r_bipush 7 rfl cb_7 ?_
  obtain ⟨hc1, hE⟩ := ckE hE
  obtain ⟨h2, he3, hE⟩ := ltE hE
  refine r_newa (kd := 20) rfl (by decide) (by decide) rfl aw_20 hc1 he3 ?_
  obtain ⟨hk4, hE⟩ := ckE hE
  obtain ⟨h5, he6, hE⟩ := ltE hE
  refine r_putR rfl (fl_7_11 rfl) (Or.inr ⟨_, rfl⟩) (fun _ => ⟨rfl, _, _, rfl⟩) rfl hk4 he6 ?_
  refine r_aload_n (t := some a0) 0 rfl rfl rfl ?_
  refine r_sipush 242 rfl cs_242 ?_
  obtain ⟨hc7, hE⟩ := ckE hE
  obtain ⟨h8, he9, hE⟩ := ltE hE
  refine r_newa (kd := 20) rfl (by decide) (by decide) rfl aw_20 hc7 he9 ?_
  obtain ⟨hk10, hE⟩ := ckE hE
  obtain ⟨h11, he12, hE⟩ := ltE hE
  refine r_putR rfl (fl_7_15 rfl) (Or.inr ⟨_, rfl⟩) finF rfl hk10 he12 ?_
  refine r_aload_n (t := some a0) 0 rfl rfl rfl ?_
  refine r_sipush 242 rfl cs_242 ?_
  obtain ⟨hc13, hE⟩ := ckE hE
  obtain ⟨h14, he15, hE⟩ := ltE hE
  refine r_newa (kd := 20) rfl (by decide) (by decide) rfl aw_20 hc13 he15 ?_
  obtain ⟨hk16, hE⟩ := ckE hE
  obtain ⟨h17, he18, hE⟩ := ltE hE
  refine r_putR rfl (fl_7_18 rfl) (Or.inr ⟨_, rfl⟩) finF rfl hk16 he18 ?_
  refine r_aload_n (t := some a0) 0 rfl rfl rfl ?_
  refine r_aload_n (t := x1) 1 rfl rfl rfl ?_
  obtain ⟨h19, he20, hE⟩ := ltE hE
  refine r_putR rfl (fl_7_21 rfl) (Or.inl ⟨_, rfl⟩) (fun _ => ⟨rfl, _, _, rfl⟩) rfl (kwR he18 hk16) he20 ?_
  cases hE
  exact r_ret rfl (Or.inr (Or.inr (Or.inr ⟨rfl, rfl, rfl, rfl⟩)))
def Va_begin (N : Nat) (a0 : Nat) (h : PH) : Option (Unit × PH) :=
  ck ((hK h a0).1 = 9) <|
  ((hR h a0 0)).bind fun a_2 =>
  ck ((hK h a_2).1 = 0) <|
  lt0 (wI h a0 5 (hI h a_2 0)) fun h5 =>
  some ((), h5)
set_option maxRecDepth 20000 in
theorem Va_begin_ok (g : GT) (N : Nat) (a0 : Nat) (h : PH) (v : Unit) (h' : PH) (hE : Va_begin N a0 h = some (v, h')) (D : Nat) (hD : 0 ≤ D) : Calls g D pVa_begin [va_rf (some a0)] h (oV v) h' := by
  refine Calls.of cok_Va_begin ht_Va_begin pl_Va_begin (fun ad => by rw [lg_len, sL_cat]; simp only [List.map_cons, List.map_nil, rf_cat, cat_i, cat_l, List.sum_cons, List.sum_nil]; decide) ?_
  rw [show lv_args 0 [va_rf (some a0)] = [(0, va_rf (some a0))] from (by simp only [lv_args, rf_cat, cat_i, cat_l]; try rfl)]
  unfold Va_begin at hE
  refine r_aload_n (t := some a0) 0 rfl rfl rfl ?_
  refine r_aload_n (t := some a0) 0 rfl rfl rfl ?_
  obtain ⟨hk1, hE⟩ := ckE hE
  refine r_getR rfl (fl_9_22 rfl) (Or.inl ⟨_, rfl⟩) rfl hk1 ?_
  obtain ⟨a_2, ha3, hE⟩ := bnE hE
  obtain ⟨hk4, hE⟩ := ckE hE
  refine r_getI rfl (fl_9_33 rfl) (Or.inl rfl) ha3 hk4 ?_
  obtain ⟨h5, he6, hE⟩ := ltE hE
  refine r_putI rfl (fl_9_18 rfl) finF rfl hk1 he6 ?_
  cases hE
  exact r_ret rfl (Or.inr (Or.inr (Or.inr ⟨rfl, rfl, rfl, rfl⟩)))
def Va_cell (N : Nat) (a0 : Nat) (x1 : Int32) (x2 : Int32) (x3 : Int32) (x4 : Int32) (h : PH) : Option (Int32 × PH) :=
  ck ((hK h a0).1 = 9) <|
  ((hR h a0 0)).bind fun a_2 =>
  ck ((hK h a_2).1 = 0) <|
  if x1 < (hI h a_2 0) then
    bd (Ho_placeOf N a_2 x1 x2 x3 x4 h) fun v6 h7 =>
    bd (Le_at N (hR h a0 4) v6 h7) fun v9 h10 =>
    some (v9, h10)
  else
    bd (Ho_offWorth N a_2 (hI h a_2 0) x2 h) fun v12 h13 =>
    some (v12, h13)
set_option maxRecDepth 20000 in
theorem Va_cell_ok (g : GT) (N : Nat) (a0 : Nat) (x1 : Int32) (x2 : Int32) (x3 : Int32) (x4 : Int32) (h : PH) (v : Int32) (h' : PH) (hE : Va_cell N a0 x1 x2 x3 x4 h = some (v, h')) (D : Nat) (hD : 1 ≤ D) : Calls g D pVa_cell [va_rf (some a0), .int x1, .int x2, .int x3, .int x4] h (oI v) h' := by
  refine Calls.of cok_Va_cell ht_Va_cell pl_Va_cell (fun ad => by rw [lg_len, sL_cat]; simp only [List.map_cons, List.map_nil, rf_cat, cat_i, cat_l, List.sum_cons, List.sum_nil]; decide) ?_
  rw [show lv_args 0 [va_rf (some a0), .int x1, .int x2, .int x3, .int x4] = [(0, va_rf (some a0)), (1, .int x1), (2, .int x2), (3, .int x3), (4, .int x4)] from (by simp only [lv_args, rf_cat, cat_i, cat_l]; try rfl)]
  obtain ⟨D2, rfl⟩ : ∃ d, D = d + 1 := ⟨D - 1, by omega⟩
  unfold Va_cell at hE
  refine r_iload_n 1 rfl rfl rfl ?_
  refine r_aload_n (t := some a0) 0 rfl rfl rfl ?_
  obtain ⟨hk1, hE⟩ := ckE hE
  refine r_getR rfl (fl_9_22 rfl) (Or.inl ⟨_, rfl⟩) rfl hk1 ?_
  obtain ⟨a_2, ha3, hE⟩ := bnE hE
  obtain ⟨hk4, hE⟩ := ckE hE
  refine r_getI rfl (fl_9_33 rfl) (Or.inl rfl) ha3 hk4 ?_
  refine r_icmp_lt (tgt := 27) rfl (by decide) (fun hc5 => ?_) (fun hc5 => ?_)
  · have hE := ifP hc5 hE
    refine r_aload_n (t := some a0) 0 rfl rfl rfl ?_
    refine r_getR rfl (fl_9_15 rfl) (Or.inr ⟨_, rfl⟩) rfl hk1 ?_
    refine r_aload_n (t := some a0) 0 rfl rfl rfl ?_
    refine r_getR rfl (fl_9_22 rfl) (Or.inl ⟨_, rfl⟩) rfl hk1 ?_
    refine r_iload_n 1 rfl rfl rfl ?_
    refine r_iload_n 2 rfl rfl rfl ?_
    refine r_iload_n 3 rfl rfl rfl ?_
    refine r_iload rfl rfl ?_
    obtain ⟨v6, h7, hq8, hE⟩ := bdE hE
    refine r_callV1 (rest := [va_rf (hR h a0 4)]) (hc := (Ho_placeOf_ok g N _ _ _ _ _ _ _ _ hq8 D2 (by omega))) rfl pm_Ho_placeOf lw_9_80 im_Ho_placeOf sl_Ho_placeOf ha3 rfl rfl (rcOK hk4 rfl) (by simp only [List.map_cons, List.map_nil, rf_cat, cat_i, cat_l, List.sum_cons, List.sum_nil]; decide) ?_
    obtain ⟨v9, h10, hq11, hE⟩ := bdE hE
    refine r_callSN1 (rest := []) (hc := (Le_at_ok g N _ _ _ _ _ hq11 D2 (by omega))) rfl pm_Le_at lw_9_96 st_Le_at rfl rfl (by decide) ?_
    cases hE
    exact r_ret rfl (Or.inl ⟨rfl, _, _, rfl, rfl, rfl, rfl⟩)
  · have hE := ifN hc5 hE
    refine r_aload_n (t := some a0) 0 rfl rfl rfl ?_
    refine r_getR rfl (fl_9_22 rfl) (Or.inl ⟨_, rfl⟩) rfl hk1 ?_
    refine r_aload_n (t := some a0) 0 rfl rfl rfl ?_
    refine r_getR rfl (fl_9_22 rfl) (Or.inl ⟨_, rfl⟩) rfl hk1 ?_
    refine r_getI rfl (fl_9_33 rfl) (Or.inl rfl) ha3 hk4 ?_
    refine r_iload_n 2 rfl rfl rfl ?_
    obtain ⟨v12, h13, hq14, hE⟩ := bdE hE
    refine r_callV1 (rest := []) (hc := (Ho_offWorth_ok g N _ _ _ _ _ _ hq14 D2 (by omega))) rfl pm_Ho_offWorth lw_9_73 im_Ho_offWorth sl_Ho_offWorth ha3 rfl rfl (rcOK hk4 rfl) (by decide) ?_
    cases hE
    exact r_ret rfl (Or.inl ⟨rfl, _, _, rfl, rfl, rfl, rfl⟩)
def Va_giveWorth_b76 (N : Nat) (s0 : Int32) (s1 : Nat) (s2 : Int32) (s3 : Int32) (s4 : Int32) (s5 : Int32) (h : PH) : Option (Int32 × PH) :=
  ck ((hK h s1).1 = 9) <|
  bd (Va_cell N s1 s2 s3 s4 s5 h) fun v2 h3 =>
  some ((s0 + v2), h3)
set_option maxRecDepth 20000 in
theorem Va_giveWorth_b76_ok (g : GT) (N : Nat) (D : Nat) (hD : 3 ≤ D) : ∀ (s0 : Int32) (s1 : Nat) (s2 : Int32) (s3 : Int32) (s4 : Int32) (s5 : Int32) (h : PH) (v : Int32) (h' : PH), Va_giveWorth_b76 N s0 s1 s2 s3 s4 s5 h = some (v, h') → Run g pVa_giveWorth D 76 [] [.int s5, .int s4, .int s3, .int s2, va_rf (some s1), .int s0] h (rI v) h' := by
  obtain ⟨D2, rfl⟩ : ∃ d, D = d + 1 := ⟨D - 1, by omega⟩
  intro s0 s1 s2 s3 s4 s5 h v h' hE
  unfold Va_giveWorth_b76 at hE
  obtain ⟨hk1, hE⟩ := ckE hE
  obtain ⟨v2, h3, hq4, hE⟩ := bdE hE
  refine r_callV1 (rest := [.int s0]) (hc := (Va_cell_ok g N _ _ _ _ _ _ _ _ hq4 D2 (by omega))) rfl pm_Va_cell lw_9_42 im_Va_cell sl_Va_cell rfl rfl rfl (rcOK hk1 rfl) (by simp only [List.map_cons, List.map_nil, rf_cat, cat_i, cat_l, List.sum_cons, List.sum_nil]; decide) ?_
  refine r_iadd rfl ?_
  cases hE
  exact r_ret rfl (Or.inl ⟨rfl, _, _, rfl, rfl, rfl, rfl⟩)
def Va_giveWorth_b75 (N : Nat) (s0 : Int32) (s1 : Nat) (s2 : Int32) (s3 : Int32) (s4 : Int32) (h : PH) : Option (Int32 × PH) :=
  Va_giveWorth_b76 N  s0 s1 s2 s3 s4 0 h
set_option maxRecDepth 20000 in
theorem Va_giveWorth_b75_ok (g : GT) (N : Nat) (D : Nat) (hD : 3 ≤ D) : ∀ (s0 : Int32) (s1 : Nat) (s2 : Int32) (s3 : Int32) (s4 : Int32) (h : PH) (v : Int32) (h' : PH), Va_giveWorth_b75 N s0 s1 s2 s3 s4 h = some (v, h') → Run g pVa_giveWorth D 75 [] [.int s4, .int s3, .int s2, va_rf (some s1), .int s0] h (rI v) h' := by
  obtain ⟨D2, rfl⟩ : ∃ d, D = d + 1 := ⟨D - 1, by omega⟩
  intro s0 s1 s2 s3 s4 h v h' hE
  unfold Va_giveWorth_b75 at hE
  refine r_iconst 0 rfl ci_0 ?_
  exact r_sb (Va_giveWorth_b76_ok g N _ hD   _ _ _ _ _ _ _ _ _ hE) trivial
def Va_giveWorth (N : Nat) (a0 : Nat) (x1 : Int32) (x2 : Int32) (x3 : Int32) (x4 : Int32) (x5 : Int32) (h : PH) : Option (Int32 × PH) :=
  ck ((hK h a0).1 = 9) <|
  ((hR h a0 0)).bind fun a_2 =>
  ck ((hK h a_2).1 = 0) <|
  bd (Ho_worthOf N a_2 x1 x2 x3 x4 x5 h) fun v5 h6 =>
  ck ((hK h6 a0).1 = 9) <|
  ((hR h6 a0 0)).bind fun a_9 =>
  ck ((hK h6 a_9).1 = 0) <|
  bd (Ho_toffeesTaken N a_9 x2 x4 x5 h6) fun v12 h13 =>
  ck ((hK h13 a0).1 = 9) <|
  ((hR h13 a0 0)).bind fun a_16 =>
  ck ((hK h13 a_16).1 = 0) <|
  bd (Ho_applesTaken N a_16 x3 x4 x5 h13) fun v19 h20 =>
  ck ((hK h20 a0).1 = 9) <|
  if (bI (hZ h20 a0 2)) = 0 then
    Va_giveWorth_b75 N  (1000 * v5) a0 (x1 + 1) (x2 - v12) (x3 - v19) h20
  else
    ((hR h20 a0 0)).bind fun a_24 =>
    ck ((hK h20 a_24).1 = 0) <|
    bd (Ho_spreads N a_24 x4 x5 h20) fun v27 h28 =>
    if (bI v27) = 0 then
      Va_giveWorth_b75 N  (1000 * v5) a0 (x1 + 1) (x2 - v12) (x3 - v19) h28
    else
      Va_giveWorth_b76 N  (1000 * v5) a0 (x1 + 1) (x2 - v12) (x3 - v19) 1 h28
set_option maxRecDepth 20000 in
theorem Va_giveWorth_ok (g : GT) (N : Nat) (a0 : Nat) (x1 : Int32) (x2 : Int32) (x3 : Int32) (x4 : Int32) (x5 : Int32) (h : PH) (v : Int32) (h' : PH) (hE : Va_giveWorth N a0 x1 x2 x3 x4 x5 h = some (v, h')) (D : Nat) (hD : 3 ≤ D) : Calls g D pVa_giveWorth [va_rf (some a0), .int x1, .int x2, .int x3, .int x4, .int x5] h (oI v) h' := by
  refine Calls.of cok_Va_giveWorth ht_Va_giveWorth pl_Va_giveWorth (fun ad => by rw [lg_len, sL_cat]; simp only [List.map_cons, List.map_nil, rf_cat, cat_i, cat_l, List.sum_cons, List.sum_nil]; decide) ?_
  rw [show lv_args 0 [va_rf (some a0), .int x1, .int x2, .int x3, .int x4, .int x5] = [(0, va_rf (some a0)), (1, .int x1), (2, .int x2), (3, .int x3), (4, .int x4), (5, .int x5)] from (by simp only [lv_args, rf_cat, cat_i, cat_l]; try rfl)]
  obtain ⟨D2, rfl⟩ : ∃ d, D = d + 1 := ⟨D - 1, by omega⟩
  unfold Va_giveWorth at hE
  refine r_sipush 1000 rfl cs_1000 ?_
  refine r_aload_n (t := some a0) 0 rfl rfl rfl ?_
  obtain ⟨hk1, hE⟩ := ckE hE
  refine r_getR rfl (fl_9_22 rfl) (Or.inl ⟨_, rfl⟩) rfl hk1 ?_
  refine r_iload_n 1 rfl rfl rfl ?_
  refine r_iload_n 2 rfl rfl rfl ?_
  refine r_iload_n 3 rfl rfl rfl ?_
  refine r_iload rfl rfl ?_
  refine r_iload rfl rfl ?_
  obtain ⟨a_2, ha3, hE⟩ := bnE hE
  obtain ⟨hk4, hE⟩ := ckE hE
  obtain ⟨v5, h6, hq7, hE⟩ := bdE hE
  refine r_callV1 (rest := [.int 1000]) (hc := (Ho_worthOf_ok g N _ _ _ _ _ _ _ _ _ hq7 D2 (by omega))) rfl pm_Ho_worthOf lw_9_100 im_Ho_worthOf sl_Ho_worthOf ha3 rfl rfl (rcOK hk4 rfl) (by simp only [List.map_cons, List.map_nil, rf_cat, cat_i, cat_l, List.sum_cons, List.sum_nil]; decide) ?_
  refine r_imul rfl ?_
  refine r_aload_n (t := some a0) 0 rfl rfl rfl ?_
  refine r_iload_n 1 rfl rfl rfl ?_
  refine r_iconst 1 rfl ci_1 ?_
  refine r_iadd rfl ?_
  refine r_iload_n 2 rfl rfl rfl ?_
  refine r_aload_n (t := some a0) 0 rfl rfl rfl ?_
  obtain ⟨hk8, hE⟩ := ckE hE
  refine r_getR rfl (fl_9_22 rfl) (Or.inl ⟨_, rfl⟩) rfl hk8 ?_
  refine r_iload_n 2 rfl rfl rfl ?_
  refine r_iload rfl rfl ?_
  refine r_iload rfl rfl ?_
  obtain ⟨a_9, ha10, hE⟩ := bnE hE
  obtain ⟨hk11, hE⟩ := ckE hE
  obtain ⟨v12, h13, hq14, hE⟩ := bdE hE
  refine r_callV1 (rest := [.int x2, .int (x1 + 1), va_rf (some a0), .int (1000 * v5)]) (hc := (Ho_toffeesTaken_ok g N _ _ _ _ _ _ _ hq14 D2 (by omega))) rfl pm_Ho_toffeesTaken lw_9_103 im_Ho_toffeesTaken sl_Ho_toffeesTaken ha10 rfl rfl (rcOK hk11 rfl) (by simp only [List.map_cons, List.map_nil, rf_cat, cat_i, cat_l, List.sum_cons, List.sum_nil]; decide) ?_
  refine r_isub rfl ?_
  refine r_iload_n 3 rfl rfl rfl ?_
  refine r_aload_n (t := some a0) 0 rfl rfl rfl ?_
  obtain ⟨hk15, hE⟩ := ckE hE
  refine r_getR rfl (fl_9_22 rfl) (Or.inl ⟨_, rfl⟩) rfl hk15 ?_
  refine r_iload_n 3 rfl rfl rfl ?_
  refine r_iload rfl rfl ?_
  refine r_iload rfl rfl ?_
  obtain ⟨a_16, ha17, hE⟩ := bnE hE
  obtain ⟨hk18, hE⟩ := ckE hE
  obtain ⟨v19, h20, hq21, hE⟩ := bdE hE
  refine r_callV1 (rest := [.int x3, .int (x2 - v12), .int (x1 + 1), va_rf (some a0), .int (1000 * v5)]) (hc := (Ho_applesTaken_ok g N _ _ _ _ _ _ _ hq21 D2 (by omega))) rfl pm_Ho_applesTaken lw_9_107 im_Ho_applesTaken sl_Ho_applesTaken ha17 rfl rfl (rcOK hk18 rfl) (by simp only [List.map_cons, List.map_nil, rf_cat, cat_i, cat_l, List.sum_cons, List.sum_nil]; decide) ?_
  refine r_isub rfl ?_
  refine r_aload_n (t := some a0) 0 rfl rfl rfl ?_
  obtain ⟨hk22, hE⟩ := ckE hE
  refine r_getZ rfl (fl_9_30 rfl) rfl hk22 ?_
  refine r_if_eq (tgt := 75) rfl (by decide) (fun hc23 => ?_) (fun hc23 => ?_)
  · have hE := ifP hc23 hE
    exact r_sb (Va_giveWorth_b75_ok g N _ hD   _ _ _ _ _ _ _ _ hE) trivial
  · have hE := ifN hc23 hE
    refine r_aload_n (t := some a0) 0 rfl rfl rfl ?_
    refine r_getR rfl (fl_9_22 rfl) (Or.inl ⟨_, rfl⟩) rfl hk22 ?_
    refine r_iload rfl rfl ?_
    refine r_iload rfl rfl ?_
    obtain ⟨a_24, ha25, hE⟩ := bnE hE
    obtain ⟨hk26, hE⟩ := ckE hE
    obtain ⟨v27, h28, hq29, hE⟩ := bdE hE
    refine r_callV1 (rest := [.int (x3 - v19), .int (x2 - v12), .int (x1 + 1), va_rf (some a0), .int (1000 * v5)]) (hc := (Ho_spreads_ok g N _ _ _ _ _ _ hq29 D2 (by omega))) rfl pm_Ho_spreads lw_9_110 im_Ho_spreads sl_Ho_spreads ha25 rfl rfl (rcOK hk26 rfl) (by simp only [List.map_cons, List.map_nil, rf_cat, cat_i, cat_l, List.sum_cons, List.sum_nil]; decide) ?_
    refine r_if_eq (tgt := 75) rfl (by decide) (fun hc30 => ?_) (fun hc30 => ?_)
    · have hE := ifP hc30 hE
      exact r_sb (Va_giveWorth_b75_ok g N _ hD   _ _ _ _ _ _ _ _ hE) trivial
    · have hE := ifN hc30 hE
      refine r_iconst 1 rfl ci_1 ?_
      refine r_goto (tgt := 76) rfl (by decide) ?_
      exact r_sb (Va_giveWorth_b76_ok g N _ hD   _ _ _ _ _ _ _ _ _ hE) trivial
def Va_greatestOf_b35 (N : Nat) : Nat → Nat → Int32 → Int32 → Int32 → Int32 → Int32 → Int32 → Int32 → PH → Option (Int32 × PH)
  | 0 => fun _ _ _ _ _ _ _ _ _ => none
  | n + 1 => fun a0 x1 x2 x3 x4 x5 x6 x7 h =>
    if x6 < x7 then
      some (x5, h)
    else
      ck ((hK h a0).1 = 9) <|
      bd (Va_giveWorth N a0 x1 x2 x3 x4 x7 h) fun v3 h4 =>
      (Va_greatestOf_b35 N n) a0 x1 x2 x3 x4 (mxI x5 v3) x6 (x7 + 1) h4
set_option maxRecDepth 20000 in
theorem Va_greatestOf_b35_ok (g : GT) (N : Nat) (D : Nat) (hD : 4 ≤ D) : ∀ (n : Nat) (a0 : Nat) (x1 : Int32) (x2 : Int32) (x3 : Int32) (x4 : Int32) (x5 : Int32) (x6 : Int32) (x7 : Int32) (h : PH) (v : Int32) (h' : PH), Va_greatestOf_b35 N n a0 x1 x2 x3 x4 x5 x6 x7 h = some (v, h') → Run g pVa_greatestOf D 35 [(0, va_rf (some a0)), (1, .int x1), (2, .int x2), (3, .int x3), (4, .int x4), (5, .int x5), (6, .int x6), (7, .int x7)] [] h (rI v) h' := by
  obtain ⟨D2, rfl⟩ : ∃ d, D = d + 1 := ⟨D - 1, by omega⟩
  intro n
  induction n with
  | zero => exact fun _ _ _ _ _ _ _ _ _ _ _ hE => nomatch (show none = some _ from hE)
  | succ n ih =>
    intro a0 x1 x2 x3 x4 x5 x6 x7 h v h' hE
    unfold Va_greatestOf_b35 at hE
    refine r_iload rfl rfl ?_
    refine r_iload rfl rfl ?_
    refine r_icmp_gt (tgt := 66) rfl (by decide) (fun hc1 => ?_) (fun hc1 => ?_)
    · have hE := ifP hc1 hE
      refine r_iload rfl rfl ?_
      cases hE
      exact r_ret rfl (Or.inl ⟨rfl, _, _, rfl, rfl, rfl, rfl⟩)
    · have hE := ifN hc1 hE
      refine r_iload rfl rfl ?_
      refine r_aload_n (t := some a0) 0 rfl rfl rfl ?_
      refine r_iload_n 1 rfl rfl rfl ?_
      refine r_iload_n 2 rfl rfl rfl ?_
      refine r_iload_n 3 rfl rfl rfl ?_
      refine r_iload rfl rfl ?_
      refine r_iload rfl rfl ?_
      obtain ⟨hk2, hE⟩ := ckE hE
      obtain ⟨v3, h4, hq5, hE⟩ := bdE hE
      refine r_callV1 (rest := [.int x5]) (hc := (Va_giveWorth_ok g N _ _ _ _ _ _ _ _ _ hq5 D2 (by omega))) rfl pm_Va_giveWorth lw_9_58 im_Va_giveWorth sl_Va_giveWorth rfl rfl rfl (rcOK hk2 rfl) (by simp only [List.map_cons, List.map_nil, rf_cat, cat_i, cat_l, List.sum_cons, List.sum_nil]; decide) ?_
      refine r_mmax rfl (gt4 209 rfl rfl) mm_max1 mm_2 mm_max3 (by decide) ?_
      refine r_istore rfl (by decide) ?_
      refine r_iinc _ rfl rfl (congrArg _ ci_1) (by decide) ?_
      refine r_goto (tgt := 35) rfl (by decide) ?_
      first | exact r_sb (ih _ _ _ _ _ _ _ _ _ _ _ hE) ⟨rfl, rfl, rfl, rfl, rfl, rfl, rfl, rfl, trivial⟩ | exact r_sb (ih _ _ _ _ _ _ _ _ _ _ _ hE) (by simp only [su1, su2, dr1_rf, dr1_in, dr1_lo, dr2_rf, dr2_in, dr2_lo]; exact ⟨rfl, rfl, rfl, rfl, rfl, rfl, rfl, rfl, trivial⟩)
def Va_greatestOf_b30 (N : Nat) (s0 : Int32) (a0 : Nat) (x1 : Int32) (x2 : Int32) (x3 : Int32) (x4 : Int32) (x5 : Int32) (h : PH) : Option (Int32 × PH) :=
  Va_greatestOf_b35 N N a0 x1 x2 x3 x4 x5 s0 1 h
set_option maxRecDepth 20000 in
theorem Va_greatestOf_b30_ok (g : GT) (N : Nat) (D : Nat) (hD : 4 ≤ D) : ∀ (s0 : Int32) (a0 : Nat) (x1 : Int32) (x2 : Int32) (x3 : Int32) (x4 : Int32) (x5 : Int32) (h : PH) (v : Int32) (h' : PH), Va_greatestOf_b30 N s0 a0 x1 x2 x3 x4 x5 h = some (v, h') → Run g pVa_greatestOf D 30 [(0, va_rf (some a0)), (1, .int x1), (2, .int x2), (3, .int x3), (4, .int x4), (5, .int x5)] [.int s0] h (rI v) h' := by
  obtain ⟨D2, rfl⟩ : ∃ d, D = d + 1 := ⟨D - 1, by omega⟩
  intro s0 a0 x1 x2 x3 x4 x5 h v h' hE
  unfold Va_greatestOf_b30 at hE
  refine r_istore rfl (by decide) ?_
  refine r_iconst 1 rfl ci_1 ?_
  refine r_istore rfl (by decide) ?_
  first | exact r_sb (Va_greatestOf_b35_ok g N _ hD  N _ _ _ _ _ _ _ _ _ _ _ hE) ⟨rfl, rfl, rfl, rfl, rfl, rfl, rfl, rfl, trivial⟩ | exact r_sb (Va_greatestOf_b35_ok g N _ hD  N _ _ _ _ _ _ _ _ _ _ _ hE) (by simp only [su1, su2, dr1_rf, dr1_in, dr1_lo, dr2_rf, dr2_in, dr2_lo]; exact ⟨rfl, rfl, rfl, rfl, rfl, rfl, rfl, rfl, trivial⟩)
def Va_greatestOf (N : Nat) (a0 : Nat) (x1 : Int32) (x2 : Int32) (x3 : Int32) (x4 : Int32) (h : PH) : Option (Int32 × PH) :=
  ck ((hK h a0).1 = 9) <|
  bd (Va_giveWorth N a0 x1 x2 x3 x4 0 h) fun v2 h3 =>
  if x4 = 0 then
    Va_greatestOf_b30 N  0 a0 x1 x2 x3 x4 v2 h3
  else
    if x3 ≤ 0 then
      Va_greatestOf_b30 N  3 a0 x1 x2 x3 x4 v2 h3
    else
      Va_greatestOf_b30 N  4 a0 x1 x2 x3 x4 v2 h3
set_option maxRecDepth 20000 in
theorem Va_greatestOf_ok (g : GT) (N : Nat) (a0 : Nat) (x1 : Int32) (x2 : Int32) (x3 : Int32) (x4 : Int32) (h : PH) (v : Int32) (h' : PH) (hE : Va_greatestOf N a0 x1 x2 x3 x4 h = some (v, h')) (D : Nat) (hD : 4 ≤ D) : Calls g D pVa_greatestOf [va_rf (some a0), .int x1, .int x2, .int x3, .int x4] h (oI v) h' := by
  refine Calls.of cok_Va_greatestOf ht_Va_greatestOf pl_Va_greatestOf (fun ad => by rw [lg_len, sL_cat]; simp only [List.map_cons, List.map_nil, rf_cat, cat_i, cat_l, List.sum_cons, List.sum_nil]; decide) ?_
  rw [show lv_args 0 [va_rf (some a0), .int x1, .int x2, .int x3, .int x4] = [(0, va_rf (some a0)), (1, .int x1), (2, .int x2), (3, .int x3), (4, .int x4)] from (by simp only [lv_args, rf_cat, cat_i, cat_l]; try rfl)]
  obtain ⟨D2, rfl⟩ : ∃ d, D = d + 1 := ⟨D - 1, by omega⟩
  unfold Va_greatestOf at hE
  refine r_aload_n (t := some a0) 0 rfl rfl rfl ?_
  refine r_iload_n 1 rfl rfl rfl ?_
  refine r_iload_n 2 rfl rfl rfl ?_
  refine r_iload_n 3 rfl rfl rfl ?_
  refine r_iload rfl rfl ?_
  refine r_iconst 0 rfl ci_0 ?_
  obtain ⟨hk1, hE⟩ := ckE hE
  obtain ⟨v2, h3, hq4, hE⟩ := bdE hE
  refine r_callV1 (rest := []) (hc := (Va_giveWorth_ok g N _ _ _ _ _ _ _ _ _ hq4 D2 (by omega))) rfl pm_Va_giveWorth lw_9_58 im_Va_giveWorth sl_Va_giveWorth rfl rfl rfl (rcOK hk1 rfl) (by decide) ?_
  refine r_istore rfl (by decide) ?_
  refine r_iload rfl rfl ?_
  refine r_if_ne (tgt := 21) rfl (by decide) (fun hc5 => ?_) (fun hc5 => ?_)
  · have hE := ifP hc5 hE
    refine r_iconst 0 rfl ci_0 ?_
    refine r_goto (tgt := 30) rfl (by decide) ?_
    first | exact r_sb (Va_greatestOf_b30_ok g N _ hD   _ _ _ _ _ _ _ _ _ _ hE) ⟨rfl, rfl, rfl, rfl, rfl, rfl, trivial⟩ | exact r_sb (Va_greatestOf_b30_ok g N _ hD   _ _ _ _ _ _ _ _ _ _ hE) (by simp only [su1, su2, dr1_rf, dr1_in, dr1_lo, dr2_rf, dr2_in, dr2_lo]; exact ⟨rfl, rfl, rfl, rfl, rfl, rfl, trivial⟩)
  · have hE := ifN hc5 hE
    refine r_iload_n 3 rfl rfl rfl ?_
    refine r_if_le (tgt := 29) rfl (by decide) (fun hc6 => ?_) (fun hc6 => ?_)
    · have hE := ifP hc6 hE
      refine r_iconst 3 rfl ci_3 ?_
      first | exact r_sb (Va_greatestOf_b30_ok g N _ hD   _ _ _ _ _ _ _ _ _ _ hE) ⟨rfl, rfl, rfl, rfl, rfl, rfl, trivial⟩ | exact r_sb (Va_greatestOf_b30_ok g N _ hD   _ _ _ _ _ _ _ _ _ _ hE) (by simp only [su1, su2, dr1_rf, dr1_in, dr1_lo, dr2_rf, dr2_in, dr2_lo]; exact ⟨rfl, rfl, rfl, rfl, rfl, rfl, trivial⟩)
    · have hE := ifN hc6 hE
      refine r_iconst 4 rfl ci_4 ?_
      refine r_goto (tgt := 30) rfl (by decide) ?_
      first | exact r_sb (Va_greatestOf_b30_ok g N _ hD   _ _ _ _ _ _ _ _ _ _ hE) ⟨rfl, rfl, rfl, rfl, rfl, rfl, trivial⟩ | exact r_sb (Va_greatestOf_b30_ok g N _ hD   _ _ _ _ _ _ _ _ _ _ hE) (by simp only [su1, su2, dr1_rf, dr1_in, dr1_lo, dr2_rf, dr2_in, dr2_lo]; exact ⟨rfl, rfl, rfl, rfl, rfl, rfl, trivial⟩)
def Va_weigh_b87 (N : Nat) (self_3 : Nat → Int32 → Int32 → Int32 → Int32 → PH → Option (Unit × PH)) (s0 : Option Nat) (s1 : Int32) (s2 : Int32) (a0 : Nat) (x1 : Int32) (x2 : Int32) (x3 : Int32) (x4 : Int32) (h : PH) : Option (Unit × PH) :=
  bd (Le_put N s0 s1 s2 h) fun v1 h2 =>
  self_3 a0 x1 x2 x3 (x4 + 1) h2
set_option maxRecDepth 20000 in
theorem Va_weigh_b87_ok (g : GT) (N : Nat) (D : Nat) (hD : 5 ≤ D) (self_3 : Nat → Int32 → Int32 → Int32 → Int32 → PH → Option (Unit × PH)) (hself_3 : ∀ (a0 : Nat) (x1 : Int32) (x2 : Int32) (x3 : Int32) (x4 : Int32) (h : PH) (v : Unit) (h' : PH), self_3 a0 x1 x2 x3 x4 h = some (v, h') → Run g pVa_weigh D 3 [(0, va_rf (some a0)), (1, .int x1), (2, .int x2), (3, .int x3), (4, .int x4)] [] h (rV v) h') : ∀ (s0 : Option Nat) (s1 : Int32) (s2 : Int32) (a0 : Nat) (x1 : Int32) (x2 : Int32) (x3 : Int32) (x4 : Int32) (h : PH) (v : Unit) (h' : PH), Va_weigh_b87 N self_3 s0 s1 s2 a0 x1 x2 x3 x4 h = some (v, h') → Run g pVa_weigh D 87 [(0, va_rf (some a0)), (1, .int x1), (2, .int x2), (3, .int x3), (4, .int x4)] [.int s2, .int s1, va_rf s0] h (rV v) h' := by
  obtain ⟨D2, rfl⟩ : ∃ d, D = d + 1 := ⟨D - 1, by omega⟩
  intro s0 s1 s2 a0 x1 x2 x3 x4 h v h' hE
  unfold Va_weigh_b87 at hE
  obtain ⟨v1, h2, hq3, hE⟩ := bdE hE
  refine r_callSN0 (rest := []) (hc := (Le_put_ok g N _ _ _ _ _ _ hq3 D2 (by omega))) rfl pm_Le_put lw_9_88 st_Le_put rfl rfl (by decide) ?_
  refine r_iinc _ rfl rfl (congrArg _ ci_1) (by decide) ?_
  refine r_goto (tgt := 3) rfl (by decide) ?_
  first | exact r_sb (hself_3 _ _ _ _ _ _ _ _ hE) ⟨rfl, rfl, rfl, rfl, rfl, trivial⟩ | exact r_sb (hself_3 _ _ _ _ _ _ _ _ hE) (by simp only [su1, su2, dr1_rf, dr1_in, dr1_lo, dr2_rf, dr2_in, dr2_lo]; exact ⟨rfl, rfl, rfl, rfl, rfl, trivial⟩)
def Va_weigh_b61 (N : Nat) (self_3 : Nat → Int32 → Int32 → Int32 → Int32 → PH → Option (Unit × PH)) (s0 : Int32) (a0 : Nat) (x1 : Int32) (x2 : Int32) (x3 : Int32) (x4 : Int32) (h : PH) : Option (Unit × PH) :=
  ck ((hK h a0).1 = 9) <|
  if s0 = 0 then
    Va_weigh_b87 N self_3  (hR h a0 3) x4 0 a0 x1 x2 x3 x4 h
  else
    bd (Va_greatestOf N a0 x1 x2 x3 x4 h) fun v3 h4 =>
    Va_weigh_b87 N self_3  (hR h a0 3) x4 v3 a0 x1 x2 x3 x4 h4
set_option maxRecDepth 20000 in
theorem Va_weigh_b61_ok (g : GT) (N : Nat) (D : Nat) (hD : 5 ≤ D) (self_3 : Nat → Int32 → Int32 → Int32 → Int32 → PH → Option (Unit × PH)) (hself_3 : ∀ (a0 : Nat) (x1 : Int32) (x2 : Int32) (x3 : Int32) (x4 : Int32) (h : PH) (v : Unit) (h' : PH), self_3 a0 x1 x2 x3 x4 h = some (v, h') → Run g pVa_weigh D 3 [(0, va_rf (some a0)), (1, .int x1), (2, .int x2), (3, .int x3), (4, .int x4)] [] h (rV v) h') : ∀ (s0 : Int32) (a0 : Nat) (x1 : Int32) (x2 : Int32) (x3 : Int32) (x4 : Int32) (h : PH) (v : Unit) (h' : PH), Va_weigh_b61 N self_3 s0 a0 x1 x2 x3 x4 h = some (v, h') → Run g pVa_weigh D 61 [(0, va_rf (some a0)), (1, .int x1), (2, .int x2), (3, .int x3), (4, .int x4)] [.int s0] h (rV v) h' := by
  obtain ⟨D2, rfl⟩ : ∃ d, D = d + 1 := ⟨D - 1, by omega⟩
  intro s0 a0 x1 x2 x3 x4 h v h' hE
  unfold Va_weigh_b61 at hE
  refine r_istore rfl (by decide) ?_
  refine r_aload_n (t := some a0) 0 rfl rfl rfl ?_
  obtain ⟨hk1, hE⟩ := ckE hE
  refine r_getR rfl (fl_9_9 rfl) (Or.inr ⟨_, rfl⟩) rfl hk1 ?_
  refine r_iload rfl rfl ?_
  refine r_iload rfl rfl ?_
  refine r_if_eq (tgt := 86) rfl (by decide) (fun hc2 => ?_) (fun hc2 => ?_)
  · have hE := ifP hc2 hE
    refine r_iconst 0 rfl ci_0 ?_
    first | exact r_sb (Va_weigh_b87_ok g N _ hD _ hself_3  _ _ _ _ _ _ _ _ _ _ _ hE) ⟨rfl, rfl, rfl, rfl, rfl, trivial⟩ | exact r_sb (Va_weigh_b87_ok g N _ hD _ hself_3  _ _ _ _ _ _ _ _ _ _ _ hE) (by simp only [su1, su2, dr1_rf, dr1_in, dr1_lo, dr2_rf, dr2_in, dr2_lo]; exact ⟨rfl, rfl, rfl, rfl, rfl, trivial⟩)
  · have hE := ifN hc2 hE
    refine r_aload_n (t := some a0) 0 rfl rfl rfl ?_
    refine r_iload_n 1 rfl rfl rfl ?_
    refine r_iload_n 2 rfl rfl rfl ?_
    refine r_iload_n 3 rfl rfl rfl ?_
    refine r_iload rfl rfl ?_
    obtain ⟨v3, h4, hq5, hE⟩ := bdE hE
    refine r_callV1 (rest := [.int x4, va_rf (hR h a0 3)]) (hc := (Va_greatestOf_ok g N _ _ _ _ _ _ _ _ hq5 D2 (by omega))) rfl pm_Va_greatestOf lw_9_54 im_Va_greatestOf sl_Va_greatestOf rfl rfl rfl (rcOK hk1 rfl) (by simp only [List.map_cons, List.map_nil, rf_cat, cat_i, cat_l, List.sum_cons, List.sum_nil]; decide) ?_
    refine r_goto (tgt := 87) rfl (by decide) ?_
    first | exact r_sb (Va_weigh_b87_ok g N _ hD _ hself_3  _ _ _ _ _ _ _ _ _ _ _ hE) ⟨rfl, rfl, rfl, rfl, rfl, trivial⟩ | exact r_sb (Va_weigh_b87_ok g N _ hD _ hself_3  _ _ _ _ _ _ _ _ _ _ _ hE) (by simp only [su1, su2, dr1_rf, dr1_in, dr1_lo, dr2_rf, dr2_in, dr2_lo]; exact ⟨rfl, rfl, rfl, rfl, rfl, trivial⟩)
def Va_weigh_b56 (N : Nat) (self_3 : Nat → Int32 → Int32 → Int32 → Int32 → PH → Option (Unit × PH)) (a0 : Nat) (x1 : Int32) (x2 : Int32) (x3 : Int32) (x4 : Int32) (h : PH) : Option (Unit × PH) :=
  Va_weigh_b61 N self_3  1 a0 x1 x2 x3 x4 h
set_option maxRecDepth 20000 in
theorem Va_weigh_b56_ok (g : GT) (N : Nat) (D : Nat) (hD : 5 ≤ D) (self_3 : Nat → Int32 → Int32 → Int32 → Int32 → PH → Option (Unit × PH)) (hself_3 : ∀ (a0 : Nat) (x1 : Int32) (x2 : Int32) (x3 : Int32) (x4 : Int32) (h : PH) (v : Unit) (h' : PH), self_3 a0 x1 x2 x3 x4 h = some (v, h') → Run g pVa_weigh D 3 [(0, va_rf (some a0)), (1, .int x1), (2, .int x2), (3, .int x3), (4, .int x4)] [] h (rV v) h') : ∀ (a0 : Nat) (x1 : Int32) (x2 : Int32) (x3 : Int32) (x4 : Int32) (h : PH) (v : Unit) (h' : PH), Va_weigh_b56 N self_3 a0 x1 x2 x3 x4 h = some (v, h') → Run g pVa_weigh D 56 [(0, va_rf (some a0)), (1, .int x1), (2, .int x2), (3, .int x3), (4, .int x4)] [] h (rV v) h' := by
  obtain ⟨D2, rfl⟩ : ∃ d, D = d + 1 := ⟨D - 1, by omega⟩
  intro a0 x1 x2 x3 x4 h v h' hE
  unfold Va_weigh_b56 at hE
  refine r_iconst 1 rfl ci_1 ?_
  refine r_goto (tgt := 61) rfl (by decide) ?_
  first | exact r_sb (Va_weigh_b61_ok g N _ hD _ hself_3  _ _ _ _ _ _ _ _ _ hE) ⟨rfl, rfl, rfl, rfl, rfl, trivial⟩ | exact r_sb (Va_weigh_b61_ok g N _ hD _ hself_3  _ _ _ _ _ _ _ _ _ hE) (by simp only [su1, su2, dr1_rf, dr1_in, dr1_lo, dr2_rf, dr2_in, dr2_lo]; exact ⟨rfl, rfl, rfl, rfl, rfl, trivial⟩)
def Va_weigh_b60 (N : Nat) (self_3 : Nat → Int32 → Int32 → Int32 → Int32 → PH → Option (Unit × PH)) (a0 : Nat) (x1 : Int32) (x2 : Int32) (x3 : Int32) (x4 : Int32) (h : PH) : Option (Unit × PH) :=
  Va_weigh_b61 N self_3  0 a0 x1 x2 x3 x4 h
set_option maxRecDepth 20000 in
theorem Va_weigh_b60_ok (g : GT) (N : Nat) (D : Nat) (hD : 5 ≤ D) (self_3 : Nat → Int32 → Int32 → Int32 → Int32 → PH → Option (Unit × PH)) (hself_3 : ∀ (a0 : Nat) (x1 : Int32) (x2 : Int32) (x3 : Int32) (x4 : Int32) (h : PH) (v : Unit) (h' : PH), self_3 a0 x1 x2 x3 x4 h = some (v, h') → Run g pVa_weigh D 3 [(0, va_rf (some a0)), (1, .int x1), (2, .int x2), (3, .int x3), (4, .int x4)] [] h (rV v) h') : ∀ (a0 : Nat) (x1 : Int32) (x2 : Int32) (x3 : Int32) (x4 : Int32) (h : PH) (v : Unit) (h' : PH), Va_weigh_b60 N self_3 a0 x1 x2 x3 x4 h = some (v, h') → Run g pVa_weigh D 60 [(0, va_rf (some a0)), (1, .int x1), (2, .int x2), (3, .int x3), (4, .int x4)] [] h (rV v) h' := by
  obtain ⟨D2, rfl⟩ : ∃ d, D = d + 1 := ⟨D - 1, by omega⟩
  intro a0 x1 x2 x3 x4 h v h' hE
  unfold Va_weigh_b60 at hE
  refine r_iconst 0 rfl ci_0 ?_
  first | exact r_sb (Va_weigh_b61_ok g N _ hD _ hself_3  _ _ _ _ _ _ _ _ _ hE) ⟨rfl, rfl, rfl, rfl, rfl, trivial⟩ | exact r_sb (Va_weigh_b61_ok g N _ hD _ hself_3  _ _ _ _ _ _ _ _ _ hE) (by simp only [su1, su2, dr1_rf, dr1_in, dr1_lo, dr2_rf, dr2_in, dr2_lo]; exact ⟨rfl, rfl, rfl, rfl, rfl, trivial⟩)
def Va_weigh_b32 (N : Nat) (self_3 : Nat → Int32 → Int32 → Int32 → Int32 → PH → Option (Unit × PH)) (a0 : Nat) (x1 : Int32) (x2 : Int32) (x3 : Int32) (x4 : Int32) (h : PH) : Option (Unit × PH) :=
  if x4 ≤ 0 then
    Va_weigh_b60 N self_3  a0 x1 x2 x3 x4 h
  else
    ck ((hK h a0).1 = 9) <|
    ((hR h a0 0)).bind fun a_3 =>
    ck ((hK h a_3).1 = 0) <|
    bd (Ho_chance N a_3 (bI (hZ h a0 1)) x1 (x4 - 1) h) fun v6 h7 =>
    if v6 ≤ 0 then
      Va_weigh_b60 N self_3  a0 x1 x2 x3 x4 h7
    else
      Va_weigh_b56 N self_3  a0 x1 x2 x3 x4 h7
set_option maxRecDepth 20000 in
theorem Va_weigh_b32_ok (g : GT) (N : Nat) (D : Nat) (hD : 5 ≤ D) (self_3 : Nat → Int32 → Int32 → Int32 → Int32 → PH → Option (Unit × PH)) (hself_3 : ∀ (a0 : Nat) (x1 : Int32) (x2 : Int32) (x3 : Int32) (x4 : Int32) (h : PH) (v : Unit) (h' : PH), self_3 a0 x1 x2 x3 x4 h = some (v, h') → Run g pVa_weigh D 3 [(0, va_rf (some a0)), (1, .int x1), (2, .int x2), (3, .int x3), (4, .int x4)] [] h (rV v) h') : ∀ (a0 : Nat) (x1 : Int32) (x2 : Int32) (x3 : Int32) (x4 : Int32) (h : PH) (v : Unit) (h' : PH), Va_weigh_b32 N self_3 a0 x1 x2 x3 x4 h = some (v, h') → Run g pVa_weigh D 32 [(0, va_rf (some a0)), (1, .int x1), (2, .int x2), (3, .int x3), (4, .int x4)] [] h (rV v) h' := by
  obtain ⟨D2, rfl⟩ : ∃ d, D = d + 1 := ⟨D - 1, by omega⟩
  intro a0 x1 x2 x3 x4 h v h' hE
  unfold Va_weigh_b32 at hE
  refine r_iload rfl rfl ?_
  refine r_if_le (tgt := 60) rfl (by decide) (fun hc1 => ?_) (fun hc1 => ?_)
  · have hE := ifP hc1 hE
    first | exact r_sb (Va_weigh_b60_ok g N _ hD _ hself_3  _ _ _ _ _ _ _ _ hE) ⟨rfl, rfl, rfl, rfl, rfl, trivial⟩ | exact r_sb (Va_weigh_b60_ok g N _ hD _ hself_3  _ _ _ _ _ _ _ _ hE) (by simp only [su1, su2, dr1_rf, dr1_in, dr1_lo, dr2_rf, dr2_in, dr2_lo]; exact ⟨rfl, rfl, rfl, rfl, rfl, trivial⟩)
  · have hE := ifN hc1 hE
    refine r_aload_n (t := some a0) 0 rfl rfl rfl ?_
    obtain ⟨hk2, hE⟩ := ckE hE
    refine r_getR rfl (fl_9_22 rfl) (Or.inl ⟨_, rfl⟩) rfl hk2 ?_
    refine r_aload_n (t := some a0) 0 rfl rfl rfl ?_
    refine r_getZ rfl (fl_9_26 rfl) rfl hk2 ?_
    refine r_iload_n 1 rfl rfl rfl ?_
    refine r_iload rfl rfl ?_
    refine r_iconst 1 rfl ci_1 ?_
    refine r_isub rfl ?_
    obtain ⟨a_3, ha4, hE⟩ := bnE hE
    obtain ⟨hk5, hE⟩ := ckE hE
    obtain ⟨v6, h7, hq8, hE⟩ := bdE hE
    refine r_callV1 (rest := []) (hc := (Ho_chance_ok g N _ _ _ _ _ _ _ hq8 D2 (by omega))) rfl pm_Ho_chance lw_9_92 im_Ho_chance sl_Ho_chance ha4 rfl rfl (rcOK hk5 rfl) (by decide) ?_
    refine r_if_le (tgt := 60) rfl (by decide) (fun hc9 => ?_) (fun hc9 => ?_)
    · have hE := ifP hc9 hE
      first | exact r_sb (Va_weigh_b60_ok g N _ hD _ hself_3  _ _ _ _ _ _ _ _ hE) ⟨rfl, rfl, rfl, rfl, rfl, trivial⟩ | exact r_sb (Va_weigh_b60_ok g N _ hD _ hself_3  _ _ _ _ _ _ _ _ hE) (by simp only [su1, su2, dr1_rf, dr1_in, dr1_lo, dr2_rf, dr2_in, dr2_lo]; exact ⟨rfl, rfl, rfl, rfl, rfl, trivial⟩)
    · have hE := ifN hc9 hE
      first | exact r_sb (Va_weigh_b56_ok g N _ hD _ hself_3  _ _ _ _ _ _ _ _ hE) ⟨rfl, rfl, rfl, rfl, rfl, trivial⟩ | exact r_sb (Va_weigh_b56_ok g N _ hD _ hself_3  _ _ _ _ _ _ _ _ hE) (by simp only [su1, su2, dr1_rf, dr1_in, dr1_lo, dr2_rf, dr2_in, dr2_lo]; exact ⟨rfl, rfl, rfl, rfl, rfl, trivial⟩)
def Va_weigh_b3 (N : Nat) : Nat → Nat → Int32 → Int32 → Int32 → Int32 → PH → Option (Unit × PH)
  | 0 => fun _ _ _ _ _ _ => none
  | n + 1 => fun a0 x1 x2 x3 x4 h =>
    if 4 < x4 then
      some ((), h)
    else
      if 4 ≤ x4 then
        Va_weigh_b32 N (Va_weigh_b3 N n)  a0 x1 x2 x3 x4 h
      else
        ck ((hK h a0).1 = 9) <|
        ((hR h a0 0)).bind fun a_4 =>
        ck ((hK h a_4).1 = 0) <|
        bd (Ho_chance N a_4 (bI (hZ h a0 1)) x1 x4 h) fun v7 h8 =>
        if 0 < v7 then
          Va_weigh_b56 N (Va_weigh_b3 N n)  a0 x1 x2 x3 x4 h8
        else
          Va_weigh_b32 N (Va_weigh_b3 N n)  a0 x1 x2 x3 x4 h8
set_option maxRecDepth 20000 in
theorem Va_weigh_b3_ok (g : GT) (N : Nat) (D : Nat) (hD : 5 ≤ D) : ∀ (n : Nat) (a0 : Nat) (x1 : Int32) (x2 : Int32) (x3 : Int32) (x4 : Int32) (h : PH) (v : Unit) (h' : PH), Va_weigh_b3 N n a0 x1 x2 x3 x4 h = some (v, h') → Run g pVa_weigh D 3 [(0, va_rf (some a0)), (1, .int x1), (2, .int x2), (3, .int x3), (4, .int x4)] [] h (rV v) h' := by
  obtain ⟨D2, rfl⟩ : ∃ d, D = d + 1 := ⟨D - 1, by omega⟩
  intro n
  induction n with
  | zero => exact fun _ _ _ _ _ _ _ _ hE => nomatch (show none = some _ from hE)
  | succ n ih =>
    intro a0 x1 x2 x3 x4 h v h' hE
    unfold Va_weigh_b3 at hE
    refine r_iload rfl rfl ?_
    refine r_iconst 4 rfl ci_4 ?_
    refine r_icmp_gt (tgt := 96) rfl (by decide) (fun hc1 => ?_) (fun hc1 => ?_)
    · have hE := ifP hc1 hE
      cases hE
      exact r_ret rfl (Or.inr (Or.inr (Or.inr ⟨rfl, rfl, rfl, rfl⟩)))
    · have hE := ifN hc1 hE
      refine r_iload rfl rfl ?_
      refine r_iconst 4 rfl ci_4 ?_
      refine r_icmp_ge (tgt := 32) rfl (by decide) (fun hc2 => ?_) (fun hc2 => ?_)
      · have hE := ifP hc2 hE
        first | exact r_sb (Va_weigh_b32_ok g N _ hD _ ih  _ _ _ _ _ _ _ _ hE) ⟨rfl, rfl, rfl, rfl, rfl, trivial⟩ | exact r_sb (Va_weigh_b32_ok g N _ hD _ ih  _ _ _ _ _ _ _ _ hE) (by simp only [su1, su2, dr1_rf, dr1_in, dr1_lo, dr2_rf, dr2_in, dr2_lo]; exact ⟨rfl, rfl, rfl, rfl, rfl, trivial⟩)
      · have hE := ifN hc2 hE
        refine r_aload_n (t := some a0) 0 rfl rfl rfl ?_
        obtain ⟨hk3, hE⟩ := ckE hE
        refine r_getR rfl (fl_9_22 rfl) (Or.inl ⟨_, rfl⟩) rfl hk3 ?_
        refine r_aload_n (t := some a0) 0 rfl rfl rfl ?_
        refine r_getZ rfl (fl_9_26 rfl) rfl hk3 ?_
        refine r_iload_n 1 rfl rfl rfl ?_
        refine r_iload rfl rfl ?_
        obtain ⟨a_4, ha5, hE⟩ := bnE hE
        obtain ⟨hk6, hE⟩ := ckE hE
        obtain ⟨v7, h8, hq9, hE⟩ := bdE hE
        refine r_callV1 (rest := []) (hc := (Ho_chance_ok g N _ _ _ _ _ _ _ hq9 D2 (by omega))) rfl pm_Ho_chance lw_9_92 im_Ho_chance sl_Ho_chance ha5 rfl rfl (rcOK hk6 rfl) (by decide) ?_
        refine r_if_gt (tgt := 56) rfl (by decide) (fun hc10 => ?_) (fun hc10 => ?_)
        · have hE := ifP hc10 hE
          first | exact r_sb (Va_weigh_b56_ok g N _ hD _ ih  _ _ _ _ _ _ _ _ hE) ⟨rfl, rfl, rfl, rfl, rfl, trivial⟩ | exact r_sb (Va_weigh_b56_ok g N _ hD _ ih  _ _ _ _ _ _ _ _ hE) (by simp only [su1, su2, dr1_rf, dr1_in, dr1_lo, dr2_rf, dr2_in, dr2_lo]; exact ⟨rfl, rfl, rfl, rfl, rfl, trivial⟩)
        · have hE := ifN hc10 hE
          first | exact r_sb (Va_weigh_b32_ok g N _ hD _ ih  _ _ _ _ _ _ _ _ hE) ⟨rfl, rfl, rfl, rfl, rfl, trivial⟩ | exact r_sb (Va_weigh_b32_ok g N _ hD _ ih  _ _ _ _ _ _ _ _ hE) (by simp only [su1, su2, dr1_rf, dr1_in, dr1_lo, dr2_rf, dr2_in, dr2_lo]; exact ⟨rfl, rfl, rfl, rfl, rfl, trivial⟩)
def Va_weigh (N : Nat) (a0 : Nat) (x1 : Int32) (x2 : Int32) (x3 : Int32) (h : PH) : Option (Unit × PH) :=
  Va_weigh_b3 N N a0 x1 x2 x3 0 h
set_option maxRecDepth 20000 in
theorem Va_weigh_ok (g : GT) (N : Nat) (a0 : Nat) (x1 : Int32) (x2 : Int32) (x3 : Int32) (h : PH) (v : Unit) (h' : PH) (hE : Va_weigh N a0 x1 x2 x3 h = some (v, h')) (D : Nat) (hD : 5 ≤ D) : Calls g D pVa_weigh [va_rf (some a0), .int x1, .int x2, .int x3] h (oV v) h' := by
  refine Calls.of cok_Va_weigh ht_Va_weigh pl_Va_weigh (fun ad => by rw [lg_len, sL_cat]; simp only [List.map_cons, List.map_nil, rf_cat, cat_i, cat_l, List.sum_cons, List.sum_nil]; decide) ?_
  rw [show lv_args 0 [va_rf (some a0), .int x1, .int x2, .int x3] = [(0, va_rf (some a0)), (1, .int x1), (2, .int x2), (3, .int x3)] from (by simp only [lv_args, rf_cat, cat_i, cat_l]; try rfl)]
  obtain ⟨D2, rfl⟩ : ∃ d, D = d + 1 := ⟨D - 1, by omega⟩
  unfold Va_weigh at hE
  refine r_iconst 0 rfl ci_0 ?_
  refine r_istore rfl (by decide) ?_
  first | exact r_sb (Va_weigh_b3_ok g N _ hD  N _ _ _ _ _ _ _ _ hE) ⟨rfl, rfl, rfl, rfl, rfl, trivial⟩ | exact r_sb (Va_weigh_b3_ok g N _ hD  N _ _ _ _ _ _ _ _ hE) (by simp only [su1, su2, dr1_rf, dr1_in, dr1_lo, dr2_rf, dr2_in, dr2_lo]; exact ⟨rfl, rfl, rfl, rfl, rfl, trivial⟩)
def Va_litMean_b43 (N : Nat) (self_5 : Nat → Int32 → Int32 → Int32 → Int32 → PH → Option (Int32 × PH)) (s0 : Int32) (s1 : Int32) (s2 : Option Nat) (s3 : Int32) (a0 : Nat) (x1 : Int32) (x2 : Int32) (x4 : Int32) (h : PH) : Option (Int32 × PH) :=
  bd (Le_at N s2 s3 h) fun v1 h2 =>
  self_5 a0 x1 x2 (s0 + (s1 * v1)) (x4 + 1) h2
set_option maxRecDepth 20000 in
theorem Va_litMean_b43_ok (g : GT) (N : Nat) (D : Nat) (hD : 2 ≤ D) (self_5 : Nat → Int32 → Int32 → Int32 → Int32 → PH → Option (Int32 × PH)) (hself_5 : ∀ (a0 : Nat) (x1 : Int32) (x2 : Int32) (x3 : Int32) (x4 : Int32) (h : PH) (v : Int32) (h' : PH), self_5 a0 x1 x2 x3 x4 h = some (v, h') → Run g pVa_litMean D 5 [(0, va_rf (some a0)), (1, .int x1), (2, .int x2), (3, .int x3), (4, .int x4)] [] h (rI v) h') : ∀ (s0 : Int32) (s1 : Int32) (s2 : Option Nat) (s3 : Int32) (a0 : Nat) (x1 : Int32) (x2 : Int32) (x4 : Int32) (h : PH) (v : Int32) (h' : PH), Va_litMean_b43 N self_5 s0 s1 s2 s3 a0 x1 x2 x4 h = some (v, h') → Run g pVa_litMean D 43 [(0, va_rf (some a0)), (1, .int x1), (2, .int x2), (4, .int x4)] [.int s3, va_rf s2, .int s1, .int s0] h (rI v) h' := by
  obtain ⟨D2, rfl⟩ : ∃ d, D = d + 1 := ⟨D - 1, by omega⟩
  intro s0 s1 s2 s3 a0 x1 x2 x4 h v h' hE
  unfold Va_litMean_b43 at hE
  obtain ⟨v1, h2, hq3, hE⟩ := bdE hE
  refine r_callSN1 (rest := [.int s1, .int s0]) (hc := (Le_at_ok g N _ _ _ _ _ hq3 D2 (by omega))) rfl pm_Le_at lw_9_96 st_Le_at rfl rfl (by simp only [List.map_cons, List.map_nil, rf_cat, cat_i, cat_l, List.sum_cons, List.sum_nil]; decide) ?_
  refine r_imul rfl ?_
  refine r_iadd rfl ?_
  refine r_istore_n 3 rfl rfl (by decide) ?_
  refine r_iinc _ rfl rfl (congrArg _ ci_1) (by decide) ?_
  refine r_goto (tgt := 5) rfl (by decide) ?_
  first | exact r_sb (hself_5 _ _ _ _ _ _ _ _ hE) ⟨rfl, rfl, rfl, rfl, rfl, trivial⟩ | exact r_sb (hself_5 _ _ _ _ _ _ _ _ hE) (by simp only [su1, su2, dr1_rf, dr1_in, dr1_lo, dr2_rf, dr2_in, dr2_lo]; exact ⟨rfl, rfl, rfl, rfl, rfl, trivial⟩)
def Va_litMean_b5 (N : Nat) : Nat → Nat → Int32 → Int32 → Int32 → Int32 → PH → Option (Int32 × PH)
  | 0 => fun _ _ _ _ _ _ => none
  | n + 1 => fun a0 x1 x2 x3 x4 h =>
    if 3 < x4 then
      ck (¬ (10 : Int32) = 0) <|
      some ((x3 / 10), h)
    else
      ck ((hK h a0).1 = 9) <|
      ((hR h a0 0)).bind fun a_4 =>
      ck ((hK h a_4).1 = 0) <|
      bd (Ho_chance N a_4 (bI (hZ h a0 1)) x1 x4 h) fun v7 h8 =>
      ck ((hK h8 a0).1 = 9) <|
      if x2 = 0 then
        Va_litMean_b43 N (Va_litMean_b5 N n)  x3 v7 (hR h8 a0 3) x4 a0 x1 x2 x4 h8
      else
        Va_litMean_b43 N (Va_litMean_b5 N n)  x3 v7 (hR h8 a0 3) (x4 + 1) a0 x1 x2 x4 h8
set_option maxRecDepth 20000 in
theorem Va_litMean_b5_ok (g : GT) (N : Nat) (D : Nat) (hD : 2 ≤ D) : ∀ (n : Nat) (a0 : Nat) (x1 : Int32) (x2 : Int32) (x3 : Int32) (x4 : Int32) (h : PH) (v : Int32) (h' : PH), Va_litMean_b5 N n a0 x1 x2 x3 x4 h = some (v, h') → Run g pVa_litMean D 5 [(0, va_rf (some a0)), (1, .int x1), (2, .int x2), (3, .int x3), (4, .int x4)] [] h (rI v) h' := by
  obtain ⟨D2, rfl⟩ : ∃ d, D = d + 1 := ⟨D - 1, by omega⟩
  intro n
  induction n with
  | zero => exact fun _ _ _ _ _ _ _ _ hE => nomatch (show none = some _ from hE)
  | succ n ih =>
    intro a0 x1 x2 x3 x4 h v h' hE
    unfold Va_litMean_b5 at hE
    refine r_iload rfl rfl ?_
    refine r_iconst 3 rfl ci_3 ?_
    refine r_icmp_gt (tgt := 55) rfl (by decide) (fun hc1 => ?_) (fun hc1 => ?_)
    · have hE := ifP hc1 hE
      refine r_iload_n 3 rfl rfl rfl ?_
      refine r_bipush 10 rfl cb_10 ?_
      obtain ⟨hc2, hE⟩ := ckE hE
      refine r_idiv rfl hc2 ?_
      cases hE
      exact r_ret rfl (Or.inl ⟨rfl, _, _, rfl, rfl, rfl, rfl⟩)
    · have hE := ifN hc1 hE
      refine r_iload_n 3 rfl rfl rfl ?_
      refine r_aload_n (t := some a0) 0 rfl rfl rfl ?_
      obtain ⟨hk3, hE⟩ := ckE hE
      refine r_getR rfl (fl_9_22 rfl) (Or.inl ⟨_, rfl⟩) rfl hk3 ?_
      refine r_aload_n (t := some a0) 0 rfl rfl rfl ?_
      refine r_getZ rfl (fl_9_26 rfl) rfl hk3 ?_
      refine r_iload_n 1 rfl rfl rfl ?_
      refine r_iload rfl rfl ?_
      obtain ⟨a_4, ha5, hE⟩ := bnE hE
      obtain ⟨hk6, hE⟩ := ckE hE
      obtain ⟨v7, h8, hq9, hE⟩ := bdE hE
      refine r_callV1 (rest := [.int x3]) (hc := (Ho_chance_ok g N _ _ _ _ _ _ _ hq9 D2 (by omega))) rfl pm_Ho_chance lw_9_92 im_Ho_chance sl_Ho_chance ha5 rfl rfl (rcOK hk6 rfl) (by simp only [List.map_cons, List.map_nil, rf_cat, cat_i, cat_l, List.sum_cons, List.sum_nil]; decide) ?_
      refine r_aload_n (t := some a0) 0 rfl rfl rfl ?_
      obtain ⟨hk10, hE⟩ := ckE hE
      refine r_getR rfl (fl_9_9 rfl) (Or.inr ⟨_, rfl⟩) rfl hk10 ?_
      refine r_iload_n 2 rfl rfl rfl ?_
      refine r_if_eq (tgt := 41) rfl (by decide) (fun hc11 => ?_) (fun hc11 => ?_)
      · have hE := ifP hc11 hE
        refine r_iload rfl rfl ?_
        first | exact r_sb (Va_litMean_b43_ok g N _ hD _ ih  _ _ _ _ _ _ _ _ _ _ _ hE) ⟨rfl, rfl, rfl, rfl, trivial⟩ | exact r_sb (Va_litMean_b43_ok g N _ hD _ ih  _ _ _ _ _ _ _ _ _ _ _ hE) (by simp only [su1, su2, dr1_rf, dr1_in, dr1_lo, dr2_rf, dr2_in, dr2_lo]; exact ⟨rfl, rfl, rfl, rfl, trivial⟩)
      · have hE := ifN hc11 hE
        refine r_iload rfl rfl ?_
        refine r_iconst 1 rfl ci_1 ?_
        refine r_iadd rfl ?_
        refine r_goto (tgt := 43) rfl (by decide) ?_
        first | exact r_sb (Va_litMean_b43_ok g N _ hD _ ih  _ _ _ _ _ _ _ _ _ _ _ hE) ⟨rfl, rfl, rfl, rfl, trivial⟩ | exact r_sb (Va_litMean_b43_ok g N _ hD _ ih  _ _ _ _ _ _ _ _ _ _ _ hE) (by simp only [su1, su2, dr1_rf, dr1_in, dr1_lo, dr2_rf, dr2_in, dr2_lo]; exact ⟨rfl, rfl, rfl, rfl, trivial⟩)
def Va_litMean (N : Nat) (a0 : Nat) (x1 : Int32) (x2 : Int32) (h : PH) : Option (Int32 × PH) :=
  Va_litMean_b5 N N a0 x1 x2 0 0 h
set_option maxRecDepth 20000 in
theorem Va_litMean_ok (g : GT) (N : Nat) (a0 : Nat) (x1 : Int32) (x2 : Int32) (h : PH) (v : Int32) (h' : PH) (hE : Va_litMean N a0 x1 x2 h = some (v, h')) (D : Nat) (hD : 2 ≤ D) : Calls g D pVa_litMean [va_rf (some a0), .int x1, .int x2] h (oI v) h' := by
  refine Calls.of cok_Va_litMean ht_Va_litMean pl_Va_litMean (fun ad => by rw [lg_len, sL_cat]; simp only [List.map_cons, List.map_nil, rf_cat, cat_i, cat_l, List.sum_cons, List.sum_nil]; decide) ?_
  rw [show lv_args 0 [va_rf (some a0), .int x1, .int x2] = [(0, va_rf (some a0)), (1, .int x1), (2, .int x2)] from (by simp only [lv_args, rf_cat, cat_i, cat_l]; try rfl)]
  obtain ⟨D2, rfl⟩ : ∃ d, D = d + 1 := ⟨D - 1, by omega⟩
  unfold Va_litMean at hE
  refine r_iconst 0 rfl ci_0 ?_
  refine r_istore_n 3 rfl rfl (by decide) ?_
  refine r_iconst 0 rfl ci_0 ?_
  refine r_istore rfl (by decide) ?_
  first | exact r_sb (Va_litMean_b5_ok g N _ hD  N _ _ _ _ _ _ _ _ hE) ⟨rfl, rfl, rfl, rfl, rfl, trivial⟩ | exact r_sb (Va_litMean_b5_ok g N _ hD  N _ _ _ _ _ _ _ _ hE) (by simp only [su1, su2, dr1_rf, dr1_in, dr1_lo, dr2_rf, dr2_in, dr2_lo]; exact ⟨rfl, rfl, rfl, rfl, rfl, trivial⟩)
def Va_fillTo_b75 (N : Nat) (self_39 : Nat → Int32 → Int32 → PH → Option (Unit × PH)) (self_50 : Nat → Int32 → Int32 → Int32 → PH → Option (Unit × PH)) : Nat → Nat → Int32 → Int32 → Int32 → Int32 → Int32 → PH → Option (Unit × PH)
  | 0 => fun _ _ _ _ _ _ _ => none
  | n + 1 => fun a0 x1 x2 x3 x4 x5 h =>
    ck ((hK h a0).1 = 9) <|
    ((hR h a0 0)).bind fun a_2 =>
    ck ((hK h a_2).1 = 0) <|
    if (hI h a_2 2) < x5 then
      self_50 a0 x1 x2 (x3 + 1) h
    else
      bd (Va_weigh N a0 x2 x3 x5 h) fun v6 h7 =>
      ck ((hK h7 a0).1 = 9) <|
      ((hR h7 a0 0)).bind fun a_10 =>
      ck ((hK h7 a_10).1 = 0) <|
      bd (Ho_placeOf N a_10 x2 x3 x5 0 h7) fun v13 h14 =>
      ck ((hK h14 a0).1 = 9) <|
      bd (Va_litMean N a0 x2 0 h14) fun v17 h18 =>
      bd (Le_put N (hR h14 a0 4) v13 (mxI x4 v17) h18) fun v20 h21 =>
      ck ((hK h21 a0).1 = 9) <|
      bd (Va_litMean N a0 x2 1 h21) fun v24 h25 =>
      bd (Le_put N (hR h21 a0 4) (v13 + 1) (mxI x4 v24) h25) fun v27 h28 =>
      (Va_fillTo_b75 N self_39 self_50 n) a0 x1 x2 x3 x4 (x5 + 1) h28
set_option maxRecDepth 20000 in
theorem Va_fillTo_b75_ok (g : GT) (N : Nat) (D : Nat) (hD : 6 ≤ D) (self_39 : Nat → Int32 → Int32 → PH → Option (Unit × PH)) (hself_39 : ∀ (a0 : Nat) (x1 : Int32) (x2 : Int32) (h : PH) (v : Unit) (h' : PH), self_39 a0 x1 x2 h = some (v, h') → Run g pVa_fillTo D 39 [(0, va_rf (some a0)), (1, .int x1), (2, .int x2)] [] h (rV v) h') (self_50 : Nat → Int32 → Int32 → Int32 → PH → Option (Unit × PH)) (hself_50 : ∀ (a0 : Nat) (x1 : Int32) (x2 : Int32) (x3 : Int32) (h : PH) (v : Unit) (h' : PH), self_50 a0 x1 x2 x3 h = some (v, h') → Run g pVa_fillTo D 50 [(0, va_rf (some a0)), (1, .int x1), (2, .int x2), (3, .int x3)] [] h (rV v) h') : ∀ (n : Nat) (a0 : Nat) (x1 : Int32) (x2 : Int32) (x3 : Int32) (x4 : Int32) (x5 : Int32) (h : PH) (v : Unit) (h' : PH), Va_fillTo_b75 N self_39 self_50 n a0 x1 x2 x3 x4 x5 h = some (v, h') → Run g pVa_fillTo D 75 [(0, va_rf (some a0)), (1, .int x1), (2, .int x2), (3, .int x3), (4, .int x4), (5, .int x5)] [] h (rV v) h' := by
  obtain ⟨D2, rfl⟩ : ∃ d, D = d + 1 := ⟨D - 1, by omega⟩
  intro n
  induction n with
  | zero => exact fun _ _ _ _ _ _ _ _ _ hE => nomatch (show none = some _ from hE)
  | succ n ih =>
    intro a0 x1 x2 x3 x4 x5 h v h' hE
    unfold Va_fillTo_b75 at hE
    refine r_iload rfl rfl ?_
    refine r_aload_n (t := some a0) 0 rfl rfl rfl ?_
    obtain ⟨hk1, hE⟩ := ckE hE
    refine r_getR rfl (fl_9_22 rfl) (Or.inl ⟨_, rfl⟩) rfl hk1 ?_
    obtain ⟨a_2, ha3, hE⟩ := bnE hE
    obtain ⟨hk4, hE⟩ := ckE hE
    refine r_getI rfl (fl_9_77 rfl) (Or.inl rfl) ha3 hk4 ?_
    refine r_icmp_gt (tgt := 157) rfl (by decide) (fun hc5 => ?_) (fun hc5 => ?_)
    · have hE := ifP hc5 hE
      refine r_iinc _ rfl rfl (congrArg _ ci_1) (by decide) ?_
      refine r_goto (tgt := 50) rfl (by decide) ?_
      first | exact r_sb (hself_50 _ _ _ _ _ _ _ hE) ⟨rfl, rfl, rfl, rfl, trivial⟩ | exact r_sb (hself_50 _ _ _ _ _ _ _ hE) (by simp only [su1, su2, dr1_rf, dr1_in, dr1_lo, dr2_rf, dr2_in, dr2_lo]; exact ⟨rfl, rfl, rfl, rfl, trivial⟩)
    · have hE := ifN hc5 hE
      refine r_aload_n (t := some a0) 0 rfl rfl rfl ?_
      refine r_iload_n 2 rfl rfl rfl ?_
      refine r_iload_n 3 rfl rfl rfl ?_
      refine r_iload rfl rfl ?_
      obtain ⟨v6, h7, hq8, hE⟩ := bdE hE
      refine r_callV0 (rest := []) (hc := (Va_weigh_ok g N _ _ _ _ _ _ _ hq8 D2 (by omega))) rfl pm_Va_weigh lw_9_46 im_Va_weigh sl_Va_weigh rfl rfl rfl (rcOK hk1 rfl) (by decide) ?_
      refine r_aload_n (t := some a0) 0 rfl rfl rfl ?_
      obtain ⟨hk9, hE⟩ := ckE hE
      refine r_getR rfl (fl_9_22 rfl) (Or.inl ⟨_, rfl⟩) rfl hk9 ?_
      refine r_iload_n 2 rfl rfl rfl ?_
      refine r_iload_n 3 rfl rfl rfl ?_
      refine r_iload rfl rfl ?_
      refine r_iconst 0 rfl ci_0 ?_
      obtain ⟨a_10, ha11, hE⟩ := bnE hE
      obtain ⟨hk12, hE⟩ := ckE hE
      obtain ⟨v13, h14, hq15, hE⟩ := bdE hE
      refine r_callV1 (rest := []) (hc := (Ho_placeOf_ok g N _ _ _ _ _ _ _ _ hq15 D2 (by omega))) rfl pm_Ho_placeOf lw_9_80 im_Ho_placeOf sl_Ho_placeOf ha11 rfl rfl (rcOK hk12 rfl) (by decide) ?_
      refine r_istore rfl (by decide) ?_
      refine r_aload_n (t := some a0) 0 rfl rfl rfl ?_
      obtain ⟨hk16, hE⟩ := ckE hE
      refine r_getR rfl (fl_9_15 rfl) (Or.inr ⟨_, rfl⟩) rfl hk16 ?_
      refine r_iload rfl rfl ?_
      refine r_iload rfl rfl ?_
      refine r_aload_n (t := some a0) 0 rfl rfl rfl ?_
      refine r_iload_n 2 rfl rfl rfl ?_
      refine r_iconst 0 rfl ci_0 ?_
      obtain ⟨v17, h18, hq19, hE⟩ := bdE hE
      refine r_callV1 (rest := [.int x4, .int v13, va_rf (hR h14 a0 4)]) (hc := (Va_litMean_ok g N _ _ _ _ _ _ hq19 D2 (by omega))) rfl pm_Va_litMean lw_9_50 im_Va_litMean sl_Va_litMean rfl rfl rfl (rcOK hk16 rfl) (by simp only [List.map_cons, List.map_nil, rf_cat, cat_i, cat_l, List.sum_cons, List.sum_nil]; decide) ?_
      refine r_mmax rfl (gt4 209 rfl rfl) mm_max1 mm_2 mm_max3 (by simp only [List.map_cons, List.map_nil, rf_cat, cat_i, cat_l, List.sum_cons, List.sum_nil]; decide) ?_
      obtain ⟨v20, h21, hq22, hE⟩ := bdE hE
      refine r_callSN0 (rest := []) (hc := (Le_put_ok g N _ _ _ _ _ _ hq22 D2 (by omega))) rfl pm_Le_put lw_9_88 st_Le_put rfl rfl (by decide) ?_
      refine r_aload_n (t := some a0) 0 rfl rfl rfl ?_
      obtain ⟨hk23, hE⟩ := ckE hE
      refine r_getR rfl (fl_9_15 rfl) (Or.inr ⟨_, rfl⟩) rfl hk23 ?_
      refine r_iload rfl rfl ?_
      refine r_iconst 1 rfl ci_1 ?_
      refine r_iadd rfl ?_
      refine r_iload rfl rfl ?_
      refine r_aload_n (t := some a0) 0 rfl rfl rfl ?_
      refine r_iload_n 2 rfl rfl rfl ?_
      refine r_iconst 1 rfl ci_1 ?_
      obtain ⟨v24, h25, hq26, hE⟩ := bdE hE
      refine r_callV1 (rest := [.int x4, .int (v13 + 1), va_rf (hR h21 a0 4)]) (hc := (Va_litMean_ok g N _ _ _ _ _ _ hq26 D2 (by omega))) rfl pm_Va_litMean lw_9_50 im_Va_litMean sl_Va_litMean rfl rfl rfl (rcOK hk23 rfl) (by simp only [List.map_cons, List.map_nil, rf_cat, cat_i, cat_l, List.sum_cons, List.sum_nil]; decide) ?_
      refine r_mmax rfl (gt4 209 rfl rfl) mm_max1 mm_2 mm_max3 (by simp only [List.map_cons, List.map_nil, rf_cat, cat_i, cat_l, List.sum_cons, List.sum_nil]; decide) ?_
      obtain ⟨v27, h28, hq29, hE⟩ := bdE hE
      refine r_callSN0 (rest := []) (hc := (Le_put_ok g N _ _ _ _ _ _ hq29 D2 (by omega))) rfl pm_Le_put lw_9_88 st_Le_put rfl rfl (by decide) ?_
      refine r_iinc _ rfl rfl (congrArg _ ci_1) (by decide) ?_
      refine r_goto (tgt := 75) rfl (by decide) ?_
      first | exact r_sb (ih _ _ _ _ _ _ _ _ _ hE) ⟨rfl, rfl, rfl, rfl, rfl, rfl, trivial⟩ | exact r_sb (ih _ _ _ _ _ _ _ _ _ hE) (by simp only [su1, su2, dr1_rf, dr1_in, dr1_lo, dr2_rf, dr2_in, dr2_lo]; exact ⟨rfl, rfl, rfl, rfl, rfl, rfl, trivial⟩)
def Va_fillTo_b50 (N : Nat) (self_39 : Nat → Int32 → Int32 → PH → Option (Unit × PH)) : Nat → Nat → Int32 → Int32 → Int32 → PH → Option (Unit × PH)
  | 0 => fun _ _ _ _ _ => none
  | n + 1 => fun a0 x1 x2 x3 h =>
    ck ((hK h a0).1 = 9) <|
    ((hR h a0 0)).bind fun a_2 =>
    ck ((hK h a_2).1 = 0) <|
    if (hI h a_2 1) < x3 then
      lt0 (wI h a0 5 x2) fun h6 =>
      self_39 a0 x1 (x2 + (-1)) h6
    else
      bd (Ho_offWorth N a_2 x2 x3 h) fun v8 h9 =>
      Va_fillTo_b75 N self_39 (Va_fillTo_b50 N self_39 n) N a0 x1 x2 x3 v8 0 h9
set_option maxRecDepth 20000 in
theorem Va_fillTo_b50_ok (g : GT) (N : Nat) (D : Nat) (hD : 6 ≤ D) (self_39 : Nat → Int32 → Int32 → PH → Option (Unit × PH)) (hself_39 : ∀ (a0 : Nat) (x1 : Int32) (x2 : Int32) (h : PH) (v : Unit) (h' : PH), self_39 a0 x1 x2 h = some (v, h') → Run g pVa_fillTo D 39 [(0, va_rf (some a0)), (1, .int x1), (2, .int x2)] [] h (rV v) h') : ∀ (n : Nat) (a0 : Nat) (x1 : Int32) (x2 : Int32) (x3 : Int32) (h : PH) (v : Unit) (h' : PH), Va_fillTo_b50 N self_39 n a0 x1 x2 x3 h = some (v, h') → Run g pVa_fillTo D 50 [(0, va_rf (some a0)), (1, .int x1), (2, .int x2), (3, .int x3)] [] h (rV v) h' := by
  obtain ⟨D2, rfl⟩ : ∃ d, D = d + 1 := ⟨D - 1, by omega⟩
  intro n
  induction n with
  | zero => exact fun _ _ _ _ _ _ _ hE => nomatch (show none = some _ from hE)
  | succ n ih =>
    intro a0 x1 x2 x3 h v h' hE
    unfold Va_fillTo_b50 at hE
    refine r_iload_n 3 rfl rfl rfl ?_
    refine r_aload_n (t := some a0) 0 rfl rfl rfl ?_
    obtain ⟨hk1, hE⟩ := ckE hE
    refine r_getR rfl (fl_9_22 rfl) (Or.inl ⟨_, rfl⟩) rfl hk1 ?_
    obtain ⟨a_2, ha3, hE⟩ := bnE hE
    obtain ⟨hk4, hE⟩ := ckE hE
    refine r_getI rfl (fl_9_70 rfl) (Or.inl rfl) ha3 hk4 ?_
    refine r_icmp_gt (tgt := 163) rfl (by decide) (fun hc5 => ?_) (fun hc5 => ?_)
    · have hE := ifP hc5 hE
      refine r_aload_n (t := some a0) 0 rfl rfl rfl ?_
      refine r_iload_n 2 rfl rfl rfl ?_
      obtain ⟨h6, he7, hE⟩ := ltE hE
      refine r_putI rfl (fl_9_18 rfl) finF rfl hk1 he7 ?_
      refine r_iinc _ rfl rfl (congrArg _ ci_m1) (by decide) ?_
      refine r_goto (tgt := 39) rfl (by decide) ?_
      first | exact r_sb (hself_39 _ _ _ _ _ _ hE) ⟨rfl, rfl, rfl, trivial⟩ | exact r_sb (hself_39 _ _ _ _ _ _ hE) (by simp only [su1, su2, dr1_rf, dr1_in, dr1_lo, dr2_rf, dr2_in, dr2_lo]; exact ⟨rfl, rfl, rfl, trivial⟩)
    · have hE := ifN hc5 hE
      refine r_aload_n (t := some a0) 0 rfl rfl rfl ?_
      refine r_getR rfl (fl_9_22 rfl) (Or.inl ⟨_, rfl⟩) rfl hk1 ?_
      refine r_iload_n 2 rfl rfl rfl ?_
      refine r_iload_n 3 rfl rfl rfl ?_
      obtain ⟨v8, h9, hq10, hE⟩ := bdE hE
      refine r_callV1 (rest := []) (hc := (Ho_offWorth_ok g N _ _ _ _ _ _ hq10 D2 (by omega))) rfl pm_Ho_offWorth lw_9_73 im_Ho_offWorth sl_Ho_offWorth ha3 rfl rfl (rcOK hk4 rfl) (by decide) ?_
      refine r_istore rfl (by decide) ?_
      refine r_iconst 0 rfl ci_0 ?_
      refine r_istore rfl (by decide) ?_
      first | exact r_sb (Va_fillTo_b75_ok g N _ hD _ hself_39 _ ih N _ _ _ _ _ _ _ _ _ hE) ⟨rfl, rfl, rfl, rfl, rfl, rfl, trivial⟩ | exact r_sb (Va_fillTo_b75_ok g N _ hD _ hself_39 _ ih N _ _ _ _ _ _ _ _ _ hE) (by simp only [su1, su2, dr1_rf, dr1_in, dr1_lo, dr2_rf, dr2_in, dr2_lo]; exact ⟨rfl, rfl, rfl, rfl, rfl, rfl, trivial⟩)
def Va_fillTo_b39 (N : Nat) : Nat → Nat → Int32 → Int32 → PH → Option (Unit × PH)
  | 0 => fun _ _ _ _ => none
  | n + 1 => fun a0 x1 x2 h =>
    if x2 < x1 then
      some ((), h)
    else
      if x2 < 0 then
        some ((), h)
      else
        Va_fillTo_b50 N (Va_fillTo_b39 N n) N a0 x1 x2 0 h
set_option maxRecDepth 20000 in
theorem Va_fillTo_b39_ok (g : GT) (N : Nat) (D : Nat) (hD : 6 ≤ D) : ∀ (n : Nat) (a0 : Nat) (x1 : Int32) (x2 : Int32) (h : PH) (v : Unit) (h' : PH), Va_fillTo_b39 N n a0 x1 x2 h = some (v, h') → Run g pVa_fillTo D 39 [(0, va_rf (some a0)), (1, .int x1), (2, .int x2)] [] h (rV v) h' := by
  obtain ⟨D2, rfl⟩ : ∃ d, D = d + 1 := ⟨D - 1, by omega⟩
  intro n
  induction n with
  | zero => exact fun _ _ _ _ _ _ hE => nomatch (show none = some _ from hE)
  | succ n ih =>
    intro a0 x1 x2 h v h' hE
    unfold Va_fillTo_b39 at hE
    refine r_iload_n 2 rfl rfl rfl ?_
    refine r_iload_n 1 rfl rfl rfl ?_
    refine r_icmp_lt (tgt := 174) rfl (by decide) (fun hc1 => ?_) (fun hc1 => ?_)
    · have hE := ifP hc1 hE
      cases hE
      exact r_ret rfl (Or.inr (Or.inr (Or.inr ⟨rfl, rfl, rfl, rfl⟩)))
    · have hE := ifN hc1 hE
      refine r_iload_n 2 rfl rfl rfl ?_
      refine r_if_lt (tgt := 174) rfl (by decide) (fun hc2 => ?_) (fun hc2 => ?_)
      · have hE := ifP hc2 hE
        cases hE
        exact r_ret rfl (Or.inr (Or.inr (Or.inr ⟨rfl, rfl, rfl, rfl⟩)))
      · have hE := ifN hc2 hE
        refine r_iconst 0 rfl ci_0 ?_
        refine r_istore_n 3 rfl rfl (by decide) ?_
        first | exact r_sb (Va_fillTo_b50_ok g N _ hD _ ih N _ _ _ _ _ _ _ hE) ⟨rfl, rfl, rfl, rfl, trivial⟩ | exact r_sb (Va_fillTo_b50_ok g N _ hD _ ih N _ _ _ _ _ _ _ hE) (by simp only [su1, su2, dr1_rf, dr1_in, dr1_lo, dr2_rf, dr2_in, dr2_lo]; exact ⟨rfl, rfl, rfl, rfl, trivial⟩)
def Va_fillTo_b32 (N : Nat) (a0 : Nat) (x1 : Int32) (h : PH) : Option (Unit × PH) :=
  ck ((hK h a0).1 = 9) <|
  Va_fillTo_b39 N N a0 x1 ((hI h a0 5) - 1) h
set_option maxRecDepth 20000 in
theorem Va_fillTo_b32_ok (g : GT) (N : Nat) (D : Nat) (hD : 6 ≤ D) : ∀ (a0 : Nat) (x1 : Int32) (h : PH) (v : Unit) (h' : PH), Va_fillTo_b32 N a0 x1 h = some (v, h') → Run g pVa_fillTo D 32 [(0, va_rf (some a0)), (1, .int x1)] [] h (rV v) h' := by
  obtain ⟨D2, rfl⟩ : ∃ d, D = d + 1 := ⟨D - 1, by omega⟩
  intro a0 x1 h v h' hE
  unfold Va_fillTo_b32 at hE
  refine r_aload_n (t := some a0) 0 rfl rfl rfl ?_
  obtain ⟨hk1, hE⟩ := ckE hE
  refine r_getI rfl (fl_9_18 rfl) (Or.inl rfl) rfl hk1 ?_
  refine r_iconst 1 rfl ci_1 ?_
  refine r_isub rfl ?_
  refine r_istore_n 2 rfl rfl (by decide) ?_
  first | exact r_sb (Va_fillTo_b39_ok g N _ hD  N _ _ _ _ _ _ hE) ⟨rfl, rfl, rfl, trivial⟩ | exact r_sb (Va_fillTo_b39_ok g N _ hD  N _ _ _ _ _ _ hE) (by simp only [su1, su2, dr1_rf, dr1_in, dr1_lo, dr2_rf, dr2_in, dr2_lo]; exact ⟨rfl, rfl, rfl, trivial⟩)
def Va_fillTo (N : Nat) (a0 : Nat) (x1 : Int32) (h : PH) : Option (Unit × PH) :=
  ck ((hK h a0).1 = 9) <|
  ((hR h a0 0)).bind fun a_2 =>
  ck ((hK h a_2).1 = 0) <|
  if (hI h a0 5) < (hI h a_2 0) then
    Va_fillTo_b32 N  a0 x1 h
  else
    bd (Ho_size N a_2 h) fun v6 h7 =>
    bd (Le_roomFor N (hR h a0 4) v6 h7) fun v9 h10 =>
    ck ((hK h10 a0).1 = 9) <|
    lt0 (wR h10 a0 4 v9) fun h13 =>
    Va_fillTo_b32 N  a0 x1 h13
set_option maxRecDepth 20000 in
theorem Va_fillTo_ok (g : GT) (N : Nat) (a0 : Nat) (x1 : Int32) (h : PH) (v : Unit) (h' : PH) (hE : Va_fillTo N a0 x1 h = some (v, h')) (D : Nat) (hD : 6 ≤ D) : Calls g D pVa_fillTo [va_rf (some a0), .int x1] h (oV v) h' := by
  refine Calls.of cok_Va_fillTo ht_Va_fillTo pl_Va_fillTo (fun ad => by rw [lg_len, sL_cat]; simp only [List.map_cons, List.map_nil, rf_cat, cat_i, cat_l, List.sum_cons, List.sum_nil]; decide) ?_
  rw [show lv_args 0 [va_rf (some a0), .int x1] = [(0, va_rf (some a0)), (1, .int x1)] from (by simp only [lv_args, rf_cat, cat_i, cat_l]; try rfl)]
  obtain ⟨D2, rfl⟩ : ∃ d, D = d + 1 := ⟨D - 1, by omega⟩
  unfold Va_fillTo at hE
  refine r_aload_n (t := some a0) 0 rfl rfl rfl ?_
  obtain ⟨hk1, hE⟩ := ckE hE
  refine r_getI rfl (fl_9_18 rfl) (Or.inl rfl) rfl hk1 ?_
  refine r_aload_n (t := some a0) 0 rfl rfl rfl ?_
  refine r_getR rfl (fl_9_22 rfl) (Or.inl ⟨_, rfl⟩) rfl hk1 ?_
  obtain ⟨a_2, ha3, hE⟩ := bnE hE
  obtain ⟨hk4, hE⟩ := ckE hE
  refine r_getI rfl (fl_9_33 rfl) (Or.inl rfl) ha3 hk4 ?_
  refine r_icmp_lt (tgt := 32) rfl (by decide) (fun hc5 => ?_) (fun hc5 => ?_)
  · have hE := ifP hc5 hE
    first | exact r_sb (Va_fillTo_b32_ok g N _ hD   _ _ _ _ _ hE) ⟨rfl, rfl, trivial⟩ | exact r_sb (Va_fillTo_b32_ok g N _ hD   _ _ _ _ _ hE) (by simp only [su1, su2, dr1_rf, dr1_in, dr1_lo, dr2_rf, dr2_in, dr2_lo]; exact ⟨rfl, rfl, trivial⟩)
  · have hE := ifN hc5 hE
    refine r_aload_n (t := some a0) 0 rfl rfl rfl ?_
    refine r_aload_n (t := some a0) 0 rfl rfl rfl ?_
    refine r_getR rfl (fl_9_15 rfl) (Or.inr ⟨_, rfl⟩) rfl hk1 ?_
    refine r_aload_n (t := some a0) 0 rfl rfl rfl ?_
    refine r_getR rfl (fl_9_22 rfl) (Or.inl ⟨_, rfl⟩) rfl hk1 ?_
    obtain ⟨v6, h7, hq8, hE⟩ := bdE hE
    refine r_callV1 (rest := [va_rf (hR h a0 4), va_rf (some a0)]) (hc := (Ho_size_ok g N _ _ _ _ hq8 D2 (by omega))) rfl pm_Ho_size lw_9_62 im_Ho_size sl_Ho_size ha3 rfl rfl (rcOK hk4 rfl) (by simp only [List.map_cons, List.map_nil, rf_cat, cat_i, cat_l, List.sum_cons, List.sum_nil]; decide) ?_
    obtain ⟨v9, h10, hq11, hE⟩ := bdE hE
    refine r_callSN1 (rest := [va_rf (some a0)]) (hc := (Le_roomFor_ok g N _ _ _ _ _ hq11 D2 (by omega))) rfl pm_Le_roomFor lw_9_66 st_Le_roomFor rfl rfl (by simp only [List.map_cons, List.map_nil, rf_cat, cat_i, cat_l, List.sum_cons, List.sum_nil]; decide) ?_
    obtain ⟨hk12, hE⟩ := ckE hE
    obtain ⟨h13, he14, hE⟩ := ltE hE
    refine r_putR rfl (fl_9_15 rfl) (Or.inr ⟨_, rfl⟩) finF rfl hk12 he14 ?_
    first | exact r_sb (Va_fillTo_b32_ok g N _ hD   _ _ _ _ _ hE) ⟨rfl, rfl, trivial⟩ | exact r_sb (Va_fillTo_b32_ok g N _ hD   _ _ _ _ _ hE) (by simp only [su1, su2, dr1_rf, dr1_in, dr1_lo, dr2_rf, dr2_in, dr2_lo]; exact ⟨rfl, rfl, trivial⟩)
def Va_bestGive_b59 (N : Nat) (self_25 : Nat → Int32 → Int32 → Int32 → Int32 → Int32 → Int32 → Int32 → PH → Option (Int32 × PH)) (a0 : Nat) (x1 : Int32) (x2 : Int32) (x3 : Int32) (x4 : Int32) (x5 : Int32) (x6 : Int32) (x7 : Int32) (h : PH) : Option (Int32 × PH) :=
  self_25 a0 x1 x2 x3 x4 x5 x6 (x7 + 1) h
set_option maxRecDepth 20000 in
theorem Va_bestGive_b59_ok (g : GT) (N : Nat) (D : Nat) (hD : 7 ≤ D) (self_25 : Nat → Int32 → Int32 → Int32 → Int32 → Int32 → Int32 → Int32 → PH → Option (Int32 × PH)) (hself_25 : ∀ (a0 : Nat) (x1 : Int32) (x2 : Int32) (x3 : Int32) (x4 : Int32) (x5 : Int32) (x6 : Int32) (x7 : Int32) (h : PH) (v : Int32) (h' : PH), self_25 a0 x1 x2 x3 x4 x5 x6 x7 h = some (v, h') → Run g pVa_bestGive D 25 [(0, va_rf (some a0)), (1, .int x1), (2, .int x2), (3, .int x3), (4, .int x4), (5, .int x5), (6, .int x6), (7, .int x7)] [] h (rI v) h') : ∀ (a0 : Nat) (x1 : Int32) (x2 : Int32) (x3 : Int32) (x4 : Int32) (x5 : Int32) (x6 : Int32) (x7 : Int32) (h : PH) (v : Int32) (h' : PH), Va_bestGive_b59 N self_25 a0 x1 x2 x3 x4 x5 x6 x7 h = some (v, h') → Run g pVa_bestGive D 59 [(0, va_rf (some a0)), (1, .int x1), (2, .int x2), (3, .int x3), (4, .int x4), (5, .int x5), (6, .int x6), (7, .int x7)] [] h (rI v) h' := by
  obtain ⟨D2, rfl⟩ : ∃ d, D = d + 1 := ⟨D - 1, by omega⟩
  intro a0 x1 x2 x3 x4 x5 x6 x7 h v h' hE
  unfold Va_bestGive_b59 at hE
  refine r_iinc _ rfl rfl (congrArg _ ci_1) (by decide) ?_
  refine r_goto (tgt := 25) rfl (by decide) ?_
  first | exact r_sb (hself_25 _ _ _ _ _ _ _ _ _ _ _ hE) ⟨rfl, rfl, rfl, rfl, rfl, rfl, rfl, rfl, trivial⟩ | exact r_sb (hself_25 _ _ _ _ _ _ _ _ _ _ _ hE) (by simp only [su1, su2, dr1_rf, dr1_in, dr1_lo, dr2_rf, dr2_in, dr2_lo]; exact ⟨rfl, rfl, rfl, rfl, rfl, rfl, rfl, rfl, trivial⟩)
def Va_bestGive_b25 (N : Nat) : Nat → Nat → Int32 → Int32 → Int32 → Int32 → Int32 → Int32 → Int32 → PH → Option (Int32 × PH)
  | 0 => fun _ _ _ _ _ _ _ _ _ => none
  | n + 1 => fun a0 x1 x2 x3 x4 x5 x6 x7 h =>
    if 4 < x7 then
      some (x5, h)
    else
      ck ((hK h a0).1 = 9) <|
      bd (Va_giveWorth N a0 x1 x2 x3 x4 x7 h) fun v3 h4 =>
      if v3 ≤ x6 then
        Va_bestGive_b59 N (Va_bestGive_b25 N n)  a0 x1 x2 x3 x4 x5 x6 x7 h4
      else
        Va_bestGive_b59 N (Va_bestGive_b25 N n)  a0 x1 x2 x3 x4 x7 v3 x7 h4
set_option maxRecDepth 20000 in
theorem Va_bestGive_b25_ok (g : GT) (N : Nat) (D : Nat) (hD : 7 ≤ D) : ∀ (n : Nat) (a0 : Nat) (x1 : Int32) (x2 : Int32) (x3 : Int32) (x4 : Int32) (x5 : Int32) (x6 : Int32) (x7 : Int32) (h : PH) (v : Int32) (h' : PH), Va_bestGive_b25 N n a0 x1 x2 x3 x4 x5 x6 x7 h = some (v, h') → Run g pVa_bestGive D 25 [(0, va_rf (some a0)), (1, .int x1), (2, .int x2), (3, .int x3), (4, .int x4), (5, .int x5), (6, .int x6), (7, .int x7)] [] h (rI v) h' := by
  obtain ⟨D2, rfl⟩ : ∃ d, D = d + 1 := ⟨D - 1, by omega⟩
  intro n
  induction n with
  | zero => exact fun _ _ _ _ _ _ _ _ _ _ _ hE => nomatch (show none = some _ from hE)
  | succ n ih =>
    intro a0 x1 x2 x3 x4 x5 x6 x7 h v h' hE
    unfold Va_bestGive_b25 at hE
    refine r_iload rfl rfl ?_
    refine r_iconst 4 rfl ci_4 ?_
    refine r_icmp_gt (tgt := 65) rfl (by decide) (fun hc1 => ?_) (fun hc1 => ?_)
    · have hE := ifP hc1 hE
      refine r_iload rfl rfl ?_
      cases hE
      exact r_ret rfl (Or.inl ⟨rfl, _, _, rfl, rfl, rfl, rfl⟩)
    · have hE := ifN hc1 hE
      refine r_aload_n (t := some a0) 0 rfl rfl rfl ?_
      refine r_iload_n 1 rfl rfl rfl ?_
      refine r_iload_n 2 rfl rfl rfl ?_
      refine r_iload_n 3 rfl rfl rfl ?_
      refine r_iload rfl rfl ?_
      refine r_iload rfl rfl ?_
      obtain ⟨hk2, hE⟩ := ckE hE
      obtain ⟨v3, h4, hq5, hE⟩ := bdE hE
      refine r_callV1 (rest := []) (hc := (Va_giveWorth_ok g N _ _ _ _ _ _ _ _ _ hq5 D2 (by omega))) rfl pm_Va_giveWorth lw_9_58 im_Va_giveWorth sl_Va_giveWorth rfl rfl rfl (rcOK hk2 rfl) (by decide) ?_
      refine r_istore rfl (by decide) ?_
      refine r_iload rfl rfl ?_
      refine r_iload rfl rfl ?_
      refine r_icmp_le (tgt := 59) rfl (by decide) (fun hc6 => ?_) (fun hc6 => ?_)
      · have hE := ifP hc6 hE
        first | exact r_sb (Va_bestGive_b59_ok g N _ hD _ ih  _ _ _ _ _ _ _ _ _ _ _ hE) ⟨rfl, rfl, rfl, rfl, rfl, rfl, rfl, rfl, trivial⟩ | exact r_sb (Va_bestGive_b59_ok g N _ hD _ ih  _ _ _ _ _ _ _ _ _ _ _ hE) (by simp only [su1, su2, dr1_rf, dr1_in, dr1_lo, dr2_rf, dr2_in, dr2_lo]; exact ⟨rfl, rfl, rfl, rfl, rfl, rfl, rfl, rfl, trivial⟩)
      · have hE := ifN hc6 hE
        refine r_iload rfl rfl ?_
        refine r_istore rfl (by decide) ?_
        refine r_iload rfl rfl ?_
        refine r_istore rfl (by decide) ?_
        first | exact r_sb (Va_bestGive_b59_ok g N _ hD _ ih  _ _ _ _ _ _ _ _ _ _ _ hE) ⟨rfl, rfl, rfl, rfl, rfl, rfl, rfl, rfl, trivial⟩ | exact r_sb (Va_bestGive_b59_ok g N _ hD _ ih  _ _ _ _ _ _ _ _ _ _ _ hE) (by simp only [su1, su2, dr1_rf, dr1_in, dr1_lo, dr2_rf, dr2_in, dr2_lo]; exact ⟨rfl, rfl, rfl, rfl, rfl, rfl, rfl, rfl, trivial⟩)
def Va_bestGive (N : Nat) (a0 : Nat) (x1 : Int32) (x2 : Int32) (x3 : Int32) (x4 : Int32) (h : PH) : Option (Int32 × PH) :=
  ck ((hK h a0).1 = 9) <|
  bd (Va_fillTo N a0 (x1 + 1) h) fun v2 h3 =>
  ck ((hK h3 a0).1 = 9) <|
  bd (Va_giveWorth N a0 x1 x2 x3 x4 0 h3) fun v6 h7 =>
  Va_bestGive_b25 N N a0 x1 x2 x3 x4 0 v6 1 h7
set_option maxRecDepth 20000 in
theorem Va_bestGive_ok (g : GT) (N : Nat) (a0 : Nat) (x1 : Int32) (x2 : Int32) (x3 : Int32) (x4 : Int32) (h : PH) (v : Int32) (h' : PH) (hE : Va_bestGive N a0 x1 x2 x3 x4 h = some (v, h')) (D : Nat) (hD : 7 ≤ D) : Calls g D pVa_bestGive [va_rf (some a0), .int x1, .int x2, .int x3, .int x4] h (oI v) h' := by
  refine Calls.of cok_Va_bestGive ht_Va_bestGive pl_Va_bestGive (fun ad => by rw [lg_len, sL_cat]; simp only [List.map_cons, List.map_nil, rf_cat, cat_i, cat_l, List.sum_cons, List.sum_nil]; decide) ?_
  rw [show lv_args 0 [va_rf (some a0), .int x1, .int x2, .int x3, .int x4] = [(0, va_rf (some a0)), (1, .int x1), (2, .int x2), (3, .int x3), (4, .int x4)] from (by simp only [lv_args, rf_cat, cat_i, cat_l]; try rfl)]
  obtain ⟨D2, rfl⟩ : ∃ d, D = d + 1 := ⟨D - 1, by omega⟩
  unfold Va_bestGive at hE
  refine r_aload_n (t := some a0) 0 rfl rfl rfl ?_
  refine r_iload_n 1 rfl rfl rfl ?_
  refine r_iconst 1 rfl ci_1 ?_
  refine r_iadd rfl ?_
  obtain ⟨hk1, hE⟩ := ckE hE
  obtain ⟨v2, h3, hq4, hE⟩ := bdE hE
  refine r_callV0 (rest := []) (hc := (Va_fillTo_ok g N _ _ _ _ _ hq4 D2 (by omega))) rfl pm_Va_fillTo lw_9_38 im_Va_fillTo sl_Va_fillTo rfl rfl rfl (rcOK hk1 rfl) (by decide) ?_
  refine r_iconst 0 rfl ci_0 ?_
  refine r_istore rfl (by decide) ?_
  refine r_aload_n (t := some a0) 0 rfl rfl rfl ?_
  refine r_iload_n 1 rfl rfl rfl ?_
  refine r_iload_n 2 rfl rfl rfl ?_
  refine r_iload_n 3 rfl rfl rfl ?_
  refine r_iload rfl rfl ?_
  refine r_iconst 0 rfl ci_0 ?_
  obtain ⟨hk5, hE⟩ := ckE hE
  obtain ⟨v6, h7, hq8, hE⟩ := bdE hE
  refine r_callV1 (rest := []) (hc := (Va_giveWorth_ok g N _ _ _ _ _ _ _ _ _ hq8 D2 (by omega))) rfl pm_Va_giveWorth lw_9_58 im_Va_giveWorth sl_Va_giveWorth rfl rfl rfl (rcOK hk5 rfl) (by decide) ?_
  refine r_istore rfl (by decide) ?_
  refine r_iconst 1 rfl ci_1 ?_
  refine r_istore rfl (by decide) ?_
  first | exact r_sb (Va_bestGive_b25_ok g N _ hD  N _ _ _ _ _ _ _ _ _ _ _ hE) ⟨rfl, rfl, rfl, rfl, rfl, rfl, rfl, rfl, trivial⟩ | exact r_sb (Va_bestGive_b25_ok g N _ hD  N _ _ _ _ _ _ _ _ _ _ _ hE) (by simp only [su1, su2, dr1_rf, dr1_in, dr1_lo, dr2_rf, dr2_in, dr2_lo]; exact ⟨rfl, rfl, rfl, rfl, rfl, rfl, rfl, rfl, trivial⟩)
def Va_litWorth (N : Nat) (a0 : Nat) (x1 : Int32) (x2 : Int32) (x3 : Int32) (x4 : Int32) (h : PH) : Option (Int32 × PH) :=
  ck ((hK h a0).1 = 9) <|
  bd (Va_fillTo N a0 (x1 + 1) h) fun v2 h3 =>
  ck ((hK h3 a0).1 = 9) <|
  bd (Va_weigh N a0 x1 x2 x3 h3) fun v6 h7 =>
  ck ((hK h7 a0).1 = 9) <|
  bd (Va_litMean N a0 x1 x4 h7) fun v10 h11 =>
  some (v10, h11)
set_option maxRecDepth 20000 in
theorem Va_litWorth_ok (g : GT) (N : Nat) (a0 : Nat) (x1 : Int32) (x2 : Int32) (x3 : Int32) (x4 : Int32) (h : PH) (v : Int32) (h' : PH) (hE : Va_litWorth N a0 x1 x2 x3 x4 h = some (v, h')) (D : Nat) (hD : 7 ≤ D) : Calls g D pVa_litWorth [va_rf (some a0), .int x1, .int x2, .int x3, .int x4] h (oI v) h' := by
  refine Calls.of cok_Va_litWorth ht_Va_litWorth pl_Va_litWorth (fun ad => by rw [lg_len, sL_cat]; simp only [List.map_cons, List.map_nil, rf_cat, cat_i, cat_l, List.sum_cons, List.sum_nil]; decide) ?_
  rw [show lv_args 0 [va_rf (some a0), .int x1, .int x2, .int x3, .int x4] = [(0, va_rf (some a0)), (1, .int x1), (2, .int x2), (3, .int x3), (4, .int x4)] from (by simp only [lv_args, rf_cat, cat_i, cat_l]; try rfl)]
  obtain ⟨D2, rfl⟩ : ∃ d, D = d + 1 := ⟨D - 1, by omega⟩
  unfold Va_litWorth at hE
  refine r_aload_n (t := some a0) 0 rfl rfl rfl ?_
  refine r_iload_n 1 rfl rfl rfl ?_
  refine r_iconst 1 rfl ci_1 ?_
  refine r_iadd rfl ?_
  obtain ⟨hk1, hE⟩ := ckE hE
  obtain ⟨v2, h3, hq4, hE⟩ := bdE hE
  refine r_callV0 (rest := []) (hc := (Va_fillTo_ok g N _ _ _ _ _ hq4 D2 (by omega))) rfl pm_Va_fillTo lw_9_38 im_Va_fillTo sl_Va_fillTo rfl rfl rfl (rcOK hk1 rfl) (by decide) ?_
  refine r_aload_n (t := some a0) 0 rfl rfl rfl ?_
  refine r_iload_n 1 rfl rfl rfl ?_
  refine r_iload_n 2 rfl rfl rfl ?_
  refine r_iload_n 3 rfl rfl rfl ?_
  obtain ⟨hk5, hE⟩ := ckE hE
  obtain ⟨v6, h7, hq8, hE⟩ := bdE hE
  refine r_callV0 (rest := []) (hc := (Va_weigh_ok g N _ _ _ _ _ _ _ hq8 D2 (by omega))) rfl pm_Va_weigh lw_9_46 im_Va_weigh sl_Va_weigh rfl rfl rfl (rcOK hk5 rfl) (by decide) ?_
  refine r_aload_n (t := some a0) 0 rfl rfl rfl ?_
  refine r_iload_n 1 rfl rfl rfl ?_
  refine r_iload rfl rfl ?_
  obtain ⟨hk9, hE⟩ := ckE hE
  obtain ⟨v10, h11, hq12, hE⟩ := bdE hE
  refine r_callV1 (rest := []) (hc := (Va_litMean_ok g N _ _ _ _ _ _ hq12 D2 (by omega))) rfl pm_Va_litMean lw_9_50 im_Va_litMean sl_Va_litMean rfl rfl rfl (rcOK hk9 rfl) (by decide) ?_
  cases hE
  exact r_ret rfl (Or.inl ⟨rfl, _, _, rfl, rfl, rfl, rfl⟩)
def Me_fact (N : Nat) (a0 : Nat) (x1 : Int32) (x2 : Int32) (x3 : Int32) (x4 : Int32) (x5 : Int32) (h : PH) : Option (Int32 × PH) :=
  if (Int32.toInt (22 - x1) < 23 ∨ 26 < Int32.toInt (22 - x1)) then
    some (x5, h)
  else if (22 - x1) = 23 then
    some (x3, h)
  else if (22 - x1) = 24 then
    some (x4, h)
  else if (22 - x1) = 25 then
    some (x2, h)
  else if (22 - x1) = 26 then
    ck ((hK h a0).1 = 2) <|
    ((hR h a0 0)).bind fun a_7 =>
    ck ((hK h a_7).1 = 0) <|
    some (((hI h a_7 0) - x2), h)
  else none
set_option maxRecDepth 20000 in
theorem Me_fact_ok (g : GT) (N : Nat) (a0 : Nat) (x1 : Int32) (x2 : Int32) (x3 : Int32) (x4 : Int32) (x5 : Int32) (h : PH) (v : Int32) (h' : PH) (hE : Me_fact N a0 x1 x2 x3 x4 x5 h = some (v, h')) (D : Nat) (hD : 0 ≤ D) : Calls g D pMe_fact [va_rf (some a0), .int x1, .int x2, .int x3, .int x4, .int x5] h (oI v) h' := by
  refine Calls.of cok_Me_fact ht_Me_fact pl_Me_fact (fun ad => by rw [lg_len, sL_cat]; simp only [List.map_cons, List.map_nil, rf_cat, cat_i, cat_l, List.sum_cons, List.sum_nil]; decide) ?_
  rw [show lv_args 0 [va_rf (some a0), .int x1, .int x2, .int x3, .int x4, .int x5] = [(0, va_rf (some a0)), (1, .int x1), (2, .int x2), (3, .int x3), (4, .int x4), (5, .int x5)] from (by simp only [lv_args, rf_cat, cat_i, cat_l]; try rfl)]
  unfold Me_fact at hE
  refine r_bipush 22 rfl cb_22 ?_
  refine r_iload_n 1 rfl rfl rfl ?_
  refine r_isub rfl ?_
  rcases Decidable.em (Int32.toInt (22 - x1) < 23 ∨ 26 < Int32.toInt (22 - x1)) with hc1 | hc1
  · have hE := ifP hc1 hE
    refine r_tabOut (tgt := 53) rfl hc1 (by decide) ?_
    refine r_iload rfl rfl ?_
    cases hE
    exact r_ret rfl (Or.inl ⟨rfl, _, _, rfl, rfl, rfl, rfl⟩)
  · have hE := ifN hc1 hE
    rcases Decidable.em ((22 - x1) = 23) with hx2 | hx2
    · have hE := ifP hx2 hE
      refine r_tabIn (tgt := 36) 0 rfl hc1 (by rw [hx2]; decide +kernel) rfl (by decide) ?_
      refine r_iload_n 3 rfl rfl rfl ?_
      cases hE
      exact r_ret rfl (Or.inl ⟨rfl, _, _, rfl, rfl, rfl, rfl⟩)
    have hE := ifN hx2 hE
    rcases Decidable.em ((22 - x1) = 24) with hx3 | hx3
    · have hE := ifP hx3 hE
      refine r_tabIn (tgt := 38) 1 rfl hc1 (by rw [hx3]; decide +kernel) rfl (by decide) ?_
      refine r_iload rfl rfl ?_
      cases hE
      exact r_ret rfl (Or.inl ⟨rfl, _, _, rfl, rfl, rfl, rfl⟩)
    have hE := ifN hx3 hE
    rcases Decidable.em ((22 - x1) = 25) with hx4 | hx4
    · have hE := ifP hx4 hE
      refine r_tabIn (tgt := 41) 2 rfl hc1 (by rw [hx4]; decide +kernel) rfl (by decide) ?_
      refine r_iload_n 2 rfl rfl rfl ?_
      cases hE
      exact r_ret rfl (Or.inl ⟨rfl, _, _, rfl, rfl, rfl, rfl⟩)
    have hE := ifN hx4 hE
    rcases Decidable.em ((22 - x1) = 26) with hx5 | hx5
    · have hE := ifP hx5 hE
      refine r_tabIn (tgt := 43) 3 rfl hc1 (by rw [hx5]; decide +kernel) rfl (by decide) ?_
      refine r_aload_n (t := some a0) 0 rfl rfl rfl ?_
      obtain ⟨hk6, hE⟩ := ckE hE
      refine r_getR rfl (fl_2_35 rfl) (Or.inl ⟨_, rfl⟩) rfl hk6 ?_
      obtain ⟨a_7, ha8, hE⟩ := bnE hE
      obtain ⟨hk9, hE⟩ := ckE hE
      refine r_getI rfl (fl_2_43 rfl) (Or.inl rfl) ha8 hk9 ?_
      refine r_iload_n 2 rfl rfl rfl ?_
      refine r_isub rfl ?_
      cases hE
      exact r_ret rfl (Or.inl ⟨rfl, _, _, rfl, rfl, rfl, rfl⟩)
    have hE := ifN hx5 hE
    exact nomatch hE
def Me_joined (N : Nat) (x0 : Int32) (x1 : Int32) (x2 : Int32) (h : PH) : Option (Int32 × PH) :=
  if (Int32.toInt x0 < -12 ∨ -7 < Int32.toInt x0) then
    some ((x1 * x2), h)
  else if x0 = (-12) then
    some ((x1 - x2), h)
  else if x0 = (-11) then
    some ((x1 + x2), h)
  else if x0 = (-10) then
    if x1 = x2 then
      some (1, h)
    else
      some (0, h)
  else if x0 = (-9) then
    if x2 ≤ x1 then
      some (0, h)
    else
      some (1, h)
  else if x0 = (-8) then
    if x1 = 0 then
      if x2 = 0 then
        some (0, h)
      else
        some (1, h)
    else
      some (1, h)
  else if x0 = (-7) then
    if x1 = 0 then
      some (0, h)
    else
      if x2 = 0 then
        some (0, h)
      else
        some (1, h)
  else none
set_option maxRecDepth 20000 in
theorem Me_joined_ok (g : GT) (N : Nat) (x0 : Int32) (x1 : Int32) (x2 : Int32) (h : PH) (v : Int32) (h' : PH) (hE : Me_joined N x0 x1 x2 h = some (v, h')) (D : Nat) (hD : 0 ≤ D) : Calls g D pMe_joined [.int x0, .int x1, .int x2] h (oI v) h' := by
  refine Calls.of cok_Me_joined ht_Me_joined pl_Me_joined (fun ad => by rw [lg_len, sL_cat]; simp only [List.map_cons, List.map_nil, rf_cat, cat_i, cat_l, List.sum_cons, List.sum_nil]; decide) ?_
  rw [show lv_args 0 [.int x0, .int x1, .int x2] = [(0, .int x0), (1, .int x1), (2, .int x2)] from (by simp only [lv_args, rf_cat, cat_i, cat_l]; try rfl)]
  unfold Me_joined at hE
  refine r_iload_n 0 rfl rfl rfl ?_
  rcases Decidable.em (Int32.toInt x0 < -12 ∨ -7 < Int32.toInt x0) with hc1 | hc1
  · have hE := ifP hc1 hE
    refine r_tabOut (tgt := 98) rfl hc1 (by decide) ?_
    refine r_iload_n 1 rfl rfl rfl ?_
    refine r_iload_n 2 rfl rfl rfl ?_
    refine r_imul rfl ?_
    cases hE
    exact r_ret rfl (Or.inl ⟨rfl, _, _, rfl, rfl, rfl, rfl⟩)
  · have hE := ifN hc1 hE
    rcases Decidable.em (x0 = (-12)) with hx2 | hx2
    · have hE := ifP hx2 hE
      refine r_tabIn (tgt := 94) 0 rfl hc1 (by rw [hx2]; decide +kernel) rfl (by decide) ?_
      refine r_iload_n 1 rfl rfl rfl ?_
      refine r_iload_n 2 rfl rfl rfl ?_
      refine r_isub rfl ?_
      cases hE
      exact r_ret rfl (Or.inl ⟨rfl, _, _, rfl, rfl, rfl, rfl⟩)
    have hE := ifN hx2 hE
    rcases Decidable.em (x0 = (-11)) with hx3 | hx3
    · have hE := ifP hx3 hE
      refine r_tabIn (tgt := 90) 1 rfl hc1 (by rw [hx3]; decide +kernel) rfl (by decide) ?_
      refine r_iload_n 1 rfl rfl rfl ?_
      refine r_iload_n 2 rfl rfl rfl ?_
      refine r_iadd rfl ?_
      cases hE
      exact r_ret rfl (Or.inl ⟨rfl, _, _, rfl, rfl, rfl, rfl⟩)
    have hE := ifN hx3 hE
    rcases Decidable.em (x0 = (-10)) with hx4 | hx4
    · have hE := ifP hx4 hE
      refine r_tabIn (tgt := 79) 2 rfl hc1 (by rw [hx4]; decide +kernel) rfl (by decide) ?_
      refine r_iload_n 1 rfl rfl rfl ?_
      refine r_iload_n 2 rfl rfl rfl ?_
      refine r_icmp_ne (tgt := 88) rfl (by decide) (fun hc5 => ?_) (fun hc5 => ?_)
      · have hE := ifP hc5 hE
        refine r_iconst 1 rfl ci_1 ?_
        refine r_goto (tgt := 89) rfl (by decide) ?_
        cases hE
        exact r_ret rfl (Or.inl ⟨rfl, _, _, rfl, rfl, rfl, rfl⟩)
      · have hE := ifN hc5 hE
        refine r_iconst 0 rfl ci_0 ?_
        cases hE
        exact r_ret rfl (Or.inl ⟨rfl, _, _, rfl, rfl, rfl, rfl⟩)
    have hE := ifN hx4 hE
    rcases Decidable.em (x0 = (-9)) with hx6 | hx6
    · have hE := ifP hx6 hE
      refine r_tabIn (tgt := 68) 3 rfl hc1 (by rw [hx6]; decide +kernel) rfl (by decide) ?_
      refine r_iload_n 1 rfl rfl rfl ?_
      refine r_iload_n 2 rfl rfl rfl ?_
      refine r_icmp_ge (tgt := 77) rfl (by decide) (fun hc7 => ?_) (fun hc7 => ?_)
      · have hE := ifP hc7 hE
        refine r_iconst 0 rfl ci_0 ?_
        cases hE
        exact r_ret rfl (Or.inl ⟨rfl, _, _, rfl, rfl, rfl, rfl⟩)
      · have hE := ifN hc7 hE
        refine r_iconst 1 rfl ci_1 ?_
        refine r_goto (tgt := 78) rfl (by decide) ?_
        cases hE
        exact r_ret rfl (Or.inl ⟨rfl, _, _, rfl, rfl, rfl, rfl⟩)
    have hE := ifN hx6 hE
    rcases Decidable.em (x0 = (-8)) with hx8 | hx8
    · have hE := ifP hx8 hE
      refine r_tabIn (tgt := 54) 4 rfl hc1 (by rw [hx8]; decide +kernel) rfl (by decide) ?_
      refine r_iload_n 1 rfl rfl rfl ?_
      refine r_if_ne (tgt := 62) rfl (by decide) (fun hc9 => ?_) (fun hc9 => ?_)
      · have hE := ifP hc9 hE
        refine r_iload_n 2 rfl rfl rfl ?_
        refine r_if_eq (tgt := 66) rfl (by decide) (fun hc10 => ?_) (fun hc10 => ?_)
        · have hE := ifP hc10 hE
          refine r_iconst 0 rfl ci_0 ?_
          cases hE
          exact r_ret rfl (Or.inl ⟨rfl, _, _, rfl, rfl, rfl, rfl⟩)
        · have hE := ifN hc10 hE
          refine r_iconst 1 rfl ci_1 ?_
          refine r_goto (tgt := 67) rfl (by decide) ?_
          cases hE
          exact r_ret rfl (Or.inl ⟨rfl, _, _, rfl, rfl, rfl, rfl⟩)
      · have hE := ifN hc9 hE
        refine r_iconst 1 rfl ci_1 ?_
        refine r_goto (tgt := 67) rfl (by decide) ?_
        cases hE
        exact r_ret rfl (Or.inl ⟨rfl, _, _, rfl, rfl, rfl, rfl⟩)
    have hE := ifN hx8 hE
    rcases Decidable.em (x0 = (-7)) with hx11 | hx11
    · have hE := ifP hx11 hE
      refine r_tabIn (tgt := 40) 5 rfl hc1 (by rw [hx11]; decide +kernel) rfl (by decide) ?_
      refine r_iload_n 1 rfl rfl rfl ?_
      refine r_if_eq (tgt := 52) rfl (by decide) (fun hc12 => ?_) (fun hc12 => ?_)
      · have hE := ifP hc12 hE
        refine r_iconst 0 rfl ci_0 ?_
        cases hE
        exact r_ret rfl (Or.inl ⟨rfl, _, _, rfl, rfl, rfl, rfl⟩)
      · have hE := ifN hc12 hE
        refine r_iload_n 2 rfl rfl rfl ?_
        refine r_if_eq (tgt := 52) rfl (by decide) (fun hc13 => ?_) (fun hc13 => ?_)
        · have hE := ifP hc13 hE
          refine r_iconst 0 rfl ci_0 ?_
          cases hE
          exact r_ret rfl (Or.inl ⟨rfl, _, _, rfl, rfl, rfl, rfl⟩)
        · have hE := ifN hc13 hE
          refine r_iconst 1 rfl ci_1 ?_
          refine r_goto (tgt := 53) rfl (by decide) ?_
          cases hE
          exact r_ret rfl (Or.inl ⟨rfl, _, _, rfl, rfl, rfl, rfl⟩)
    have hE := ifN hx11 hE
    exact nomatch hE
def Me_giveOf_b203 (N : Nat) (self_47 : Nat → Int32 → Int32 → Int32 → Int32 → Int32 → Int32 → Int32 → PH → Option (Int32 × PH)) (a0 : Nat) (x2 : Int32) (x3 : Int32) (x4 : Int32) (x5 : Int32) (x6 : Int32) (x7 : Int32) (x8 : Int32) (h : PH) : Option (Int32 × PH) :=
  self_47 a0 x2 x3 x4 x5 x6 x7 (x8 + 1) h
set_option maxRecDepth 20000 in
theorem Me_giveOf_b203_ok (g : GT) (N : Nat) (D : Nat) (hD : 1 ≤ D) (self_47 : Nat → Int32 → Int32 → Int32 → Int32 → Int32 → Int32 → Int32 → PH → Option (Int32 × PH)) (hself_47 : ∀ (a0 : Nat) (x2 : Int32) (x3 : Int32) (x4 : Int32) (x5 : Int32) (x6 : Int32) (x7 : Int32) (x8 : Int32) (h : PH) (v : Int32) (h' : PH), self_47 a0 x2 x3 x4 x5 x6 x7 x8 h = some (v, h') → Run g pMe_giveOf D 47 [(0, va_rf (some a0)), (2, .int x2), (3, .int x3), (4, .int x4), (5, .int x5), (6, .int x6), (7, .int x7), (8, .int x8)] [] h (rI v) h') : ∀ (a0 : Nat) (x2 : Int32) (x3 : Int32) (x4 : Int32) (x5 : Int32) (x6 : Int32) (x7 : Int32) (x8 : Int32) (h : PH) (v : Int32) (h' : PH), Me_giveOf_b203 N self_47 a0 x2 x3 x4 x5 x6 x7 x8 h = some (v, h') → Run g pMe_giveOf D 203 [(0, va_rf (some a0)), (2, .int x2), (3, .int x3), (4, .int x4), (5, .int x5), (6, .int x6), (7, .int x7), (8, .int x8)] [] h (rI v) h' := by
  obtain ⟨D2, rfl⟩ : ∃ d, D = d + 1 := ⟨D - 1, by omega⟩
  intro a0 x2 x3 x4 x5 x6 x7 x8 h v h' hE
  unfold Me_giveOf_b203 at hE
  refine r_iinc _ rfl rfl (congrArg _ ci_1) (by decide) ?_
  refine r_goto (tgt := 47) rfl (by decide) ?_
  first | exact r_sb (hself_47 _ _ _ _ _ _ _ _ _ _ _ hE) ⟨rfl, rfl, rfl, rfl, rfl, rfl, rfl, rfl, trivial⟩ | exact r_sb (hself_47 _ _ _ _ _ _ _ _ _ _ _ hE) (by simp only [su1, su2, dr1_rf, dr1_in, dr1_lo, dr2_rf, dr2_in, dr2_lo]; exact ⟨rfl, rfl, rfl, rfl, rfl, rfl, rfl, rfl, trivial⟩)
def Me_giveOf_b158 (N : Nat) (self_47 : Nat → Int32 → Int32 → Int32 → Int32 → Int32 → Int32 → Int32 → PH → Option (Int32 × PH)) (s0 : Option Nat) (s1 : Int32) (s2 : Int32) (a0 : Nat) (x2 : Int32) (x3 : Int32) (x4 : Int32) (x5 : Int32) (x6 : Int32) (x7 : Int32) (x8 : Int32) (h : PH) : Option (Int32 × PH) :=
  bd (Le_put N s0 s1 s2 h) fun v1 h2 =>
  Me_giveOf_b203 N self_47  a0 x2 x3 x4 x5 x6 x7 x8 h2
set_option maxRecDepth 20000 in
theorem Me_giveOf_b158_ok (g : GT) (N : Nat) (D : Nat) (hD : 1 ≤ D) (self_47 : Nat → Int32 → Int32 → Int32 → Int32 → Int32 → Int32 → Int32 → PH → Option (Int32 × PH)) (hself_47 : ∀ (a0 : Nat) (x2 : Int32) (x3 : Int32) (x4 : Int32) (x5 : Int32) (x6 : Int32) (x7 : Int32) (x8 : Int32) (h : PH) (v : Int32) (h' : PH), self_47 a0 x2 x3 x4 x5 x6 x7 x8 h = some (v, h') → Run g pMe_giveOf D 47 [(0, va_rf (some a0)), (2, .int x2), (3, .int x3), (4, .int x4), (5, .int x5), (6, .int x6), (7, .int x7), (8, .int x8)] [] h (rI v) h') : ∀ (s0 : Option Nat) (s1 : Int32) (s2 : Int32) (a0 : Nat) (x2 : Int32) (x3 : Int32) (x4 : Int32) (x5 : Int32) (x6 : Int32) (x7 : Int32) (x8 : Int32) (h : PH) (v : Int32) (h' : PH), Me_giveOf_b158 N self_47 s0 s1 s2 a0 x2 x3 x4 x5 x6 x7 x8 h = some (v, h') → Run g pMe_giveOf D 158 [(0, va_rf (some a0)), (2, .int x2), (3, .int x3), (4, .int x4), (5, .int x5), (6, .int x6), (7, .int x7), (8, .int x8)] [.int s2, .int s1, va_rf s0] h (rI v) h' := by
  obtain ⟨D2, rfl⟩ : ∃ d, D = d + 1 := ⟨D - 1, by omega⟩
  intro s0 s1 s2 a0 x2 x3 x4 x5 x6 x7 x8 h v h' hE
  unfold Me_giveOf_b158 at hE
  obtain ⟨v1, h2, hq3, hE⟩ := bdE hE
  refine r_callSN0 (rest := []) (hc := (Le_put_ok g N _ _ _ _ _ _ hq3 D2 (by omega))) rfl pm_Le_put lw_2_58 st_Le_put rfl rfl (by decide) ?_
  refine r_goto (tgt := 203) rfl (by decide) ?_
  first | exact r_sb (Me_giveOf_b203_ok g N _ hD _ hself_47  _ _ _ _ _ _ _ _ _ _ _ hE) ⟨rfl, rfl, rfl, rfl, rfl, rfl, rfl, rfl, trivial⟩ | exact r_sb (Me_giveOf_b203_ok g N _ hD _ hself_47  _ _ _ _ _ _ _ _ _ _ _ hE) (by simp only [su1, su2, dr1_rf, dr1_in, dr1_lo, dr2_rf, dr2_in, dr2_lo]; exact ⟨rfl, rfl, rfl, rfl, rfl, rfl, rfl, rfl, trivial⟩)
def Me_giveOf_b47 (N : Nat) : Nat → Nat → Int32 → Int32 → Int32 → Int32 → Int32 → Int32 → Int32 → PH → Option (Int32 × PH)
  | 0 => fun _ _ _ _ _ _ _ _ _ => none
  | n + 1 => fun a0 x2 x3 x4 x5 x6 x7 x8 h =>
    if x7 ≤ x8 then
      ck ((hK h a0).1 = 2) <|
      bd (Le_at N (hR h a0 1) 0 h) fun v3 h4 =>
      some ((mxI 0 (mnI 4 v3)), h4)
    else
      ck ((hK h a0).1 = 2) <|
      ((hR h a0 0)).bind fun a_7 =>
      ck ((hK h a_7).1 = 0) <|
      bd (Le_at N (hR h a_7 17) x8 h) fun v10 h11 =>
      if v10 < 0 then
        if v10 ≤ (-6) then
          if v10 = (-6) then
            ck ((hK h11 a0).1 = 2) <|
            bd (Le_at N (hR h11 a0 1) (x6 - 1) h11) fun v17 h18 =>
            if v17 = 0 then
              Me_giveOf_b158 N (Me_giveOf_b47 N n)  (hR h11 a0 1) (x6 - 1) 1 a0 x2 x3 x4 x5 x6 x7 x8 h18
            else
              Me_giveOf_b158 N (Me_giveOf_b47 N n)  (hR h11 a0 1) (x6 - 1) 0 a0 x2 x3 x4 x5 x6 x7 x8 h18
          else
            ck ((hK h11 a0).1 = 2) <|
            bd (Le_at N (hR h11 a0 1) ((x6 + (-1)) - 1) h11) fun v22 h23 =>
            ck ((hK h23 a0).1 = 2) <|
            bd (Le_at N (hR h23 a0 1) (x6 + (-1)) h23) fun v26 h27 =>
            bd (Me_joined N v10 v22 v26 h27) fun v29 h30 =>
            bd (Le_put N (hR h11 a0 1) ((x6 + (-1)) - 1) v29 h30) fun v32 h33 =>
            Me_giveOf_b203 N (Me_giveOf_b47 N n)  a0 x2 x3 x4 x5 (x6 + (-1)) x7 x8 h33
        else
          ck ((hK h11 a0).1 = 2) <|
          bd (Me_fact N a0 v10 x2 x3 x4 x5 h11) fun v36 h37 =>
          bd (Le_put N (hR h11 a0 1) x6 v36 h37) fun v39 h40 =>
          Me_giveOf_b203 N (Me_giveOf_b47 N n)  a0 x2 x3 x4 x5 (x6 + 1) x7 x8 h40
      else
        ck ((hK h11 a0).1 = 2) <|
        bd (Le_put N (hR h11 a0 1) x6 v10 h11) fun v43 h44 =>
        Me_giveOf_b203 N (Me_giveOf_b47 N n)  a0 x2 x3 x4 x5 (x6 + 1) x7 x8 h44
set_option maxRecDepth 20000 in
theorem Me_giveOf_b47_ok (g : GT) (N : Nat) (D : Nat) (hD : 1 ≤ D) : ∀ (n : Nat) (a0 : Nat) (x2 : Int32) (x3 : Int32) (x4 : Int32) (x5 : Int32) (x6 : Int32) (x7 : Int32) (x8 : Int32) (h : PH) (v : Int32) (h' : PH), Me_giveOf_b47 N n a0 x2 x3 x4 x5 x6 x7 x8 h = some (v, h') → Run g pMe_giveOf D 47 [(0, va_rf (some a0)), (2, .int x2), (3, .int x3), (4, .int x4), (5, .int x5), (6, .int x6), (7, .int x7), (8, .int x8)] [] h (rI v) h' := by
  obtain ⟨D2, rfl⟩ : ∃ d, D = d + 1 := ⟨D - 1, by omega⟩
  intro n
  induction n with
  | zero => exact fun _ _ _ _ _ _ _ _ _ _ _ hE => nomatch (show none = some _ from hE)
  | succ n ih =>
    intro a0 x2 x3 x4 x5 x6 x7 x8 h v h' hE
    unfold Me_giveOf_b47 at hE
    refine r_iload rfl rfl ?_
    refine r_iload rfl rfl ?_
    refine r_icmp_ge (tgt := 209) rfl (by decide) (fun hc1 => ?_) (fun hc1 => ?_)
    · have hE := ifP hc1 hE
      refine r_iconst 0 rfl ci_0 ?_
      refine r_iconst 4 rfl ci_4 ?_
      refine r_aload_n (t := some a0) 0 rfl rfl rfl ?_
      obtain ⟨hk2, hE⟩ := ckE hE
      refine r_getR rfl (fl_2_9 rfl) (Or.inr ⟨_, rfl⟩) rfl hk2 ?_
      refine r_iconst 0 rfl ci_0 ?_
      obtain ⟨v3, h4, hq5, hE⟩ := bdE hE
      refine r_callSN1 (rest := [.int 4, .int 0]) (hc := (Le_at_ok g N _ _ _ _ _ hq5 D2 (by omega))) rfl pm_Le_at lw_2_51 st_Le_at rfl rfl (by simp only [List.map_cons, List.map_nil, rf_cat, cat_i, cat_l, List.sum_cons, List.sum_nil]; decide) ?_
      refine r_mmin rfl (gt5 22 rfl rfl) mm_min1 mm_2 mm_min3 (by simp only [List.map_cons, List.map_nil, rf_cat, cat_i, cat_l, List.sum_cons, List.sum_nil]; decide) ?_
      refine r_mmax rfl (gt5 23 rfl rfl) mm_max1 mm_2 mm_max3 (by decide) ?_
      cases hE
      exact r_ret rfl (Or.inl ⟨rfl, _, _, rfl, rfl, rfl, rfl⟩)
    · have hE := ifN hc1 hE
      refine r_aload_n (t := some a0) 0 rfl rfl rfl ?_
      obtain ⟨hk6, hE⟩ := ckE hE
      refine r_getR rfl (fl_2_35 rfl) (Or.inl ⟨_, rfl⟩) rfl hk6 ?_
      obtain ⟨a_7, ha8, hE⟩ := bnE hE
      obtain ⟨hk9, hE⟩ := ckE hE
      refine r_getR rfl (fl_2_55 rfl) (Or.inr ⟨_, rfl⟩) ha8 hk9 ?_
      refine r_iload rfl rfl ?_
      obtain ⟨v10, h11, hq12, hE⟩ := bdE hE
      refine r_callSN1 (rest := []) (hc := (Le_at_ok g N _ _ _ _ _ hq12 D2 (by omega))) rfl pm_Le_at lw_2_51 st_Le_at rfl rfl (by decide) ?_
      refine r_istore rfl (by decide) ?_
      refine r_iload rfl rfl ?_
      refine r_if_lt (tgt := 90) rfl (by decide) (fun hc13 => ?_) (fun hc13 => ?_)
      · have hE := ifP hc13 hE
        refine r_iload rfl rfl ?_
        refine r_bipush (-6) rfl cb_m6 ?_
        refine r_icmp_le (tgt := 124) rfl (by decide) (fun hc14 => ?_) (fun hc14 => ?_)
        · have hE := ifP hc14 hE
          refine r_iload rfl rfl ?_
          refine r_bipush (-6) rfl cb_m6 ?_
          refine r_icmp_ne (tgt := 164) rfl (by decide) (fun hc15 => ?_) (fun hc15 => ?_)
          · have hE := ifP hc15 hE
            refine r_aload_n (t := some a0) 0 rfl rfl rfl ?_
            obtain ⟨hk16, hE⟩ := ckE hE
            refine r_getR rfl (fl_2_9 rfl) (Or.inr ⟨_, rfl⟩) rfl hk16 ?_
            refine r_iload rfl rfl ?_
            refine r_iconst 1 rfl ci_1 ?_
            refine r_isub rfl ?_
            refine r_aload_n (t := some a0) 0 rfl rfl rfl ?_
            refine r_getR rfl (fl_2_9 rfl) (Or.inr ⟨_, rfl⟩) rfl hk16 ?_
            refine r_iload rfl rfl ?_
            refine r_iconst 1 rfl ci_1 ?_
            refine r_isub rfl ?_
            obtain ⟨v17, h18, hq19, hE⟩ := bdE hE
            refine r_callSN1 (rest := [.int (x6 - 1), va_rf (hR h11 a0 1)]) (hc := (Le_at_ok g N _ _ _ _ _ hq19 D2 (by omega))) rfl pm_Le_at lw_2_51 st_Le_at rfl rfl (by simp only [List.map_cons, List.map_nil, rf_cat, cat_i, cat_l, List.sum_cons, List.sum_nil]; decide) ?_
            refine r_if_ne (tgt := 157) rfl (by decide) (fun hc20 => ?_) (fun hc20 => ?_)
            · have hE := ifP hc20 hE
              refine r_iconst 1 rfl ci_1 ?_
              refine r_goto (tgt := 158) rfl (by decide) ?_
              first | exact r_sb (Me_giveOf_b158_ok g N _ hD _ ih  _ _ _ _ _ _ _ _ _ _ _ _ _ _ hE) ⟨rfl, rfl, rfl, rfl, rfl, rfl, rfl, rfl, trivial⟩ | exact r_sb (Me_giveOf_b158_ok g N _ hD _ ih  _ _ _ _ _ _ _ _ _ _ _ _ _ _ hE) (by simp only [su1, su2, dr1_rf, dr1_in, dr1_lo, dr2_rf, dr2_in, dr2_lo]; exact ⟨rfl, rfl, rfl, rfl, rfl, rfl, rfl, rfl, trivial⟩)
            · have hE := ifN hc20 hE
              refine r_iconst 0 rfl ci_0 ?_
              first | exact r_sb (Me_giveOf_b158_ok g N _ hD _ ih  _ _ _ _ _ _ _ _ _ _ _ _ _ _ hE) ⟨rfl, rfl, rfl, rfl, rfl, rfl, rfl, rfl, trivial⟩ | exact r_sb (Me_giveOf_b158_ok g N _ hD _ ih  _ _ _ _ _ _ _ _ _ _ _ _ _ _ hE) (by simp only [su1, su2, dr1_rf, dr1_in, dr1_lo, dr2_rf, dr2_in, dr2_lo]; exact ⟨rfl, rfl, rfl, rfl, rfl, rfl, rfl, rfl, trivial⟩)
          · have hE := ifN hc15 hE
            refine r_iinc _ rfl rfl (congrArg _ ci_m1) (by decide) ?_
            refine r_aload_n (t := some a0) 0 rfl rfl rfl ?_
            obtain ⟨hk21, hE⟩ := ckE hE
            refine r_getR rfl (fl_2_9 rfl) (Or.inr ⟨_, rfl⟩) rfl hk21 ?_
            refine r_iload rfl rfl ?_
            refine r_iconst 1 rfl ci_1 ?_
            refine r_isub rfl ?_
            refine r_iload rfl rfl ?_
            refine r_aload_n (t := some a0) 0 rfl rfl rfl ?_
            refine r_getR rfl (fl_2_9 rfl) (Or.inr ⟨_, rfl⟩) rfl hk21 ?_
            refine r_iload rfl rfl ?_
            refine r_iconst 1 rfl ci_1 ?_
            refine r_isub rfl ?_
            obtain ⟨v22, h23, hq24, hE⟩ := bdE hE
            refine r_callSN1 (rest := [.int v10, .int ((x6 + (-1)) - 1), va_rf (hR h11 a0 1)]) (hc := (Le_at_ok g N _ _ _ _ _ hq24 D2 (by omega))) rfl pm_Le_at lw_2_51 st_Le_at rfl rfl (by simp only [List.map_cons, List.map_nil, rf_cat, cat_i, cat_l, List.sum_cons, List.sum_nil]; decide) ?_
            refine r_aload_n (t := some a0) 0 rfl rfl rfl ?_
            obtain ⟨hk25, hE⟩ := ckE hE
            refine r_getR rfl (fl_2_9 rfl) (Or.inr ⟨_, rfl⟩) rfl hk25 ?_
            refine r_iload rfl rfl ?_
            obtain ⟨v26, h27, hq28, hE⟩ := bdE hE
            refine r_callSN1 (rest := [.int v22, .int v10, .int ((x6 + (-1)) - 1), va_rf (hR h11 a0 1)]) (hc := (Le_at_ok g N _ _ _ _ _ hq28 D2 (by omega))) rfl pm_Le_at lw_2_51 st_Le_at rfl rfl (by simp only [List.map_cons, List.map_nil, rf_cat, cat_i, cat_l, List.sum_cons, List.sum_nil]; decide) ?_
            obtain ⟨v29, h30, hq31, hE⟩ := bdE hE
            refine r_callS1 (rest := [.int ((x6 + (-1)) - 1), va_rf (hR h11 a0 1)]) (hc := (Me_joined_ok g N _ _ _ _ _ _ hq31 D2 (by omega))) rfl pm_Me_joined lw_2_66 st_Me_joined rfl rfl (by simp only [List.map_cons, List.map_nil, rf_cat, cat_i, cat_l, List.sum_cons, List.sum_nil]; decide) ?_
            obtain ⟨v32, h33, hq34, hE⟩ := bdE hE
            refine r_callSN0 (rest := []) (hc := (Le_put_ok g N _ _ _ _ _ _ hq34 D2 (by omega))) rfl pm_Le_put lw_2_58 st_Le_put rfl rfl (by decide) ?_
            first | exact r_sb (Me_giveOf_b203_ok g N _ hD _ ih  _ _ _ _ _ _ _ _ _ _ _ hE) ⟨rfl, rfl, rfl, rfl, rfl, rfl, rfl, rfl, trivial⟩ | exact r_sb (Me_giveOf_b203_ok g N _ hD _ ih  _ _ _ _ _ _ _ _ _ _ _ hE) (by simp only [su1, su2, dr1_rf, dr1_in, dr1_lo, dr2_rf, dr2_in, dr2_lo]; exact ⟨rfl, rfl, rfl, rfl, rfl, rfl, rfl, rfl, trivial⟩)
        · have hE := ifN hc14 hE
          refine r_aload_n (t := some a0) 0 rfl rfl rfl ?_
          obtain ⟨hk35, hE⟩ := ckE hE
          refine r_getR rfl (fl_2_9 rfl) (Or.inr ⟨_, rfl⟩) rfl hk35 ?_
          refine r_iload rfl rfl ?_
          refine r_aload_n (t := some a0) 0 rfl rfl rfl ?_
          refine r_iload rfl rfl ?_
          refine r_iload_n 2 rfl rfl rfl ?_
          refine r_iload_n 3 rfl rfl rfl ?_
          refine r_iload rfl rfl ?_
          refine r_iload rfl rfl ?_
          obtain ⟨v36, h37, hq38, hE⟩ := bdE hE
          refine r_callV1 (rest := [.int x6, va_rf (hR h11 a0 1)]) (hc := (Me_fact_ok g N _ _ _ _ _ _ _ _ _ hq38 D2 (by omega))) rfl pm_Me_fact lw_2_62 im_Me_fact sl_Me_fact rfl rfl rfl (rcOK hk35 rfl) (by simp only [List.map_cons, List.map_nil, rf_cat, cat_i, cat_l, List.sum_cons, List.sum_nil]; decide) ?_
          obtain ⟨v39, h40, hq41, hE⟩ := bdE hE
          refine r_callSN0 (rest := []) (hc := (Le_put_ok g N _ _ _ _ _ _ hq41 D2 (by omega))) rfl pm_Le_put lw_2_58 st_Le_put rfl rfl (by decide) ?_
          refine r_iinc _ rfl rfl (congrArg _ ci_1) (by decide) ?_
          refine r_goto (tgt := 203) rfl (by decide) ?_
          first | exact r_sb (Me_giveOf_b203_ok g N _ hD _ ih  _ _ _ _ _ _ _ _ _ _ _ hE) ⟨rfl, rfl, rfl, rfl, rfl, rfl, rfl, rfl, trivial⟩ | exact r_sb (Me_giveOf_b203_ok g N _ hD _ ih  _ _ _ _ _ _ _ _ _ _ _ hE) (by simp only [su1, su2, dr1_rf, dr1_in, dr1_lo, dr2_rf, dr2_in, dr2_lo]; exact ⟨rfl, rfl, rfl, rfl, rfl, rfl, rfl, rfl, trivial⟩)
      · have hE := ifN hc13 hE
        refine r_aload_n (t := some a0) 0 rfl rfl rfl ?_
        obtain ⟨hk42, hE⟩ := ckE hE
        refine r_getR rfl (fl_2_9 rfl) (Or.inr ⟨_, rfl⟩) rfl hk42 ?_
        refine r_iload rfl rfl ?_
        refine r_iload rfl rfl ?_
        obtain ⟨v43, h44, hq45, hE⟩ := bdE hE
        refine r_callSN0 (rest := []) (hc := (Le_put_ok g N _ _ _ _ _ _ hq45 D2 (by omega))) rfl pm_Le_put lw_2_58 st_Le_put rfl rfl (by decide) ?_
        refine r_iinc _ rfl rfl (congrArg _ ci_1) (by decide) ?_
        refine r_goto (tgt := 203) rfl (by decide) ?_
        first | exact r_sb (Me_giveOf_b203_ok g N _ hD _ ih  _ _ _ _ _ _ _ _ _ _ _ hE) ⟨rfl, rfl, rfl, rfl, rfl, rfl, rfl, rfl, trivial⟩ | exact r_sb (Me_giveOf_b203_ok g N _ hD _ ih  _ _ _ _ _ _ _ _ _ _ _ hE) (by simp only [su1, su2, dr1_rf, dr1_in, dr1_lo, dr2_rf, dr2_in, dr2_lo]; exact ⟨rfl, rfl, rfl, rfl, rfl, rfl, rfl, rfl, trivial⟩)
def Me_giveOf_b45 (N : Nat) (s0 : Int32) (a0 : Nat) (x2 : Int32) (x3 : Int32) (x4 : Int32) (x5 : Int32) (x6 : Int32) (x7 : Int32) (h : PH) : Option (Int32 × PH) :=
  Me_giveOf_b47 N N a0 x2 x3 x4 x5 x6 x7 s0 h
set_option maxRecDepth 20000 in
theorem Me_giveOf_b45_ok (g : GT) (N : Nat) (D : Nat) (hD : 1 ≤ D) : ∀ (s0 : Int32) (a0 : Nat) (x2 : Int32) (x3 : Int32) (x4 : Int32) (x5 : Int32) (x6 : Int32) (x7 : Int32) (h : PH) (v : Int32) (h' : PH), Me_giveOf_b45 N s0 a0 x2 x3 x4 x5 x6 x7 h = some (v, h') → Run g pMe_giveOf D 45 [(0, va_rf (some a0)), (2, .int x2), (3, .int x3), (4, .int x4), (5, .int x5), (6, .int x6), (7, .int x7)] [.int s0] h (rI v) h' := by
  obtain ⟨D2, rfl⟩ : ∃ d, D = d + 1 := ⟨D - 1, by omega⟩
  intro s0 a0 x2 x3 x4 x5 x6 x7 h v h' hE
  unfold Me_giveOf_b45 at hE
  refine r_istore rfl (by decide) ?_
  first | exact r_sb (Me_giveOf_b47_ok g N _ hD  N _ _ _ _ _ _ _ _ _ _ _ hE) ⟨rfl, rfl, rfl, rfl, rfl, rfl, rfl, rfl, trivial⟩ | exact r_sb (Me_giveOf_b47_ok g N _ hD  N _ _ _ _ _ _ _ _ _ _ _ hE) (by simp only [su1, su2, dr1_rf, dr1_in, dr1_lo, dr2_rf, dr2_in, dr2_lo]; exact ⟨rfl, rfl, rfl, rfl, rfl, rfl, rfl, rfl, trivial⟩)
def Me_giveOf_b22 (N : Nat) (s0 : Int32) (a0 : Nat) (x1 : Int32) (x2 : Int32) (x3 : Int32) (x4 : Int32) (x5 : Int32) (x6 : Int32) (h : PH) : Option (Int32 × PH) :=
  if 0 < x1 then
    ck ((hK h a0).1 = 2) <|
    ((hR h a0 0)).bind fun a_3 =>
    ck ((hK h a_3).1 = 0) <|
    bd (Le_at N (hR h a_3 18) (x1 - 1) h) fun v6 h7 =>
    Me_giveOf_b45 N  v6 a0 x2 x3 x4 x5 x6 s0 h7
  else
    Me_giveOf_b45 N  0 a0 x2 x3 x4 x5 x6 s0 h
set_option maxRecDepth 20000 in
theorem Me_giveOf_b22_ok (g : GT) (N : Nat) (D : Nat) (hD : 1 ≤ D) : ∀ (s0 : Int32) (a0 : Nat) (x1 : Int32) (x2 : Int32) (x3 : Int32) (x4 : Int32) (x5 : Int32) (x6 : Int32) (h : PH) (v : Int32) (h' : PH), Me_giveOf_b22 N s0 a0 x1 x2 x3 x4 x5 x6 h = some (v, h') → Run g pMe_giveOf D 22 [(0, va_rf (some a0)), (1, .int x1), (2, .int x2), (3, .int x3), (4, .int x4), (5, .int x5), (6, .int x6)] [.int s0] h (rI v) h' := by
  obtain ⟨D2, rfl⟩ : ∃ d, D = d + 1 := ⟨D - 1, by omega⟩
  intro s0 a0 x1 x2 x3 x4 x5 x6 h v h' hE
  unfold Me_giveOf_b22 at hE
  refine r_istore rfl (by decide) ?_
  refine r_iload_n 1 rfl rfl rfl ?_
  refine r_if_gt (tgt := 32) rfl (by decide) (fun hc1 => ?_) (fun hc1 => ?_)
  · have hE := ifP hc1 hE
    refine r_aload_n (t := some a0) 0 rfl rfl rfl ?_
    obtain ⟨hk2, hE⟩ := ckE hE
    refine r_getR rfl (fl_2_35 rfl) (Or.inl ⟨_, rfl⟩) rfl hk2 ?_
    obtain ⟨a_3, ha4, hE⟩ := bnE hE
    obtain ⟨hk5, hE⟩ := ckE hE
    refine r_getR rfl (fl_2_48 rfl) (Or.inr ⟨_, rfl⟩) ha4 hk5 ?_
    refine r_iload_n 1 rfl rfl rfl ?_
    refine r_iconst 1 rfl ci_1 ?_
    refine r_isub rfl ?_
    obtain ⟨v6, h7, hq8, hE⟩ := bdE hE
    refine r_callSN1 (rest := []) (hc := (Le_at_ok g N _ _ _ _ _ hq8 D2 (by omega))) rfl pm_Le_at lw_2_51 st_Le_at rfl rfl (by decide) ?_
    first | exact r_sb (Me_giveOf_b45_ok g N _ hD   _ _ _ _ _ _ _ _ _ _ _ hE) ⟨rfl, rfl, rfl, rfl, rfl, rfl, rfl, trivial⟩ | exact r_sb (Me_giveOf_b45_ok g N _ hD   _ _ _ _ _ _ _ _ _ _ _ hE) (by simp only [su1, su2, dr1_rf, dr1_in, dr1_lo, dr2_rf, dr2_in, dr2_lo]; exact ⟨rfl, rfl, rfl, rfl, rfl, rfl, rfl, trivial⟩)
  · have hE := ifN hc1 hE
    refine r_iconst 0 rfl ci_0 ?_
    refine r_goto (tgt := 45) rfl (by decide) ?_
    first | exact r_sb (Me_giveOf_b45_ok g N _ hD   _ _ _ _ _ _ _ _ _ _ _ hE) ⟨rfl, rfl, rfl, rfl, rfl, rfl, rfl, trivial⟩ | exact r_sb (Me_giveOf_b45_ok g N _ hD   _ _ _ _ _ _ _ _ _ _ _ hE) (by simp only [su1, su2, dr1_rf, dr1_in, dr1_lo, dr2_rf, dr2_in, dr2_lo]; exact ⟨rfl, rfl, rfl, rfl, rfl, rfl, rfl, trivial⟩)
def Me_giveOf (N : Nat) (a0 : Nat) (x1 : Int32) (x2 : Int32) (x3 : Int32) (x4 : Int32) (x5 : Int32) (h : PH) : Option (Int32 × PH) :=
  if 0 ≤ x1 then
    ck ((hK h a0).1 = 2) <|
    ((hR h a0 0)).bind fun a_3 =>
    ck ((hK h a_3).1 = 0) <|
    bd (Le_at N (hR h a_3 18) x1 h) fun v6 h7 =>
    Me_giveOf_b22 N  v6 a0 x1 x2 x3 x4 x5 0 h7
  else
    Me_giveOf_b22 N  0 a0 x1 x2 x3 x4 x5 0 h
set_option maxRecDepth 20000 in
theorem Me_giveOf_ok (g : GT) (N : Nat) (a0 : Nat) (x1 : Int32) (x2 : Int32) (x3 : Int32) (x4 : Int32) (x5 : Int32) (h : PH) (v : Int32) (h' : PH) (hE : Me_giveOf N a0 x1 x2 x3 x4 x5 h = some (v, h')) (D : Nat) (hD : 1 ≤ D) : Calls g D pMe_giveOf [va_rf (some a0), .int x1, .int x2, .int x3, .int x4, .int x5] h (oI v) h' := by
  refine Calls.of cok_Me_giveOf ht_Me_giveOf pl_Me_giveOf (fun ad => by rw [lg_len, sL_cat]; simp only [List.map_cons, List.map_nil, rf_cat, cat_i, cat_l, List.sum_cons, List.sum_nil]; decide) ?_
  rw [show lv_args 0 [va_rf (some a0), .int x1, .int x2, .int x3, .int x4, .int x5] = [(0, va_rf (some a0)), (1, .int x1), (2, .int x2), (3, .int x3), (4, .int x4), (5, .int x5)] from (by simp only [lv_args, rf_cat, cat_i, cat_l]; try rfl)]
  obtain ⟨D2, rfl⟩ : ∃ d, D = d + 1 := ⟨D - 1, by omega⟩
  unfold Me_giveOf at hE
  refine r_iconst 0 rfl ci_0 ?_
  refine r_istore rfl (by decide) ?_
  refine r_iload_n 1 rfl rfl rfl ?_
  refine r_if_ge (tgt := 11) rfl (by decide) (fun hc1 => ?_) (fun hc1 => ?_)
  · have hE := ifP hc1 hE
    refine r_aload_n (t := some a0) 0 rfl rfl rfl ?_
    obtain ⟨hk2, hE⟩ := ckE hE
    refine r_getR rfl (fl_2_35 rfl) (Or.inl ⟨_, rfl⟩) rfl hk2 ?_
    obtain ⟨a_3, ha4, hE⟩ := bnE hE
    obtain ⟨hk5, hE⟩ := ckE hE
    refine r_getR rfl (fl_2_48 rfl) (Or.inr ⟨_, rfl⟩) ha4 hk5 ?_
    refine r_iload_n 1 rfl rfl rfl ?_
    obtain ⟨v6, h7, hq8, hE⟩ := bdE hE
    refine r_callSN1 (rest := []) (hc := (Le_at_ok g N _ _ _ _ _ hq8 D2 (by omega))) rfl pm_Le_at lw_2_51 st_Le_at rfl rfl (by decide) ?_
    first | exact r_sb (Me_giveOf_b22_ok g N _ hD   _ _ _ _ _ _ _ _ _ _ _ hE) ⟨rfl, rfl, rfl, rfl, rfl, rfl, rfl, trivial⟩ | exact r_sb (Me_giveOf_b22_ok g N _ hD   _ _ _ _ _ _ _ _ _ _ _ hE) (by simp only [su1, su2, dr1_rf, dr1_in, dr1_lo, dr2_rf, dr2_in, dr2_lo]; exact ⟨rfl, rfl, rfl, rfl, rfl, rfl, rfl, trivial⟩)
  · have hE := ifN hc1 hE
    refine r_iconst 0 rfl ci_0 ?_
    refine r_goto (tgt := 22) rfl (by decide) ?_
    first | exact r_sb (Me_giveOf_b22_ok g N _ hD   _ _ _ _ _ _ _ _ _ _ _ hE) ⟨rfl, rfl, rfl, rfl, rfl, rfl, rfl, trivial⟩ | exact r_sb (Me_giveOf_b22_ok g N _ hD   _ _ _ _ _ _ _ _ _ _ _ hE) (by simp only [su1, su2, dr1_rf, dr1_in, dr1_lo, dr2_rf, dr2_in, dr2_lo]; exact ⟨rfl, rfl, rfl, rfl, rfl, rfl, rfl, trivial⟩)
def Me_from_b234 (N : Nat) (rec : Nat → Int32 → Int32 → Int32 → Int32 → PH → Option (Int32 × PH)) (self_82 : Nat → Int32 → Int32 → Int32 → Int32 → Int32 → Int32 → Int32 → PH → Option (Int32 × PH)) (a0 : Nat) (x1 : Int32) (x2 : Int32) (x3 : Int32) (x4 : Int32) (x5 : Int32) (x6 : Int32) (x7 : Int32) (h : PH) : Option (Int32 × PH) :=
  self_82 a0 x1 x2 x3 x4 x5 x6 (x7 + 1) h
set_option maxRecDepth 20000 in
theorem Me_from_b234_ok (g : GT) (N : Nat) (rec : Nat → Int32 → Int32 → Int32 → Int32 → PH → Option (Int32 × PH)) (K0 : Nat) (hrec : ∀ (a0 : Nat) (x1 : Int32) (x2 : Int32) (x3 : Int32) (x4 : Int32) (h : PH) (v : Int32) (h' : PH), rec a0 x1 x2 x3 x4 h = some (v, h') → ∀ D, K0 ≤ D → Calls g D pMe_from [va_rf (some a0), .int x1, .int x2, .int x3, .int x4] h (oI v) h') (D : Nat) (hD : 3 ≤ D ∧ K0 + 1 ≤ D) (self_82 : Nat → Int32 → Int32 → Int32 → Int32 → Int32 → Int32 → Int32 → PH → Option (Int32 × PH)) (hself_82 : ∀ (a0 : Nat) (x1 : Int32) (x2 : Int32) (x3 : Int32) (x4 : Int32) (x5 : Int32) (x6 : Int32) (x7 : Int32) (h : PH) (v : Int32) (h' : PH), self_82 a0 x1 x2 x3 x4 x5 x6 x7 h = some (v, h') → Run g pMe_from D 82 [(0, va_rf (some a0)), (1, .int x1), (2, .int x2), (3, .int x3), (4, .int x4), (5, .int x5), (6, .int x6), (7, .int x7)] [] h (rI v) h') : ∀ (a0 : Nat) (x1 : Int32) (x2 : Int32) (x3 : Int32) (x4 : Int32) (x5 : Int32) (x6 : Int32) (x7 : Int32) (h : PH) (v : Int32) (h' : PH), Me_from_b234 N rec self_82 a0 x1 x2 x3 x4 x5 x6 x7 h = some (v, h') → Run g pMe_from D 234 [(0, va_rf (some a0)), (1, .int x1), (2, .int x2), (3, .int x3), (4, .int x4), (5, .int x5), (6, .int x6), (7, .int x7)] [] h (rI v) h' := by
  obtain ⟨D2, rfl⟩ : ∃ d, D = d + 1 := ⟨D - 1, by omega⟩
  intro a0 x1 x2 x3 x4 x5 x6 x7 h v h' hE
  unfold Me_from_b234 at hE
  refine r_iinc _ rfl rfl (congrArg _ ci_1) (by decide) ?_
  refine r_goto (tgt := 82) rfl (by decide) ?_
  first | exact r_sb (hself_82 _ _ _ _ _ _ _ _ _ _ _ hE) ⟨rfl, rfl, rfl, rfl, rfl, rfl, rfl, rfl, trivial⟩ | exact r_sb (hself_82 _ _ _ _ _ _ _ _ _ _ _ hE) (by simp only [su1, su2, dr1_rf, dr1_in, dr1_lo, dr2_rf, dr2_in, dr2_lo]; exact ⟨rfl, rfl, rfl, rfl, rfl, rfl, rfl, rfl, trivial⟩)
def Me_from_b175 (N : Nat) (rec : Nat → Int32 → Int32 → Int32 → Int32 → PH → Option (Int32 × PH)) (self_82 : Nat → Int32 → Int32 → Int32 → Int32 → Int32 → Int32 → Int32 → PH → Option (Int32 × PH)) (s0 : Int32) (a0 : Nat) (x1 : Int32) (x2 : Int32) (x3 : Int32) (x4 : Int32) (x5 : Int32) (x6 : Int32) (x7 : Int32) (x8 : Int32) (x9 : Int32) (x10 : Int32) (h : PH) : Option (Int32 × PH) :=
  ck ((hK h a0).1 = 2) <|
  ((hR h a0 0)).bind fun a_2 =>
  ck ((hK h a_2).1 = 0) <|
  bd (Ho_toffeesTaken N a_2 x2 x9 x10 h) fun v5 h6 =>
  ck ((hK h6 a0).1 = 2) <|
  ((hR h6 a0 0)).bind fun a_9 =>
  ck ((hK h6 a_9).1 = 0) <|
  bd (Ho_applesTaken N a_9 x3 x9 x10 h6) fun v12 h13 =>
  ck ((hK h13 a0).1 = 2) <|
  ((hR h13 a0 0)).bind fun a_16 =>
  ck ((hK h13 a_16).1 = 0) <|
  bd (Ho_spreads N a_16 x9 x10 h13) fun v19 h20 =>
  ck ((hK h20 a0).1 = 2) <|
  bd (rec a0 (x1 + 1) (x2 - v5) (x3 - v12) (bI v19) h20) fun v23 h24 =>
  Me_from_b234 N rec self_82  a0 x1 x2 x3 x4 x5 (x6 + (x8 * (s0 + v23))) x7 h24
set_option maxRecDepth 20000 in
theorem Me_from_b175_ok (g : GT) (N : Nat) (rec : Nat → Int32 → Int32 → Int32 → Int32 → PH → Option (Int32 × PH)) (K0 : Nat) (hrec : ∀ (a0 : Nat) (x1 : Int32) (x2 : Int32) (x3 : Int32) (x4 : Int32) (h : PH) (v : Int32) (h' : PH), rec a0 x1 x2 x3 x4 h = some (v, h') → ∀ D, K0 ≤ D → Calls g D pMe_from [va_rf (some a0), .int x1, .int x2, .int x3, .int x4] h (oI v) h') (D : Nat) (hD : 3 ≤ D ∧ K0 + 1 ≤ D) (self_82 : Nat → Int32 → Int32 → Int32 → Int32 → Int32 → Int32 → Int32 → PH → Option (Int32 × PH)) (hself_82 : ∀ (a0 : Nat) (x1 : Int32) (x2 : Int32) (x3 : Int32) (x4 : Int32) (x5 : Int32) (x6 : Int32) (x7 : Int32) (h : PH) (v : Int32) (h' : PH), self_82 a0 x1 x2 x3 x4 x5 x6 x7 h = some (v, h') → Run g pMe_from D 82 [(0, va_rf (some a0)), (1, .int x1), (2, .int x2), (3, .int x3), (4, .int x4), (5, .int x5), (6, .int x6), (7, .int x7)] [] h (rI v) h') : ∀ (s0 : Int32) (a0 : Nat) (x1 : Int32) (x2 : Int32) (x3 : Int32) (x4 : Int32) (x5 : Int32) (x6 : Int32) (x7 : Int32) (x8 : Int32) (x9 : Int32) (x10 : Int32) (h : PH) (v : Int32) (h' : PH), Me_from_b175 N rec self_82 s0 a0 x1 x2 x3 x4 x5 x6 x7 x8 x9 x10 h = some (v, h') → Run g pMe_from D 175 [(0, va_rf (some a0)), (1, .int x1), (2, .int x2), (3, .int x3), (4, .int x4), (5, .int x5), (6, .int x6), (7, .int x7), (8, .int x8), (9, .int x9), (10, .int x10)] [.int s0] h (rI v) h' := by
  obtain ⟨D2, rfl⟩ : ∃ d, D = d + 1 := ⟨D - 1, by omega⟩
  intro s0 a0 x1 x2 x3 x4 x5 x6 x7 x8 x9 x10 h v h' hE
  unfold Me_from_b175 at hE
  refine r_istore rfl (by decide) ?_
  refine r_iload rfl rfl ?_
  refine r_iload rfl rfl ?_
  refine r_iload rfl rfl ?_
  refine r_aload_n (t := some a0) 0 rfl rfl rfl ?_
  refine r_iload_n 1 rfl rfl rfl ?_
  refine r_iconst 1 rfl ci_1 ?_
  refine r_iadd rfl ?_
  refine r_iload_n 2 rfl rfl rfl ?_
  refine r_aload_n (t := some a0) 0 rfl rfl rfl ?_
  obtain ⟨hk1, hE⟩ := ckE hE
  refine r_getR rfl (fl_2_35 rfl) (Or.inl ⟨_, rfl⟩) rfl hk1 ?_
  refine r_iload_n 2 rfl rfl rfl ?_
  refine r_iload rfl rfl ?_
  refine r_iload rfl rfl ?_
  obtain ⟨a_2, ha3, hE⟩ := bnE hE
  obtain ⟨hk4, hE⟩ := ckE hE
  obtain ⟨v5, h6, hq7, hE⟩ := bdE hE
  refine r_callV1 (rest := [.int x2, .int (x1 + 1), va_rf (some a0), .int s0, .int x8, .int x6]) (hc := (Ho_toffeesTaken_ok g N _ _ _ _ _ _ _ hq7 D2 (by omega))) rfl pm_Ho_toffeesTaken lw_2_121 im_Ho_toffeesTaken sl_Ho_toffeesTaken ha3 rfl rfl (rcOK hk4 rfl) (by simp only [List.map_cons, List.map_nil, rf_cat, cat_i, cat_l, List.sum_cons, List.sum_nil]; decide) ?_
  refine r_isub rfl ?_
  refine r_iload_n 3 rfl rfl rfl ?_
  refine r_aload_n (t := some a0) 0 rfl rfl rfl ?_
  obtain ⟨hk8, hE⟩ := ckE hE
  refine r_getR rfl (fl_2_35 rfl) (Or.inl ⟨_, rfl⟩) rfl hk8 ?_
  refine r_iload_n 3 rfl rfl rfl ?_
  refine r_iload rfl rfl ?_
  refine r_iload rfl rfl ?_
  obtain ⟨a_9, ha10, hE⟩ := bnE hE
  obtain ⟨hk11, hE⟩ := ckE hE
  obtain ⟨v12, h13, hq14, hE⟩ := bdE hE
  refine r_callV1 (rest := [.int x3, .int (x2 - v5), .int (x1 + 1), va_rf (some a0), .int s0, .int x8, .int x6]) (hc := (Ho_applesTaken_ok g N _ _ _ _ _ _ _ hq14 D2 (by omega))) rfl pm_Ho_applesTaken lw_2_124 im_Ho_applesTaken sl_Ho_applesTaken ha10 rfl rfl (rcOK hk11 rfl) (by simp only [List.map_cons, List.map_nil, rf_cat, cat_i, cat_l, List.sum_cons, List.sum_nil]; decide) ?_
  refine r_isub rfl ?_
  refine r_aload_n (t := some a0) 0 rfl rfl rfl ?_
  obtain ⟨hk15, hE⟩ := ckE hE
  refine r_getR rfl (fl_2_35 rfl) (Or.inl ⟨_, rfl⟩) rfl hk15 ?_
  refine r_iload rfl rfl ?_
  refine r_iload rfl rfl ?_
  obtain ⟨a_16, ha17, hE⟩ := bnE hE
  obtain ⟨hk18, hE⟩ := ckE hE
  obtain ⟨v19, h20, hq21, hE⟩ := bdE hE
  refine r_callV1 (rest := [.int (x3 - v12), .int (x2 - v5), .int (x1 + 1), va_rf (some a0), .int s0, .int x8, .int x6]) (hc := (Ho_spreads_ok g N _ _ _ _ _ _ hq21 D2 (by omega))) rfl pm_Ho_spreads lw_2_127 im_Ho_spreads sl_Ho_spreads ha17 rfl rfl (rcOK hk18 rfl) (by simp only [List.map_cons, List.map_nil, rf_cat, cat_i, cat_l, List.sum_cons, List.sum_nil]; decide) ?_
  obtain ⟨hk22, hE⟩ := ckE hE
  obtain ⟨v23, h24, hq25, hE⟩ := bdE hE
  refine r_callV1 (rest := [.int s0, .int x8, .int x6]) (hc := (hrec _ _ _ _ _ _ _ _ hq25 D2 (by omega))) rfl pm_Me_from lw_2_101 im_Me_from sl_Me_from rfl rfl rfl (rcOK hk22 rfl) (by simp only [List.map_cons, List.map_nil, rf_cat, cat_i, cat_l, List.sum_cons, List.sum_nil]; decide) ?_
  refine r_iadd rfl ?_
  refine r_imul rfl ?_
  refine r_iadd rfl ?_
  refine r_istore rfl (by decide) ?_
  first | exact r_sb (Me_from_b234_ok g N _ _ hrec _ hD _ hself_82  _ _ _ _ _ _ _ _ _ _ _ hE) ⟨rfl, rfl, rfl, rfl, rfl, rfl, rfl, rfl, trivial⟩ | exact r_sb (Me_from_b234_ok g N _ _ hrec _ hD _ hself_82  _ _ _ _ _ _ _ _ _ _ _ hE) (by simp only [su1, su2, dr1_rf, dr1_in, dr1_lo, dr2_rf, dr2_in, dr2_lo]; exact ⟨rfl, rfl, rfl, rfl, rfl, rfl, rfl, rfl, trivial⟩)
def Me_from_b144 (N : Nat) (rec : Nat → Int32 → Int32 → Int32 → Int32 → PH → Option (Int32 × PH)) (self_82 : Nat → Int32 → Int32 → Int32 → Int32 → Int32 → Int32 → Int32 → PH → Option (Int32 × PH)) (s0 : Int32) (a0 : Nat) (x1 : Int32) (x2 : Int32) (x3 : Int32) (x4 : Int32) (x5 : Int32) (x6 : Int32) (x7 : Int32) (x8 : Int32) (x9 : Int32) (h : PH) : Option (Int32 × PH) :=
  ck ((hK h a0).1 = 2) <|
  if (bI (hZ h a0 4)) = 0 then
    ((hR h a0 0)).bind fun a_3 =>
    ck ((hK h a_3).1 = 0) <|
    bd (Ho_worthOf N a_3 x1 x2 x3 x9 s0 h) fun v6 h7 =>
    Me_from_b175 N rec self_82  (1000 * v6) a0 x1 x2 x3 x4 x5 x6 x7 x8 x9 s0 h7
  else
    Me_from_b175 N rec self_82  0 a0 x1 x2 x3 x4 x5 x6 x7 x8 x9 s0 h
set_option maxRecDepth 20000 in
theorem Me_from_b144_ok (g : GT) (N : Nat) (rec : Nat → Int32 → Int32 → Int32 → Int32 → PH → Option (Int32 × PH)) (K0 : Nat) (hrec : ∀ (a0 : Nat) (x1 : Int32) (x2 : Int32) (x3 : Int32) (x4 : Int32) (h : PH) (v : Int32) (h' : PH), rec a0 x1 x2 x3 x4 h = some (v, h') → ∀ D, K0 ≤ D → Calls g D pMe_from [va_rf (some a0), .int x1, .int x2, .int x3, .int x4] h (oI v) h') (D : Nat) (hD : 3 ≤ D ∧ K0 + 1 ≤ D) (self_82 : Nat → Int32 → Int32 → Int32 → Int32 → Int32 → Int32 → Int32 → PH → Option (Int32 × PH)) (hself_82 : ∀ (a0 : Nat) (x1 : Int32) (x2 : Int32) (x3 : Int32) (x4 : Int32) (x5 : Int32) (x6 : Int32) (x7 : Int32) (h : PH) (v : Int32) (h' : PH), self_82 a0 x1 x2 x3 x4 x5 x6 x7 h = some (v, h') → Run g pMe_from D 82 [(0, va_rf (some a0)), (1, .int x1), (2, .int x2), (3, .int x3), (4, .int x4), (5, .int x5), (6, .int x6), (7, .int x7)] [] h (rI v) h') : ∀ (s0 : Int32) (a0 : Nat) (x1 : Int32) (x2 : Int32) (x3 : Int32) (x4 : Int32) (x5 : Int32) (x6 : Int32) (x7 : Int32) (x8 : Int32) (x9 : Int32) (h : PH) (v : Int32) (h' : PH), Me_from_b144 N rec self_82 s0 a0 x1 x2 x3 x4 x5 x6 x7 x8 x9 h = some (v, h') → Run g pMe_from D 144 [(0, va_rf (some a0)), (1, .int x1), (2, .int x2), (3, .int x3), (4, .int x4), (5, .int x5), (6, .int x6), (7, .int x7), (8, .int x8), (9, .int x9)] [.int s0] h (rI v) h' := by
  obtain ⟨D2, rfl⟩ : ∃ d, D = d + 1 := ⟨D - 1, by omega⟩
  intro s0 a0 x1 x2 x3 x4 x5 x6 x7 x8 x9 h v h' hE
  unfold Me_from_b144 at hE
  refine r_istore rfl (by decide) ?_
  refine r_aload_n (t := some a0) 0 rfl rfl rfl ?_
  obtain ⟨hk1, hE⟩ := ckE hE
  refine r_getZ rfl (fl_2_22 rfl) rfl hk1 ?_
  refine r_if_eq (tgt := 157) rfl (by decide) (fun hc2 => ?_) (fun hc2 => ?_)
  · have hE := ifP hc2 hE
    refine r_sipush 1000 rfl cs_1000 ?_
    refine r_aload_n (t := some a0) 0 rfl rfl rfl ?_
    refine r_getR rfl (fl_2_35 rfl) (Or.inl ⟨_, rfl⟩) rfl hk1 ?_
    refine r_iload_n 1 rfl rfl rfl ?_
    refine r_iload_n 2 rfl rfl rfl ?_
    refine r_iload_n 3 rfl rfl rfl ?_
    refine r_iload rfl rfl ?_
    refine r_iload rfl rfl ?_
    obtain ⟨a_3, ha4, hE⟩ := bnE hE
    obtain ⟨hk5, hE⟩ := ckE hE
    obtain ⟨v6, h7, hq8, hE⟩ := bdE hE
    refine r_callV1 (rest := [.int 1000]) (hc := (Ho_worthOf_ok g N _ _ _ _ _ _ _ _ _ hq8 D2 (by omega))) rfl pm_Ho_worthOf lw_2_118 im_Ho_worthOf sl_Ho_worthOf ha4 rfl rfl (rcOK hk5 rfl) (by simp only [List.map_cons, List.map_nil, rf_cat, cat_i, cat_l, List.sum_cons, List.sum_nil]; decide) ?_
    refine r_imul rfl ?_
    first | exact r_sb (Me_from_b175_ok g N _ _ hrec _ hD _ hself_82  _ _ _ _ _ _ _ _ _ _ _ _ _ _ _ hE) ⟨rfl, rfl, rfl, rfl, rfl, rfl, rfl, rfl, rfl, rfl, rfl, trivial⟩ | exact r_sb (Me_from_b175_ok g N _ _ hrec _ hD _ hself_82  _ _ _ _ _ _ _ _ _ _ _ _ _ _ _ hE) (by simp only [su1, su2, dr1_rf, dr1_in, dr1_lo, dr2_rf, dr2_in, dr2_lo]; exact ⟨rfl, rfl, rfl, rfl, rfl, rfl, rfl, rfl, rfl, rfl, rfl, trivial⟩)
  · have hE := ifN hc2 hE
    refine r_iconst 0 rfl ci_0 ?_
    refine r_goto (tgt := 175) rfl (by decide) ?_
    first | exact r_sb (Me_from_b175_ok g N _ _ hrec _ hD _ hself_82  _ _ _ _ _ _ _ _ _ _ _ _ _ _ _ hE) ⟨rfl, rfl, rfl, rfl, rfl, rfl, rfl, rfl, rfl, rfl, rfl, trivial⟩ | exact r_sb (Me_from_b175_ok g N _ _ hrec _ hD _ hself_82  _ _ _ _ _ _ _ _ _ _ _ _ _ _ _ hE) (by simp only [su1, su2, dr1_rf, dr1_in, dr1_lo, dr2_rf, dr2_in, dr2_lo]; exact ⟨rfl, rfl, rfl, rfl, rfl, rfl, rfl, rfl, rfl, rfl, rfl, trivial⟩)
def Me_from_b120 (N : Nat) (rec : Nat → Int32 → Int32 → Int32 → Int32 → PH → Option (Int32 × PH)) (self_82 : Nat → Int32 → Int32 → Int32 → Int32 → Int32 → Int32 → Int32 → PH → Option (Int32 × PH)) (s0 : Int32) (a0 : Nat) (x1 : Int32) (x2 : Int32) (x3 : Int32) (x4 : Int32) (x5 : Int32) (x6 : Int32) (x7 : Int32) (x8 : Int32) (h : PH) : Option (Int32 × PH) :=
  if s0 ≤ 0 then
    Me_from_b144 N rec self_82  0 a0 x1 x2 x3 x4 x5 x6 x7 x8 s0 h
  else
    ck ((hK h a0).1 = 2) <|
    bd (Me_giveOf N a0 (hI h a0 2) x1 x2 x3 s0 h) fun v3 h4 =>
    Me_from_b144 N rec self_82  v3 a0 x1 x2 x3 x4 x5 x6 x7 x8 s0 h4
set_option maxRecDepth 20000 in
theorem Me_from_b120_ok (g : GT) (N : Nat) (rec : Nat → Int32 → Int32 → Int32 → Int32 → PH → Option (Int32 × PH)) (K0 : Nat) (hrec : ∀ (a0 : Nat) (x1 : Int32) (x2 : Int32) (x3 : Int32) (x4 : Int32) (h : PH) (v : Int32) (h' : PH), rec a0 x1 x2 x3 x4 h = some (v, h') → ∀ D, K0 ≤ D → Calls g D pMe_from [va_rf (some a0), .int x1, .int x2, .int x3, .int x4] h (oI v) h') (D : Nat) (hD : 3 ≤ D ∧ K0 + 1 ≤ D) (self_82 : Nat → Int32 → Int32 → Int32 → Int32 → Int32 → Int32 → Int32 → PH → Option (Int32 × PH)) (hself_82 : ∀ (a0 : Nat) (x1 : Int32) (x2 : Int32) (x3 : Int32) (x4 : Int32) (x5 : Int32) (x6 : Int32) (x7 : Int32) (h : PH) (v : Int32) (h' : PH), self_82 a0 x1 x2 x3 x4 x5 x6 x7 h = some (v, h') → Run g pMe_from D 82 [(0, va_rf (some a0)), (1, .int x1), (2, .int x2), (3, .int x3), (4, .int x4), (5, .int x5), (6, .int x6), (7, .int x7)] [] h (rI v) h') : ∀ (s0 : Int32) (a0 : Nat) (x1 : Int32) (x2 : Int32) (x3 : Int32) (x4 : Int32) (x5 : Int32) (x6 : Int32) (x7 : Int32) (x8 : Int32) (h : PH) (v : Int32) (h' : PH), Me_from_b120 N rec self_82 s0 a0 x1 x2 x3 x4 x5 x6 x7 x8 h = some (v, h') → Run g pMe_from D 120 [(0, va_rf (some a0)), (1, .int x1), (2, .int x2), (3, .int x3), (4, .int x4), (5, .int x5), (6, .int x6), (7, .int x7), (8, .int x8)] [.int s0] h (rI v) h' := by
  obtain ⟨D2, rfl⟩ : ∃ d, D = d + 1 := ⟨D - 1, by omega⟩
  intro s0 a0 x1 x2 x3 x4 x5 x6 x7 x8 h v h' hE
  unfold Me_from_b120 at hE
  refine r_istore rfl (by decide) ?_
  refine r_iload rfl rfl ?_
  refine r_if_le (tgt := 143) rfl (by decide) (fun hc1 => ?_) (fun hc1 => ?_)
  · have hE := ifP hc1 hE
    refine r_iconst 0 rfl ci_0 ?_
    first | exact r_sb (Me_from_b144_ok g N _ _ hrec _ hD _ hself_82  _ _ _ _ _ _ _ _ _ _ _ _ _ _ hE) ⟨rfl, rfl, rfl, rfl, rfl, rfl, rfl, rfl, rfl, rfl, trivial⟩ | exact r_sb (Me_from_b144_ok g N _ _ hrec _ hD _ hself_82  _ _ _ _ _ _ _ _ _ _ _ _ _ _ hE) (by simp only [su1, su2, dr1_rf, dr1_in, dr1_lo, dr2_rf, dr2_in, dr2_lo]; exact ⟨rfl, rfl, rfl, rfl, rfl, rfl, rfl, rfl, rfl, rfl, trivial⟩)
  · have hE := ifN hc1 hE
    refine r_aload_n (t := some a0) 0 rfl rfl rfl ?_
    refine r_aload_n (t := some a0) 0 rfl rfl rfl ?_
    obtain ⟨hk2, hE⟩ := ckE hE
    refine r_getI rfl (fl_2_15 rfl) (Or.inl rfl) rfl hk2 ?_
    refine r_iload_n 1 rfl rfl rfl ?_
    refine r_iload_n 2 rfl rfl rfl ?_
    refine r_iload_n 3 rfl rfl rfl ?_
    refine r_iload rfl rfl ?_
    obtain ⟨v3, h4, hq5, hE⟩ := bdE hE
    refine r_callV1 (rest := []) (hc := (Me_giveOf_ok g N _ _ _ _ _ _ _ _ _ hq5 D2 (by omega))) rfl pm_Me_giveOf lw_2_115 im_Me_giveOf sl_Me_giveOf rfl rfl rfl (rcOK hk2 rfl) (by decide) ?_
    refine r_goto (tgt := 144) rfl (by decide) ?_
    first | exact r_sb (Me_from_b144_ok g N _ _ hrec _ hD _ hself_82  _ _ _ _ _ _ _ _ _ _ _ _ _ _ hE) ⟨rfl, rfl, rfl, rfl, rfl, rfl, rfl, rfl, rfl, rfl, trivial⟩ | exact r_sb (Me_from_b144_ok g N _ _ hrec _ hD _ hself_82  _ _ _ _ _ _ _ _ _ _ _ _ _ _ hE) (by simp only [su1, su2, dr1_rf, dr1_in, dr1_lo, dr2_rf, dr2_in, dr2_lo]; exact ⟨rfl, rfl, rfl, rfl, rfl, rfl, rfl, rfl, rfl, rfl, trivial⟩)
def Me_from_b82 (N : Nat) (rec : Nat → Int32 → Int32 → Int32 → Int32 → PH → Option (Int32 × PH)) : Nat → Nat → Int32 → Int32 → Int32 → Int32 → Int32 → Int32 → Int32 → PH → Option (Int32 × PH)
  | 0 => fun _ _ _ _ _ _ _ _ _ => none
  | n + 1 => fun a0 x1 x2 x3 x4 x5 x6 x7 h =>
    if 3 < x7 then
      ck ((hK h a0).1 = 2) <|
      ck (¬ (10 : Int32) = 0) <|
      bd (Le_put N (hR h a0 5) x5 (x6 / 10) h) fun v4 h5 =>
      ck ((hK h5 a0).1 = 2) <|
      bd (Le_put N (hR h5 a0 6) x5 (hI h5 a0 7) h5) fun v8 h9 =>
      ck (¬ (10 : Int32) = 0) <|
      some ((x6 / 10), h9)
    else
      ck ((hK h a0).1 = 2) <|
      ((hR h a0 0)).bind fun a_13 =>
      ck ((hK h a_13).1 = 0) <|
      bd (Ho_chance N a_13 0 x1 x7 h) fun v16 h17 =>
      if v16 ≤ 0 then
        Me_from_b234 N rec (Me_from_b82 N rec n)  a0 x1 x2 x3 x4 x5 x6 x7 h17
      else
        if x4 = 0 then
          Me_from_b120 N rec (Me_from_b82 N rec n)  x7 a0 x1 x2 x3 x4 x5 x6 x7 v16 h17
        else
          Me_from_b120 N rec (Me_from_b82 N rec n)  (x7 + 1) a0 x1 x2 x3 x4 x5 x6 x7 v16 h17
set_option maxRecDepth 20000 in
theorem Me_from_b82_ok (g : GT) (N : Nat) (rec : Nat → Int32 → Int32 → Int32 → Int32 → PH → Option (Int32 × PH)) (K0 : Nat) (hrec : ∀ (a0 : Nat) (x1 : Int32) (x2 : Int32) (x3 : Int32) (x4 : Int32) (h : PH) (v : Int32) (h' : PH), rec a0 x1 x2 x3 x4 h = some (v, h') → ∀ D, K0 ≤ D → Calls g D pMe_from [va_rf (some a0), .int x1, .int x2, .int x3, .int x4] h (oI v) h') (D : Nat) (hD : 3 ≤ D ∧ K0 + 1 ≤ D) : ∀ (n : Nat) (a0 : Nat) (x1 : Int32) (x2 : Int32) (x3 : Int32) (x4 : Int32) (x5 : Int32) (x6 : Int32) (x7 : Int32) (h : PH) (v : Int32) (h' : PH), Me_from_b82 N rec n a0 x1 x2 x3 x4 x5 x6 x7 h = some (v, h') → Run g pMe_from D 82 [(0, va_rf (some a0)), (1, .int x1), (2, .int x2), (3, .int x3), (4, .int x4), (5, .int x5), (6, .int x6), (7, .int x7)] [] h (rI v) h' := by
  obtain ⟨D2, rfl⟩ : ∃ d, D = d + 1 := ⟨D - 1, by omega⟩
  intro n
  induction n with
  | zero => exact fun _ _ _ _ _ _ _ _ _ _ _ hE => nomatch (show none = some _ from hE)
  | succ n ih =>
    intro a0 x1 x2 x3 x4 x5 x6 x7 h v h' hE
    unfold Me_from_b82 at hE
    refine r_iload rfl rfl ?_
    refine r_iconst 3 rfl ci_3 ?_
    refine r_icmp_gt (tgt := 240) rfl (by decide) (fun hc1 => ?_) (fun hc1 => ?_)
    · have hE := ifP hc1 hE
      refine r_aload_n (t := some a0) 0 rfl rfl rfl ?_
      obtain ⟨hk2, hE⟩ := ckE hE
      refine r_getR rfl (fl_2_26 rfl) (Or.inr ⟨_, rfl⟩) rfl hk2 ?_
      refine r_iload rfl rfl ?_
      refine r_iload rfl rfl ?_
      refine r_bipush 10 rfl cb_10 ?_
      obtain ⟨hc3, hE⟩ := ckE hE
      refine r_idiv rfl hc3 ?_
      obtain ⟨v4, h5, hq6, hE⟩ := bdE hE
      refine r_callSN0 (rest := []) (hc := (Le_put_ok g N _ _ _ _ _ _ hq6 D2 (by omega))) rfl pm_Le_put lw_2_58 st_Le_put rfl rfl (by decide) ?_
      refine r_aload_n (t := some a0) 0 rfl rfl rfl ?_
      obtain ⟨hk7, hE⟩ := ckE hE
      refine r_getR rfl (fl_2_29 rfl) (Or.inr ⟨_, rfl⟩) rfl hk7 ?_
      refine r_iload rfl rfl ?_
      refine r_aload_n (t := some a0) 0 rfl rfl rfl ?_
      refine r_getI rfl (fl_2_32 rfl) (Or.inl rfl) rfl hk7 ?_
      obtain ⟨v8, h9, hq10, hE⟩ := bdE hE
      refine r_callSN0 (rest := []) (hc := (Le_put_ok g N _ _ _ _ _ _ hq10 D2 (by omega))) rfl pm_Le_put lw_2_58 st_Le_put rfl rfl (by decide) ?_
      refine r_iload rfl rfl ?_
      refine r_bipush 10 rfl cb_10 ?_
      obtain ⟨hc11, hE⟩ := ckE hE
      refine r_idiv rfl hc11 ?_
      cases hE
      exact r_ret rfl (Or.inl ⟨rfl, _, _, rfl, rfl, rfl, rfl⟩)
    · have hE := ifN hc1 hE
      refine r_aload_n (t := some a0) 0 rfl rfl rfl ?_
      obtain ⟨hk12, hE⟩ := ckE hE
      refine r_getR rfl (fl_2_35 rfl) (Or.inl ⟨_, rfl⟩) rfl hk12 ?_
      refine r_iconst 0 rfl ci_0 ?_
      refine r_iload_n 1 rfl rfl rfl ?_
      refine r_iload rfl rfl ?_
      obtain ⟨a_13, ha14, hE⟩ := bnE hE
      obtain ⟨hk15, hE⟩ := ckE hE
      obtain ⟨v16, h17, hq18, hE⟩ := bdE hE
      refine r_callV1 (rest := []) (hc := (Ho_chance_ok g N _ _ _ _ _ _ _ hq18 D2 (by omega))) rfl pm_Ho_chance lw_2_111 im_Ho_chance sl_Ho_chance ha14 rfl rfl (rcOK hk15 rfl) (by decide) ?_
      refine r_istore rfl (by decide) ?_
      refine r_iload rfl rfl ?_
      refine r_if_le (tgt := 234) rfl (by decide) (fun hc19 => ?_) (fun hc19 => ?_)
      · have hE := ifP hc19 hE
        first | exact r_sb (Me_from_b234_ok g N _ _ hrec _ hD _ ih  _ _ _ _ _ _ _ _ _ _ _ hE) ⟨rfl, rfl, rfl, rfl, rfl, rfl, rfl, rfl, trivial⟩ | exact r_sb (Me_from_b234_ok g N _ _ hrec _ hD _ ih  _ _ _ _ _ _ _ _ _ _ _ hE) (by simp only [su1, su2, dr1_rf, dr1_in, dr1_lo, dr2_rf, dr2_in, dr2_lo]; exact ⟨rfl, rfl, rfl, rfl, rfl, rfl, rfl, rfl, trivial⟩)
      · have hE := ifN hc19 hE
        refine r_iload rfl rfl ?_
        refine r_if_eq (tgt := 118) rfl (by decide) (fun hc20 => ?_) (fun hc20 => ?_)
        · have hE := ifP hc20 hE
          refine r_iload rfl rfl ?_
          first | exact r_sb (Me_from_b120_ok g N _ _ hrec _ hD _ ih  _ _ _ _ _ _ _ _ _ _ _ _ _ hE) ⟨rfl, rfl, rfl, rfl, rfl, rfl, rfl, rfl, rfl, trivial⟩ | exact r_sb (Me_from_b120_ok g N _ _ hrec _ hD _ ih  _ _ _ _ _ _ _ _ _ _ _ _ _ hE) (by simp only [su1, su2, dr1_rf, dr1_in, dr1_lo, dr2_rf, dr2_in, dr2_lo]; exact ⟨rfl, rfl, rfl, rfl, rfl, rfl, rfl, rfl, rfl, trivial⟩)
        · have hE := ifN hc20 hE
          refine r_iload rfl rfl ?_
          refine r_iconst 1 rfl ci_1 ?_
          refine r_iadd rfl ?_
          refine r_goto (tgt := 120) rfl (by decide) ?_
          first | exact r_sb (Me_from_b120_ok g N _ _ hrec _ hD _ ih  _ _ _ _ _ _ _ _ _ _ _ _ _ hE) ⟨rfl, rfl, rfl, rfl, rfl, rfl, rfl, rfl, rfl, trivial⟩ | exact r_sb (Me_from_b120_ok g N _ _ hrec _ hD _ ih  _ _ _ _ _ _ _ _ _ _ _ _ _ hE) (by simp only [su1, su2, dr1_rf, dr1_in, dr1_lo, dr2_rf, dr2_in, dr2_lo]; exact ⟨rfl, rfl, rfl, rfl, rfl, rfl, rfl, rfl, rfl, trivial⟩)
def Me_from (N : Nat) : Nat → Nat → Int32 → Int32 → Int32 → Int32 → PH → Option (Int32 × PH)
  | 0 => fun _ _ _ _ _ _ => none
  | n + 1 => fun a0 x1 x2 x3 x4 h =>
    ck ((hK h a0).1 = 2) <|
    if x1 < (hI h a0 3) then
      ((hR h a0 0)).bind fun a_3 =>
      ck ((hK h a_3).1 = 0) <|
      bd (Ho_placeOf N a_3 x1 x2 x3 x4 h) fun v6 h7 =>
      ck ((hK h7 a0).1 = 2) <|
      bd (Le_at N (hR h7 a0 6) v6 h7) fun v10 h11 =>
      ck ((hK h11 a0).1 = 2) <|
      if v10 = (hI h11 a0 7) then
        bd (Le_at N (hR h11 a0 5) v6 h11) fun v15 h16 =>
        some (v15, h16)
      else
        Me_from_b82 N (Me_from N n) N a0 x1 x2 x3 x4 v6 0 0 h11
    else
      if (bI (hZ h a0 4)) = 0 then
        ((hR h a0 0)).bind fun a_19 =>
        ck ((hK h a_19).1 = 0) <|
        bd (Ho_offWorth N a_19 (hI h a0 3) x2 h) fun v22 h23 =>
        some (v22, h23)
      else
        some ((1000 * x2), h)
set_option maxRecDepth 20000 in
theorem Me_from_ok (g : GT) (N : Nat) : ∀ (n : Nat) (a0 : Nat) (x1 : Int32) (x2 : Int32) (x3 : Int32) (x4 : Int32) (h : PH) (v : Int32) (h' : PH), Me_from N n a0 x1 x2 x3 x4 h = some (v, h') → ∀ D, 2 * n + 12 ≤ D → Calls g D pMe_from [va_rf (some a0), .int x1, .int x2, .int x3, .int x4] h (oI v) h' := by
  intro n
  induction n with
  | zero => exact fun _ _ _ _ _ _ _ _ hE => nomatch (show none = some _ from hE)
  | succ n hrec =>
    intro a0 x1 x2 x3 x4 h v h' hE D hD0
    have hD : 3 ≤ D ∧ 2 * n + 12 + 1 ≤ D := ⟨by omega, by omega⟩
    refine Calls.of cok_Me_from ht_Me_from pl_Me_from (fun ad => by rw [lg_len, sL_cat]; simp only [List.map_cons, List.map_nil, rf_cat, cat_i, cat_l, List.sum_cons, List.sum_nil]; decide) ?_
    rw [show lv_args 0 [va_rf (some a0), .int x1, .int x2, .int x3, .int x4] = [(0, va_rf (some a0)), (1, .int x1), (2, .int x2), (3, .int x3), (4, .int x4)] from (by simp only [lv_args, rf_cat, cat_i, cat_l]; try rfl)]
    obtain ⟨D2, rfl⟩ : ∃ d, D = d + 1 := ⟨D - 1, by omega⟩
    unfold Me_from at hE
    refine r_iload_n 1 rfl rfl rfl ?_
    refine r_aload_n (t := some a0) 0 rfl rfl rfl ?_
    obtain ⟨hk1, hE⟩ := ckE hE
    refine r_getI rfl (fl_2_19 rfl) (Or.inl rfl) rfl hk1 ?_
    refine r_icmp_lt (tgt := 36) rfl (by decide) (fun hc2 => ?_) (fun hc2 => ?_)
    · have hE := ifP hc2 hE
      refine r_aload_n (t := some a0) 0 rfl rfl rfl ?_
      refine r_getR rfl (fl_2_35 rfl) (Or.inl ⟨_, rfl⟩) rfl hk1 ?_
      refine r_iload_n 1 rfl rfl rfl ?_
      refine r_iload_n 2 rfl rfl rfl ?_
      refine r_iload_n 3 rfl rfl rfl ?_
      refine r_iload rfl rfl ?_
      obtain ⟨a_3, ha4, hE⟩ := bnE hE
      obtain ⟨hk5, hE⟩ := ckE hE
      obtain ⟨v6, h7, hq8, hE⟩ := bdE hE
      refine r_callV1 (rest := []) (hc := (Ho_placeOf_ok g N _ _ _ _ _ _ _ _ hq8 D2 (by omega))) rfl pm_Ho_placeOf lw_2_108 im_Ho_placeOf sl_Ho_placeOf ha4 rfl rfl (rcOK hk5 rfl) (by decide) ?_
      refine r_istore rfl (by decide) ?_
      refine r_aload_n (t := some a0) 0 rfl rfl rfl ?_
      obtain ⟨hk9, hE⟩ := ckE hE
      refine r_getR rfl (fl_2_29 rfl) (Or.inr ⟨_, rfl⟩) rfl hk9 ?_
      refine r_iload rfl rfl ?_
      obtain ⟨v10, h11, hq12, hE⟩ := bdE hE
      refine r_callSN1 (rest := []) (hc := (Le_at_ok g N _ _ _ _ _ hq12 D2 (by omega))) rfl pm_Le_at lw_2_51 st_Le_at rfl rfl (by decide) ?_
      refine r_aload_n (t := some a0) 0 rfl rfl rfl ?_
      obtain ⟨hk13, hE⟩ := ckE hE
      refine r_getI rfl (fl_2_32 rfl) (Or.inl rfl) rfl hk13 ?_
      refine r_icmp_ne (tgt := 76) rfl (by decide) (fun hc14 => ?_) (fun hc14 => ?_)
      · have hE := ifP hc14 hE
        refine r_aload_n (t := some a0) 0 rfl rfl rfl ?_
        refine r_getR rfl (fl_2_26 rfl) (Or.inr ⟨_, rfl⟩) rfl hk13 ?_
        refine r_iload rfl rfl ?_
        obtain ⟨v15, h16, hq17, hE⟩ := bdE hE
        refine r_callSN1 (rest := []) (hc := (Le_at_ok g N _ _ _ _ _ hq17 D2 (by omega))) rfl pm_Le_at lw_2_51 st_Le_at rfl rfl (by decide) ?_
        cases hE
        exact r_ret rfl (Or.inl ⟨rfl, _, _, rfl, rfl, rfl, rfl⟩)
      · have hE := ifN hc14 hE
        refine r_iconst 0 rfl ci_0 ?_
        refine r_istore rfl (by decide) ?_
        refine r_iconst 0 rfl ci_0 ?_
        refine r_istore rfl (by decide) ?_
        first | exact r_sb (Me_from_b82_ok g N _ _ hrec _ hD  N _ _ _ _ _ _ _ _ _ _ _ hE) ⟨rfl, rfl, rfl, rfl, rfl, rfl, rfl, rfl, trivial⟩ | exact r_sb (Me_from_b82_ok g N _ _ hrec _ hD  N _ _ _ _ _ _ _ _ _ _ _ hE) (by simp only [su1, su2, dr1_rf, dr1_in, dr1_lo, dr2_rf, dr2_in, dr2_lo]; exact ⟨rfl, rfl, rfl, rfl, rfl, rfl, rfl, rfl, trivial⟩)
    · have hE := ifN hc2 hE
      refine r_aload_n (t := some a0) 0 rfl rfl rfl ?_
      refine r_getZ rfl (fl_2_22 rfl) rfl hk1 ?_
      refine r_if_eq (tgt := 23) rfl (by decide) (fun hc18 => ?_) (fun hc18 => ?_)
      · have hE := ifP hc18 hE
        refine r_aload_n (t := some a0) 0 rfl rfl rfl ?_
        refine r_getR rfl (fl_2_35 rfl) (Or.inl ⟨_, rfl⟩) rfl hk1 ?_
        refine r_aload_n (t := some a0) 0 rfl rfl rfl ?_
        refine r_getI rfl (fl_2_19 rfl) (Or.inl rfl) rfl hk1 ?_
        refine r_iload_n 2 rfl rfl rfl ?_
        obtain ⟨a_19, ha20, hE⟩ := bnE hE
        obtain ⟨hk21, hE⟩ := ckE hE
        obtain ⟨v22, h23, hq24, hE⟩ := bdE hE
        refine r_callV1 (rest := []) (hc := (Ho_offWorth_ok g N _ _ _ _ _ _ hq24 D2 (by omega))) rfl pm_Ho_offWorth lw_2_105 im_Ho_offWorth sl_Ho_offWorth ha20 rfl rfl (rcOK hk21 rfl) (by decide) ?_
        cases hE
        exact r_ret rfl (Or.inl ⟨rfl, _, _, rfl, rfl, rfl, rfl⟩)
      · have hE := ifN hc18 hE
        refine r_sipush 1000 rfl cs_1000 ?_
        refine r_iload_n 2 rfl rfl rfl ?_
        refine r_imul rfl ?_
        refine r_goto (tgt := 35) rfl (by decide) ?_
        cases hE
        exact r_ret rfl (Or.inl ⟨rfl, _, _, rfl, rfl, rfl, rfl⟩)
def Me_ask (N : Nat) (a0 : Nat) (x1 : Int32) (x2 : Int32) (x3 : Option Nat) (h : PH) : Option (Int32 × PH) :=
  ck ((hK h a0).1 = 2) <|
  ((hR h a0 0)).bind fun a_2 =>
  ck ((hK h a_2).1 = 0) <|
  bd (Ho_size N a_2 h) fun v5 h6 =>
  bd (Le_roomFor N (hR h a0 5) v5 h6) fun v8 h9 =>
  ck ((hK h9 a0).1 = 2) <|
  lt0 (wR h9 a0 5 v8) fun h12 =>
  ((hR h12 a0 0)).bind fun a_14 =>
  ck ((hK h12 a_14).1 = 0) <|
  bd (Ho_size N a_14 h12) fun v17 h18 =>
  bd (Le_roomFor N (hR h12 a0 6) v17 h18) fun v20 h21 =>
  ck ((hK h21 a0).1 = 2) <|
  lt0 (wR h21 a0 6 v20) fun h24 =>
  lt0 (wI h24 a0 7 ((hI h24 a0 7) + 1)) fun h26 =>
  lt0 (wI h26 a0 2 x1) fun h28 =>
  lt0 (wI h28 a0 3 x2) fun h30 =>
  (x3).bind fun a_32 =>
  ck ((hK h30 a_32).1 = 3) <|
  bd ((Me_from N 26) a0 (hI h30 a_32 0) (hI h30 a_32 1) (hI h30 a_32 2) (bI (hZ h30 a_32 12)) h30) fun v35 h36 =>
  some (v35, h36)
set_option maxRecDepth 20000 in
theorem Me_ask_ok (g : GT) (N : Nat) (a0 : Nat) (x1 : Int32) (x2 : Int32) (x3 : Option Nat) (h : PH) (v : Int32) (h' : PH) (hE : Me_ask N a0 x1 x2 x3 h = some (v, h')) (D : Nat) (hD : 65 ≤ D) : Calls g D pMe_ask [va_rf (some a0), .int x1, .int x2, va_rf x3] h (oI v) h' := by
  refine Calls.of cok_Me_ask ht_Me_ask pl_Me_ask (fun ad => by rw [lg_len, sL_cat]; simp only [List.map_cons, List.map_nil, rf_cat, cat_i, cat_l, List.sum_cons, List.sum_nil]; decide) ?_
  rw [show lv_args 0 [va_rf (some a0), .int x1, .int x2, va_rf x3] = [(0, va_rf (some a0)), (1, .int x1), (2, .int x2), (3, va_rf x3)] from (by simp only [lv_args, rf_cat, cat_i, cat_l]; try rfl)]
  obtain ⟨D2, rfl⟩ : ∃ d, D = d + 1 := ⟨D - 1, by omega⟩
  unfold Me_ask at hE
  refine r_aload_n (t := some a0) 0 rfl rfl rfl ?_
  refine r_aload_n (t := some a0) 0 rfl rfl rfl ?_
  obtain ⟨hk1, hE⟩ := ckE hE
  refine r_getR rfl (fl_2_26 rfl) (Or.inr ⟨_, rfl⟩) rfl hk1 ?_
  refine r_aload_n (t := some a0) 0 rfl rfl rfl ?_
  refine r_getR rfl (fl_2_35 rfl) (Or.inl ⟨_, rfl⟩) rfl hk1 ?_
  obtain ⟨a_2, ha3, hE⟩ := bnE hE
  obtain ⟨hk4, hE⟩ := ckE hE
  obtain ⟨v5, h6, hq7, hE⟩ := bdE hE
  refine r_callV1 (rest := [va_rf (hR h a0 5), va_rf (some a0)]) (hc := (Ho_size_ok g N _ _ _ _ hq7 D2 (by omega))) rfl pm_Ho_size lw_2_79 im_Ho_size sl_Ho_size ha3 rfl rfl (rcOK hk4 rfl) (by simp only [List.map_cons, List.map_nil, rf_cat, cat_i, cat_l, List.sum_cons, List.sum_nil]; decide) ?_
  obtain ⟨v8, h9, hq10, hE⟩ := bdE hE
  refine r_callSN1 (rest := [va_rf (some a0)]) (hc := (Le_roomFor_ok g N _ _ _ _ _ hq10 D2 (by omega))) rfl pm_Le_roomFor lw_2_83 st_Le_roomFor rfl rfl (by simp only [List.map_cons, List.map_nil, rf_cat, cat_i, cat_l, List.sum_cons, List.sum_nil]; decide) ?_
  obtain ⟨hk11, hE⟩ := ckE hE
  obtain ⟨h12, he13, hE⟩ := ltE hE
  refine r_putR rfl (fl_2_26 rfl) (Or.inr ⟨_, rfl⟩) finF rfl hk11 he13 ?_
  refine r_aload_n (t := some a0) 0 rfl rfl rfl ?_
  refine r_aload_n (t := some a0) 0 rfl rfl rfl ?_
  refine r_getR rfl (fl_2_29 rfl) (Or.inr ⟨_, rfl⟩) rfl (kwR he13 hk11) ?_
  refine r_aload_n (t := some a0) 0 rfl rfl rfl ?_
  refine r_getR rfl (fl_2_35 rfl) (Or.inl ⟨_, rfl⟩) rfl (kwR he13 hk11) ?_
  obtain ⟨a_14, ha15, hE⟩ := bnE hE
  obtain ⟨hk16, hE⟩ := ckE hE
  obtain ⟨v17, h18, hq19, hE⟩ := bdE hE
  refine r_callV1 (rest := [va_rf (hR h12 a0 6), va_rf (some a0)]) (hc := (Ho_size_ok g N _ _ _ _ hq19 D2 (by omega))) rfl pm_Ho_size lw_2_79 im_Ho_size sl_Ho_size ha15 rfl rfl (rcOK hk16 rfl) (by simp only [List.map_cons, List.map_nil, rf_cat, cat_i, cat_l, List.sum_cons, List.sum_nil]; decide) ?_
  obtain ⟨v20, h21, hq22, hE⟩ := bdE hE
  refine r_callSN1 (rest := [va_rf (some a0)]) (hc := (Le_roomFor_ok g N _ _ _ _ _ hq22 D2 (by omega))) rfl pm_Le_roomFor lw_2_83 st_Le_roomFor rfl rfl (by simp only [List.map_cons, List.map_nil, rf_cat, cat_i, cat_l, List.sum_cons, List.sum_nil]; decide) ?_
  obtain ⟨hk23, hE⟩ := ckE hE
  obtain ⟨h24, he25, hE⟩ := ltE hE
  refine r_putR rfl (fl_2_29 rfl) (Or.inr ⟨_, rfl⟩) finF rfl hk23 he25 ?_
  refine r_aload_n (t := some a0) 0 rfl rfl rfl ?_
  refine r_dup rfl (rf_cat _) ?_
  refine r_getI rfl (fl_2_32 rfl) (Or.inl rfl) rfl (kwR he25 hk23) ?_
  refine r_iconst 1 rfl ci_1 ?_
  refine r_iadd rfl ?_
  obtain ⟨h26, he27, hE⟩ := ltE hE
  refine r_putI rfl (fl_2_32 rfl) finF rfl (kwR he25 hk23) he27 ?_
  refine r_aload_n (t := some a0) 0 rfl rfl rfl ?_
  refine r_iload_n 1 rfl rfl rfl ?_
  obtain ⟨h28, he29, hE⟩ := ltE hE
  refine r_putI rfl (fl_2_15 rfl) finF rfl (kwI he27 (kwR he25 hk23)) he29 ?_
  refine r_aload_n (t := some a0) 0 rfl rfl rfl ?_
  refine r_iload_n 2 rfl rfl rfl ?_
  obtain ⟨h30, he31, hE⟩ := ltE hE
  refine r_putI rfl (fl_2_19 rfl) finF rfl (kwI he29 (kwI he27 (kwR he25 hk23))) he31 ?_
  refine r_aload_n (t := some a0) 0 rfl rfl rfl ?_
  refine r_aload_n (t := x3) 3 rfl rfl rfl ?_
  obtain ⟨a_32, ha33, hE⟩ := bnE hE
  obtain ⟨hk34, hE⟩ := ckE hE
  refine r_getI rfl (fl_2_87 rfl) (Or.inl rfl) ha33 hk34 ?_
  refine r_aload_n (t := x3) 3 rfl rfl rfl ?_
  refine r_getI rfl (fl_2_92 rfl) (Or.inl rfl) ha33 hk34 ?_
  refine r_aload_n (t := x3) 3 rfl rfl rfl ?_
  refine r_getI rfl (fl_2_95 rfl) (Or.inl rfl) ha33 hk34 ?_
  refine r_aload_n (t := x3) 3 rfl rfl rfl ?_
  refine r_getZ rfl (fl_2_98 rfl) ha33 hk34 ?_
  obtain ⟨v35, h36, hq37, hE⟩ := bdE hE
  refine r_callV1 (rest := []) (hc := (Me_from_ok g N 26 _ _ _ _ _ _ _ _ hq37 D2 (by omega))) rfl pm_Me_from lw_2_101 im_Me_from sl_Me_from rfl rfl rfl (rcOK (kwI he31 (kwI he29 (kwI he27 (kwR he25 hk23)))) rfl) (by decide) ?_
  cases hE
  exact r_ret rfl (Or.inl ⟨rfl, _, _, rfl, rfl, rfl, rfl⟩)
def Me_worthOf (N : Nat) (a0 : Nat) (x1 : Int32) (x2 : Int32) (x3 : Option Nat) (h : PH) : Option (Int32 × PH) :=
  ck ((hK h a0).1 = 2) <|
  lt0 (wZ h a0 4 (tb 0)) fun h2 =>
  bd (Me_ask N a0 x1 x2 x3 h2) fun v4 h5 =>
  some (v4, h5)
set_option maxRecDepth 20000 in
theorem Me_worthOf_ok (g : GT) (N : Nat) (a0 : Nat) (x1 : Int32) (x2 : Int32) (x3 : Option Nat) (h : PH) (v : Int32) (h' : PH) (hE : Me_worthOf N a0 x1 x2 x3 h = some (v, h')) (D : Nat) (hD : 66 ≤ D) : Calls g D pMe_worthOf [va_rf (some a0), .int x1, .int x2, va_rf x3] h (oI v) h' := by
  refine Calls.of cok_Me_worthOf ht_Me_worthOf pl_Me_worthOf (fun ad => by rw [lg_len, sL_cat]; simp only [List.map_cons, List.map_nil, rf_cat, cat_i, cat_l, List.sum_cons, List.sum_nil]; decide) ?_
  rw [show lv_args 0 [va_rf (some a0), .int x1, .int x2, va_rf x3] = [(0, va_rf (some a0)), (1, .int x1), (2, .int x2), (3, va_rf x3)] from (by simp only [lv_args, rf_cat, cat_i, cat_l]; try rfl)]
  obtain ⟨D2, rfl⟩ : ∃ d, D = d + 1 := ⟨D - 1, by omega⟩
  unfold Me_worthOf at hE
  refine r_aload_n (t := some a0) 0 rfl rfl rfl ?_
  refine r_iconst 0 rfl ci_0 ?_
  obtain ⟨hk1, hE⟩ := ckE hE
  obtain ⟨h2, he3, hE⟩ := ltE hE
  refine r_putZ rfl (fl_2_22 rfl) finF rfl hk1 rfl he3 ?_
  refine r_aload_n (t := some a0) 0 rfl rfl rfl ?_
  refine r_iload_n 1 rfl rfl rfl ?_
  refine r_iload_n 2 rfl rfl rfl ?_
  refine r_aload_n (t := x3) 3 rfl rfl rfl ?_
  obtain ⟨v4, h5, hq6, hE⟩ := bdE hE
  refine r_callV1 (rest := []) (hc := (Me_ask_ok g N _ _ _ _ _ _ _ hq6 D2 (by omega))) rfl pm_Me_ask lw_2_39 im_Me_ask sl_Me_ask rfl rfl rfl (rcOK (kwZ he3 hk1) rfl) (by decide) ?_
  cases hE
  exact r_ret rfl (Or.inl ⟨rfl, _, _, rfl, rfl, rfl, rfl⟩)
def Sh_swap (N : Nat) (a0 : Nat) (h : PH) : Option (Unit × PH) :=
  ck ((hK h a0).1 = 7) <|
  lt0 (wR h a0 2 (hR h a0 3)) fun h2 =>
  lt0 (wR h2 a0 3 (hR h a0 2)) fun h4 =>
  some ((), h4)
set_option maxRecDepth 20000 in
theorem Sh_swap_ok (g : GT) (N : Nat) (a0 : Nat) (h : PH) (v : Unit) (h' : PH) (hE : Sh_swap N a0 h = some (v, h')) (D : Nat) (hD : 0 ≤ D) : Calls g D pSh_swap [va_rf (some a0)] h (oV v) h' := by
  refine Calls.of cok_Sh_swap ht_Sh_swap pl_Sh_swap (fun ad => by rw [lg_len, sL_cat]; simp only [List.map_cons, List.map_nil, rf_cat, cat_i, cat_l, List.sum_cons, List.sum_nil]; decide) ?_
  rw [show lv_args 0 [va_rf (some a0)] = [(0, va_rf (some a0))] from (by simp only [lv_args, rf_cat, cat_i, cat_l]; try rfl)]
  unfold Sh_swap at hE
  refine r_aload_n (t := some a0) 0 rfl rfl rfl ?_
  obtain ⟨hk1, hE⟩ := ckE hE
  refine r_getR rfl (fl_7_15 rfl) (Or.inr ⟨_, rfl⟩) rfl hk1 ?_
  refine r_astore_n 1 rfl rfl (by decide) ?_
  refine r_aload_n (t := some a0) 0 rfl rfl rfl ?_
  refine r_aload_n (t := some a0) 0 rfl rfl rfl ?_
  refine r_getR rfl (fl_7_18 rfl) (Or.inr ⟨_, rfl⟩) rfl hk1 ?_
  obtain ⟨h2, he3, hE⟩ := ltE hE
  refine r_putR rfl (fl_7_15 rfl) (Or.inr ⟨_, rfl⟩) finF rfl hk1 he3 ?_
  refine r_aload_n (t := some a0) 0 rfl rfl rfl ?_
  refine r_aload_n (t := (hR h a0 2)) 1 rfl rfl rfl ?_
  obtain ⟨h4, he5, hE⟩ := ltE hE
  refine r_putR rfl (fl_7_18 rfl) (Or.inr ⟨_, rfl⟩) finF rfl (kwR he3 hk1) he5 ?_
  cases hE
  exact r_ret rfl (Or.inr (Or.inr (Or.inr ⟨rfl, rfl, rfl, rfl⟩)))
def Sh_sureMean_b93 (N : Nat) (self_6 : Nat → Int32 → Int32 → Int32 → Int32 → Int32 → Int32 → PH → Option (Int32 × PH)) (a0 : Nat) (x1 : Int32) (x2 : Int32) (x3 : Int32) (x4 : Int32) (x5 : Int32) (x6 : Int32) (h : PH) : Option (Int32 × PH) :=
  self_6 a0 x1 x2 x3 x4 x5 (x6 + 1) h
set_option maxRecDepth 20000 in
theorem Sh_sureMean_b93_ok (g : GT) (N : Nat) (D : Nat) (hD : 2 ≤ D) (self_6 : Nat → Int32 → Int32 → Int32 → Int32 → Int32 → Int32 → PH → Option (Int32 × PH)) (hself_6 : ∀ (a0 : Nat) (x1 : Int32) (x2 : Int32) (x3 : Int32) (x4 : Int32) (x5 : Int32) (x6 : Int32) (h : PH) (v : Int32) (h' : PH), self_6 a0 x1 x2 x3 x4 x5 x6 h = some (v, h') → Run g pSh_sureMean D 6 [(0, va_rf (some a0)), (1, .int x1), (2, .int x2), (3, .int x3), (4, .int x4), (5, .int x5), (6, .int x6)] [] h (rI v) h') : ∀ (a0 : Nat) (x1 : Int32) (x2 : Int32) (x3 : Int32) (x4 : Int32) (x5 : Int32) (x6 : Int32) (h : PH) (v : Int32) (h' : PH), Sh_sureMean_b93 N self_6 a0 x1 x2 x3 x4 x5 x6 h = some (v, h') → Run g pSh_sureMean D 93 [(0, va_rf (some a0)), (1, .int x1), (2, .int x2), (3, .int x3), (4, .int x4), (5, .int x5), (6, .int x6)] [] h (rI v) h' := by
  obtain ⟨D2, rfl⟩ : ∃ d, D = d + 1 := ⟨D - 1, by omega⟩
  intro a0 x1 x2 x3 x4 x5 x6 h v h' hE
  unfold Sh_sureMean_b93 at hE
  refine r_iinc _ rfl rfl (congrArg _ ci_1) (by decide) ?_
  refine r_goto (tgt := 6) rfl (by decide) ?_
  first | exact r_sb (hself_6 _ _ _ _ _ _ _ _ _ _ hE) ⟨rfl, rfl, rfl, rfl, rfl, rfl, rfl, trivial⟩ | exact r_sb (hself_6 _ _ _ _ _ _ _ _ _ _ hE) (by simp only [su1, su2, dr1_rf, dr1_in, dr1_lo, dr2_rf, dr2_in, dr2_lo]; exact ⟨rfl, rfl, rfl, rfl, rfl, rfl, rfl, trivial⟩)
def Sh_sureMean_b85 (N : Nat) (self_6 : Nat → Int32 → Int32 → Int32 → Int32 → Int32 → Int32 → PH → Option (Int32 × PH)) (s0 : Int32) (s1 : Int32) (s2 : Option Nat) (s3 : Int32) (s4 : Int32) (a0 : Nat) (x1 : Int32) (x2 : Int32) (x3 : Int32) (x4 : Int32) (x6 : Int32) (h : PH) : Option (Int32 × PH) :=
  bd (Le_at N s2 (s3 + s4) h) fun v1 h2 =>
  Sh_sureMean_b93 N self_6  a0 x1 x2 x3 x4 (s0 + (s1 * v1)) x6 h2
set_option maxRecDepth 20000 in
theorem Sh_sureMean_b85_ok (g : GT) (N : Nat) (D : Nat) (hD : 2 ≤ D) (self_6 : Nat → Int32 → Int32 → Int32 → Int32 → Int32 → Int32 → PH → Option (Int32 × PH)) (hself_6 : ∀ (a0 : Nat) (x1 : Int32) (x2 : Int32) (x3 : Int32) (x4 : Int32) (x5 : Int32) (x6 : Int32) (h : PH) (v : Int32) (h' : PH), self_6 a0 x1 x2 x3 x4 x5 x6 h = some (v, h') → Run g pSh_sureMean D 6 [(0, va_rf (some a0)), (1, .int x1), (2, .int x2), (3, .int x3), (4, .int x4), (5, .int x5), (6, .int x6)] [] h (rI v) h') : ∀ (s0 : Int32) (s1 : Int32) (s2 : Option Nat) (s3 : Int32) (s4 : Int32) (a0 : Nat) (x1 : Int32) (x2 : Int32) (x3 : Int32) (x4 : Int32) (x6 : Int32) (h : PH) (v : Int32) (h' : PH), Sh_sureMean_b85 N self_6 s0 s1 s2 s3 s4 a0 x1 x2 x3 x4 x6 h = some (v, h') → Run g pSh_sureMean D 85 [(0, va_rf (some a0)), (1, .int x1), (2, .int x2), (3, .int x3), (4, .int x4), (6, .int x6)] [.int s4, .int s3, va_rf s2, .int s1, .int s0] h (rI v) h' := by
  obtain ⟨D2, rfl⟩ : ∃ d, D = d + 1 := ⟨D - 1, by omega⟩
  intro s0 s1 s2 s3 s4 a0 x1 x2 x3 x4 x6 h v h' hE
  unfold Sh_sureMean_b85 at hE
  refine r_iadd rfl ?_
  obtain ⟨v1, h2, hq3, hE⟩ := bdE hE
  refine r_callSN1 (rest := [.int s1, .int s0]) (hc := (Le_at_ok g N _ _ _ _ _ hq3 D2 (by omega))) rfl pm_Le_at lw_7_42 st_Le_at rfl rfl (by simp only [List.map_cons, List.map_nil, rf_cat, cat_i, cat_l, List.sum_cons, List.sum_nil]; decide) ?_
  refine r_imul rfl ?_
  refine r_iadd rfl ?_
  refine r_istore rfl (by decide) ?_
  first | exact r_sb (Sh_sureMean_b93_ok g N _ hD _ hself_6  _ _ _ _ _ _ _ _ _ _ hE) ⟨rfl, rfl, rfl, rfl, rfl, rfl, rfl, trivial⟩ | exact r_sb (Sh_sureMean_b93_ok g N _ hD _ hself_6  _ _ _ _ _ _ _ _ _ _ hE) (by simp only [su1, su2, dr1_rf, dr1_in, dr1_lo, dr2_rf, dr2_in, dr2_lo]; exact ⟨rfl, rfl, rfl, rfl, rfl, rfl, rfl, trivial⟩)
def Sh_sureMean_b34 (N : Nat) (self_6 : Nat → Int32 → Int32 → Int32 → Int32 → Int32 → Int32 → PH → Option (Int32 × PH)) (a0 : Nat) (x1 : Int32) (x2 : Int32) (x3 : Int32) (x4 : Int32) (x5 : Int32) (x6 : Int32) (x7 : Int32) (h : PH) : Option (Int32 × PH) :=
  ck ((hK h a0).1 = 7) <|
  ((hR h a0 1)).bind fun a_2 =>
  ck ((hK h a_2).1 = 0) <|
  bd (Ho_chance N a_2 0 x1 x6 h) fun v5 h6 =>
  ck ((hK h6 a0).1 = 7) <|
  ((hR h6 a0 1)).bind fun a_9 =>
  ck ((hK h6 a_9).1 = 0) <|
  bd (Ho_spreads N a_9 x7 x2 h6) fun v12 h13 =>
  if (bI v12) = 0 then
    Sh_sureMean_b85 N self_6  x5 v5 (hR h6 a0 3) ((mxI 0 (x3 - (x2 * x7))) * 2) 0 a0 x1 x2 x3 x4 x6 h13
  else
    Sh_sureMean_b85 N self_6  x5 v5 (hR h6 a0 3) ((mxI 0 (x3 - (x2 * x7))) * 2) 1 a0 x1 x2 x3 x4 x6 h13
set_option maxRecDepth 20000 in
theorem Sh_sureMean_b34_ok (g : GT) (N : Nat) (D : Nat) (hD : 2 ≤ D) (self_6 : Nat → Int32 → Int32 → Int32 → Int32 → Int32 → Int32 → PH → Option (Int32 × PH)) (hself_6 : ∀ (a0 : Nat) (x1 : Int32) (x2 : Int32) (x3 : Int32) (x4 : Int32) (x5 : Int32) (x6 : Int32) (h : PH) (v : Int32) (h' : PH), self_6 a0 x1 x2 x3 x4 x5 x6 h = some (v, h') → Run g pSh_sureMean D 6 [(0, va_rf (some a0)), (1, .int x1), (2, .int x2), (3, .int x3), (4, .int x4), (5, .int x5), (6, .int x6)] [] h (rI v) h') : ∀ (a0 : Nat) (x1 : Int32) (x2 : Int32) (x3 : Int32) (x4 : Int32) (x5 : Int32) (x6 : Int32) (x7 : Int32) (h : PH) (v : Int32) (h' : PH), Sh_sureMean_b34 N self_6 a0 x1 x2 x3 x4 x5 x6 x7 h = some (v, h') → Run g pSh_sureMean D 34 [(0, va_rf (some a0)), (1, .int x1), (2, .int x2), (3, .int x3), (4, .int x4), (5, .int x5), (6, .int x6), (7, .int x7)] [] h (rI v) h' := by
  obtain ⟨D2, rfl⟩ : ∃ d, D = d + 1 := ⟨D - 1, by omega⟩
  intro a0 x1 x2 x3 x4 x5 x6 x7 h v h' hE
  unfold Sh_sureMean_b34 at hE
  refine r_iconst 0 rfl ci_0 ?_
  refine r_iload_n 3 rfl rfl rfl ?_
  refine r_iload_n 2 rfl rfl rfl ?_
  refine r_iload rfl rfl ?_
  refine r_imul rfl ?_
  refine r_isub rfl ?_
  refine r_mmax rfl (gt5 49 rfl rfl) mm_max1 mm_2 mm_max3 (by decide) ?_
  refine r_istore rfl (by decide) ?_
  refine r_iload rfl rfl ?_
  refine r_aload_n (t := some a0) 0 rfl rfl rfl ?_
  obtain ⟨hk1, hE⟩ := ckE hE
  refine r_getR rfl (fl_7_21 rfl) (Or.inl ⟨_, rfl⟩) rfl hk1 ?_
  refine r_iconst 0 rfl ci_0 ?_
  refine r_iload_n 1 rfl rfl rfl ?_
  refine r_iload rfl rfl ?_
  obtain ⟨a_2, ha3, hE⟩ := bnE hE
  obtain ⟨hk4, hE⟩ := ckE hE
  obtain ⟨v5, h6, hq7, hE⟩ := bdE hE
  refine r_callV1 (rest := [.int x5]) (hc := (Ho_chance_ok g N _ _ _ _ _ _ _ hq7 D2 (by omega))) rfl pm_Ho_chance lw_7_76 im_Ho_chance sl_Ho_chance ha3 rfl rfl (rcOK hk4 rfl) (by simp only [List.map_cons, List.map_nil, rf_cat, cat_i, cat_l, List.sum_cons, List.sum_nil]; decide) ?_
  refine r_aload_n (t := some a0) 0 rfl rfl rfl ?_
  obtain ⟨hk8, hE⟩ := ckE hE
  refine r_getR rfl (fl_7_18 rfl) (Or.inr ⟨_, rfl⟩) rfl hk8 ?_
  refine r_iload rfl rfl ?_
  refine r_iconst 2 rfl ci_2 ?_
  refine r_imul rfl ?_
  refine r_aload_n (t := some a0) 0 rfl rfl rfl ?_
  refine r_getR rfl (fl_7_21 rfl) (Or.inl ⟨_, rfl⟩) rfl hk8 ?_
  refine r_iload rfl rfl ?_
  refine r_iload_n 2 rfl rfl rfl ?_
  obtain ⟨a_9, ha10, hE⟩ := bnE hE
  obtain ⟨hk11, hE⟩ := ckE hE
  obtain ⟨v12, h13, hq14, hE⟩ := bdE hE
  refine r_callV1 (rest := [.int ((mxI 0 (x3 - (x2 * x7))) * 2), va_rf (hR h6 a0 3), .int v5, .int x5]) (hc := (Ho_spreads_ok g N _ _ _ _ _ _ hq14 D2 (by omega))) rfl pm_Ho_spreads lw_7_80 im_Ho_spreads sl_Ho_spreads ha10 rfl rfl (rcOK hk11 rfl) (by simp only [List.map_cons, List.map_nil, rf_cat, cat_i, cat_l, List.sum_cons, List.sum_nil]; decide) ?_
  refine r_if_eq (tgt := 84) rfl (by decide) (fun hc15 => ?_) (fun hc15 => ?_)
  · have hE := ifP hc15 hE
    refine r_iconst 0 rfl ci_0 ?_
    first | exact r_sb (Sh_sureMean_b85_ok g N _ hD _ hself_6  _ _ _ _ _ _ _ _ _ _ _ _ _ _ hE) ⟨rfl, rfl, rfl, rfl, rfl, rfl, trivial⟩ | exact r_sb (Sh_sureMean_b85_ok g N _ hD _ hself_6  _ _ _ _ _ _ _ _ _ _ _ _ _ _ hE) (by simp only [su1, su2, dr1_rf, dr1_in, dr1_lo, dr2_rf, dr2_in, dr2_lo]; exact ⟨rfl, rfl, rfl, rfl, rfl, rfl, trivial⟩)
  · have hE := ifN hc15 hE
    refine r_iconst 1 rfl ci_1 ?_
    refine r_goto (tgt := 85) rfl (by decide) ?_
    first | exact r_sb (Sh_sureMean_b85_ok g N _ hD _ hself_6  _ _ _ _ _ _ _ _ _ _ _ _ _ _ hE) ⟨rfl, rfl, rfl, rfl, rfl, rfl, trivial⟩ | exact r_sb (Sh_sureMean_b85_ok g N _ hD _ hself_6  _ _ _ _ _ _ _ _ _ _ _ _ _ _ hE) (by simp only [su1, su2, dr1_rf, dr1_in, dr1_lo, dr2_rf, dr2_in, dr2_lo]; exact ⟨rfl, rfl, rfl, rfl, rfl, rfl, trivial⟩)
def Sh_sureMean_b6 (N : Nat) : Nat → Nat → Int32 → Int32 → Int32 → Int32 → Int32 → Int32 → PH → Option (Int32 × PH)
  | 0 => fun _ _ _ _ _ _ _ _ => none
  | n + 1 => fun a0 x1 x2 x3 x4 x5 x6 h =>
    if 3 < x6 then
      ck (¬ (10 : Int32) = 0) <|
      some ((x5 / 10), h)
    else
      if (x6 + x4) = 0 then
        Sh_sureMean_b34 N (Sh_sureMean_b6 N n)  a0 x1 x2 x3 x4 x5 x6 (x6 + x4) h
      else
        if x3 ≤ (x2 * ((x6 + x4) - 1)) then
          Sh_sureMean_b93 N (Sh_sureMean_b6 N n)  a0 x1 x2 x3 x4 x5 x6 h
        else
          Sh_sureMean_b34 N (Sh_sureMean_b6 N n)  a0 x1 x2 x3 x4 x5 x6 (x6 + x4) h
set_option maxRecDepth 20000 in
theorem Sh_sureMean_b6_ok (g : GT) (N : Nat) (D : Nat) (hD : 2 ≤ D) : ∀ (n : Nat) (a0 : Nat) (x1 : Int32) (x2 : Int32) (x3 : Int32) (x4 : Int32) (x5 : Int32) (x6 : Int32) (h : PH) (v : Int32) (h' : PH), Sh_sureMean_b6 N n a0 x1 x2 x3 x4 x5 x6 h = some (v, h') → Run g pSh_sureMean D 6 [(0, va_rf (some a0)), (1, .int x1), (2, .int x2), (3, .int x3), (4, .int x4), (5, .int x5), (6, .int x6)] [] h (rI v) h' := by
  obtain ⟨D2, rfl⟩ : ∃ d, D = d + 1 := ⟨D - 1, by omega⟩
  intro n
  induction n with
  | zero => exact fun _ _ _ _ _ _ _ _ _ _ hE => nomatch (show none = some _ from hE)
  | succ n ih =>
    intro a0 x1 x2 x3 x4 x5 x6 h v h' hE
    unfold Sh_sureMean_b6 at hE
    refine r_iload rfl rfl ?_
    refine r_iconst 3 rfl ci_3 ?_
    refine r_icmp_gt (tgt := 99) rfl (by decide) (fun hc1 => ?_) (fun hc1 => ?_)
    · have hE := ifP hc1 hE
      refine r_iload rfl rfl ?_
      refine r_bipush 10 rfl cb_10 ?_
      obtain ⟨hc2, hE⟩ := ckE hE
      refine r_idiv rfl hc2 ?_
      cases hE
      exact r_ret rfl (Or.inl ⟨rfl, _, _, rfl, rfl, rfl, rfl⟩)
    · have hE := ifN hc1 hE
      refine r_iload rfl rfl ?_
      refine r_iload rfl rfl ?_
      refine r_iadd rfl ?_
      refine r_istore rfl (by decide) ?_
      refine r_iload rfl rfl ?_
      refine r_if_eq (tgt := 34) rfl (by decide) (fun hc3 => ?_) (fun hc3 => ?_)
      · have hE := ifP hc3 hE
        first | exact r_sb (Sh_sureMean_b34_ok g N _ hD _ ih  _ _ _ _ _ _ _ _ _ _ _ hE) ⟨rfl, rfl, rfl, rfl, rfl, rfl, rfl, rfl, trivial⟩ | exact r_sb (Sh_sureMean_b34_ok g N _ hD _ ih  _ _ _ _ _ _ _ _ _ _ _ hE) (by simp only [su1, su2, dr1_rf, dr1_in, dr1_lo, dr2_rf, dr2_in, dr2_lo]; exact ⟨rfl, rfl, rfl, rfl, rfl, rfl, rfl, rfl, trivial⟩)
      · have hE := ifN hc3 hE
        refine r_iload_n 3 rfl rfl rfl ?_
        refine r_iload_n 2 rfl rfl rfl ?_
        refine r_iload rfl rfl ?_
        refine r_iconst 1 rfl ci_1 ?_
        refine r_isub rfl ?_
        refine r_imul rfl ?_
        refine r_icmp_le (tgt := 93) rfl (by decide) (fun hc4 => ?_) (fun hc4 => ?_)
        · have hE := ifP hc4 hE
          first | exact r_sb (Sh_sureMean_b93_ok g N _ hD _ ih  _ _ _ _ _ _ _ _ _ _ hE) ⟨rfl, rfl, rfl, rfl, rfl, rfl, rfl, trivial⟩ | exact r_sb (Sh_sureMean_b93_ok g N _ hD _ ih  _ _ _ _ _ _ _ _ _ _ hE) (by simp only [su1, su2, dr1_rf, dr1_in, dr1_lo, dr2_rf, dr2_in, dr2_lo]; exact ⟨rfl, rfl, rfl, rfl, rfl, rfl, rfl, trivial⟩)
        · have hE := ifN hc4 hE
          first | exact r_sb (Sh_sureMean_b34_ok g N _ hD _ ih  _ _ _ _ _ _ _ _ _ _ _ hE) ⟨rfl, rfl, rfl, rfl, rfl, rfl, rfl, rfl, trivial⟩ | exact r_sb (Sh_sureMean_b34_ok g N _ hD _ ih  _ _ _ _ _ _ _ _ _ _ _ hE) (by simp only [su1, su2, dr1_rf, dr1_in, dr1_lo, dr2_rf, dr2_in, dr2_lo]; exact ⟨rfl, rfl, rfl, rfl, rfl, rfl, rfl, rfl, trivial⟩)
def Sh_sureMean (N : Nat) (a0 : Nat) (x1 : Int32) (x2 : Int32) (x3 : Int32) (x4 : Int32) (h : PH) : Option (Int32 × PH) :=
  Sh_sureMean_b6 N N a0 x1 x2 x3 x4 0 0 h
set_option maxRecDepth 20000 in
theorem Sh_sureMean_ok (g : GT) (N : Nat) (a0 : Nat) (x1 : Int32) (x2 : Int32) (x3 : Int32) (x4 : Int32) (h : PH) (v : Int32) (h' : PH) (hE : Sh_sureMean N a0 x1 x2 x3 x4 h = some (v, h')) (D : Nat) (hD : 2 ≤ D) : Calls g D pSh_sureMean [va_rf (some a0), .int x1, .int x2, .int x3, .int x4] h (oI v) h' := by
  refine Calls.of cok_Sh_sureMean ht_Sh_sureMean pl_Sh_sureMean (fun ad => by rw [lg_len, sL_cat]; simp only [List.map_cons, List.map_nil, rf_cat, cat_i, cat_l, List.sum_cons, List.sum_nil]; decide) ?_
  rw [show lv_args 0 [va_rf (some a0), .int x1, .int x2, .int x3, .int x4] = [(0, va_rf (some a0)), (1, .int x1), (2, .int x2), (3, .int x3), (4, .int x4)] from (by simp only [lv_args, rf_cat, cat_i, cat_l]; try rfl)]
  obtain ⟨D2, rfl⟩ : ∃ d, D = d + 1 := ⟨D - 1, by omega⟩
  unfold Sh_sureMean at hE
  refine r_iconst 0 rfl ci_0 ?_
  refine r_istore rfl (by decide) ?_
  refine r_iconst 0 rfl ci_0 ?_
  refine r_istore rfl (by decide) ?_
  first | exact r_sb (Sh_sureMean_b6_ok g N _ hD  N _ _ _ _ _ _ _ _ _ _ hE) ⟨rfl, rfl, rfl, rfl, rfl, rfl, rfl, trivial⟩ | exact r_sb (Sh_sureMean_b6_ok g N _ hD  N _ _ _ _ _ _ _ _ _ _ hE) (by simp only [su1, su2, dr1_rf, dr1_in, dr1_lo, dr2_rf, dr2_in, dr2_lo]; exact ⟨rfl, rfl, rfl, rfl, rfl, rfl, rfl, trivial⟩)
def Sh_goBack_b47 (N : Nat) (self_35 : Nat → Int32 → Int32 → Int32 → PH → Option (Unit × PH)) : Nat → Nat → Int32 → Int32 → Int32 → Int32 → PH → Option (Unit × PH)
  | 0 => fun _ _ _ _ _ _ => none
  | n + 1 => fun a0 x1 x2 x3 x4 h =>
    ck ((hK h a0).1 = 7) <|
    ((hR h a0 1)).bind fun a_2 =>
    ck ((hK h a_2).1 = 0) <|
    if (hI h a_2 1) < x4 then
      self_35 a0 x1 x2 (x3 + (-1)) h
    else
      bd (Sh_sureMean N a0 x3 x1 x4 0 h) fun v6 h7 =>
      bd (Le_put N (hR h a0 2) (x4 * 2) v6 h7) fun v9 h10 =>
      ck ((hK h10 a0).1 = 7) <|
      bd (Sh_sureMean N a0 x3 x1 x4 1 h10) fun v13 h14 =>
      bd (Le_put N (hR h10 a0 2) ((x4 * 2) + 1) v13 h14) fun v16 h17 =>
      (Sh_goBack_b47 N self_35 n) a0 x1 x2 x3 (x4 + 1) h17
set_option maxRecDepth 20000 in
theorem Sh_goBack_b47_ok (g : GT) (N : Nat) (D : Nat) (hD : 3 ≤ D) (self_35 : Nat → Int32 → Int32 → Int32 → PH → Option (Unit × PH)) (hself_35 : ∀ (a0 : Nat) (x1 : Int32) (x2 : Int32) (x3 : Int32) (h : PH) (v : Unit) (h' : PH), self_35 a0 x1 x2 x3 h = some (v, h') → Run g pSh_goBack D 35 [(0, va_rf (some a0)), (1, .int x1), (2, .int x2), (3, .int x3)] [] h (rV v) h') : ∀ (n : Nat) (a0 : Nat) (x1 : Int32) (x2 : Int32) (x3 : Int32) (x4 : Int32) (h : PH) (v : Unit) (h' : PH), Sh_goBack_b47 N self_35 n a0 x1 x2 x3 x4 h = some (v, h') → Run g pSh_goBack D 47 [(0, va_rf (some a0)), (1, .int x1), (2, .int x2), (3, .int x3), (4, .int x4)] [] h (rV v) h' := by
  obtain ⟨D2, rfl⟩ : ∃ d, D = d + 1 := ⟨D - 1, by omega⟩
  intro n
  induction n with
  | zero => exact fun _ _ _ _ _ _ _ _ hE => nomatch (show none = some _ from hE)
  | succ n ih =>
    intro a0 x1 x2 x3 x4 h v h' hE
    unfold Sh_goBack_b47 at hE
    refine r_iload rfl rfl ?_
    refine r_aload_n (t := some a0) 0 rfl rfl rfl ?_
    obtain ⟨hk1, hE⟩ := ckE hE
    refine r_getR rfl (fl_7_21 rfl) (Or.inl ⟨_, rfl⟩) rfl hk1 ?_
    obtain ⟨a_2, ha3, hE⟩ := bnE hE
    obtain ⟨hk4, hE⟩ := ckE hE
    refine r_getI rfl (fl_7_46 rfl) (Or.inl rfl) ha3 hk4 ?_
    refine r_icmp_gt (tgt := 107) rfl (by decide) (fun hc5 => ?_) (fun hc5 => ?_)
    · have hE := ifP hc5 hE
      refine r_iinc _ rfl rfl (congrArg _ ci_m1) (by decide) ?_
      refine r_goto (tgt := 35) rfl (by decide) ?_
      first | exact r_sb (hself_35 _ _ _ _ _ _ _ hE) ⟨rfl, rfl, rfl, rfl, trivial⟩ | exact r_sb (hself_35 _ _ _ _ _ _ _ hE) (by simp only [su1, su2, dr1_rf, dr1_in, dr1_lo, dr2_rf, dr2_in, dr2_lo]; exact ⟨rfl, rfl, rfl, rfl, trivial⟩)
    · have hE := ifN hc5 hE
      refine r_aload_n (t := some a0) 0 rfl rfl rfl ?_
      refine r_getR rfl (fl_7_15 rfl) (Or.inr ⟨_, rfl⟩) rfl hk1 ?_
      refine r_iload rfl rfl ?_
      refine r_iconst 2 rfl ci_2 ?_
      refine r_imul rfl ?_
      refine r_aload_n (t := some a0) 0 rfl rfl rfl ?_
      refine r_iload_n 3 rfl rfl rfl ?_
      refine r_iload_n 1 rfl rfl rfl ?_
      refine r_iload rfl rfl ?_
      refine r_iconst 0 rfl ci_0 ?_
      obtain ⟨v6, h7, hq8, hE⟩ := bdE hE
      refine r_callV1 (rest := [.int (x4 * 2), va_rf (hR h a0 2)]) (hc := (Sh_sureMean_ok g N _ _ _ _ _ _ _ _ hq8 D2 (by omega))) rfl pm_Sh_sureMean lw_7_62 im_Sh_sureMean sl_Sh_sureMean rfl rfl rfl (rcOK hk1 rfl) (by simp only [List.map_cons, List.map_nil, rf_cat, cat_i, cat_l, List.sum_cons, List.sum_nil]; decide) ?_
      obtain ⟨v9, h10, hq11, hE⟩ := bdE hE
      refine r_callSN0 (rest := []) (hc := (Le_put_ok g N _ _ _ _ _ _ hq11 D2 (by omega))) rfl pm_Le_put lw_7_66 st_Le_put rfl rfl (by decide) ?_
      refine r_aload_n (t := some a0) 0 rfl rfl rfl ?_
      obtain ⟨hk12, hE⟩ := ckE hE
      refine r_getR rfl (fl_7_15 rfl) (Or.inr ⟨_, rfl⟩) rfl hk12 ?_
      refine r_iload rfl rfl ?_
      refine r_iconst 2 rfl ci_2 ?_
      refine r_imul rfl ?_
      refine r_iconst 1 rfl ci_1 ?_
      refine r_iadd rfl ?_
      refine r_aload_n (t := some a0) 0 rfl rfl rfl ?_
      refine r_iload_n 3 rfl rfl rfl ?_
      refine r_iload_n 1 rfl rfl rfl ?_
      refine r_iload rfl rfl ?_
      refine r_iconst 1 rfl ci_1 ?_
      obtain ⟨v13, h14, hq15, hE⟩ := bdE hE
      refine r_callV1 (rest := [.int ((x4 * 2) + 1), va_rf (hR h10 a0 2)]) (hc := (Sh_sureMean_ok g N _ _ _ _ _ _ _ _ hq15 D2 (by omega))) rfl pm_Sh_sureMean lw_7_62 im_Sh_sureMean sl_Sh_sureMean rfl rfl rfl (rcOK hk12 rfl) (by simp only [List.map_cons, List.map_nil, rf_cat, cat_i, cat_l, List.sum_cons, List.sum_nil]; decide) ?_
      obtain ⟨v16, h17, hq18, hE⟩ := bdE hE
      refine r_callSN0 (rest := []) (hc := (Le_put_ok g N _ _ _ _ _ _ hq18 D2 (by omega))) rfl pm_Le_put lw_7_66 st_Le_put rfl rfl (by decide) ?_
      refine r_iinc _ rfl rfl (congrArg _ ci_1) (by decide) ?_
      refine r_goto (tgt := 47) rfl (by decide) ?_
      first | exact r_sb (ih _ _ _ _ _ _ _ _ hE) ⟨rfl, rfl, rfl, rfl, rfl, trivial⟩ | exact r_sb (ih _ _ _ _ _ _ _ _ hE) (by simp only [su1, su2, dr1_rf, dr1_in, dr1_lo, dr2_rf, dr2_in, dr2_lo]; exact ⟨rfl, rfl, rfl, rfl, rfl, trivial⟩)
def Sh_goBack_b35 (N : Nat) : Nat → Nat → Int32 → Int32 → Int32 → PH → Option (Unit × PH)
  | 0 => fun _ _ _ _ _ => none
  | n + 1 => fun a0 x1 x2 x3 h =>
    if x3 < x2 then
      some ((), h)
    else
      ck ((hK h a0).1 = 7) <|
      bd (Sh_swap N a0 h) fun v3 h4 =>
      Sh_goBack_b47 N (Sh_goBack_b35 N n) N a0 x1 x2 x3 0 h4
set_option maxRecDepth 20000 in
theorem Sh_goBack_b35_ok (g : GT) (N : Nat) (D : Nat) (hD : 3 ≤ D) : ∀ (n : Nat) (a0 : Nat) (x1 : Int32) (x2 : Int32) (x3 : Int32) (h : PH) (v : Unit) (h' : PH), Sh_goBack_b35 N n a0 x1 x2 x3 h = some (v, h') → Run g pSh_goBack D 35 [(0, va_rf (some a0)), (1, .int x1), (2, .int x2), (3, .int x3)] [] h (rV v) h' := by
  obtain ⟨D2, rfl⟩ : ∃ d, D = d + 1 := ⟨D - 1, by omega⟩
  intro n
  induction n with
  | zero => exact fun _ _ _ _ _ _ _ hE => nomatch (show none = some _ from hE)
  | succ n ih =>
    intro a0 x1 x2 x3 h v h' hE
    unfold Sh_goBack_b35 at hE
    refine r_iload_n 3 rfl rfl rfl ?_
    refine r_iload_n 2 rfl rfl rfl ?_
    refine r_icmp_lt (tgt := 113) rfl (by decide) (fun hc1 => ?_) (fun hc1 => ?_)
    · have hE := ifP hc1 hE
      cases hE
      exact r_ret rfl (Or.inr (Or.inr (Or.inr ⟨rfl, rfl, rfl, rfl⟩)))
    · have hE := ifN hc1 hE
      refine r_aload_n (t := some a0) 0 rfl rfl rfl ?_
      obtain ⟨hk2, hE⟩ := ckE hE
      obtain ⟨v3, h4, hq5, hE⟩ := bdE hE
      refine r_callV0 (rest := []) (hc := (Sh_swap_ok g N _ _ _ _ hq5 D2 (by omega))) rfl pm_Sh_swap lw_7_59 im_Sh_swap sl_Sh_swap rfl rfl rfl (rcOK hk2 rfl) (by decide) ?_
      refine r_iconst 0 rfl ci_0 ?_
      refine r_istore rfl (by decide) ?_
      first | exact r_sb (Sh_goBack_b47_ok g N _ hD _ ih N _ _ _ _ _ _ _ _ hE) ⟨rfl, rfl, rfl, rfl, rfl, trivial⟩ | exact r_sb (Sh_goBack_b47_ok g N _ hD _ ih N _ _ _ _ _ _ _ _ hE) (by simp only [su1, su2, dr1_rf, dr1_in, dr1_lo, dr2_rf, dr2_in, dr2_lo]; exact ⟨rfl, rfl, rfl, rfl, rfl, trivial⟩)
def Sh_goBack_b2 (N : Nat) : Nat → Nat → Int32 → Int32 → Int32 → PH → Option (Unit × PH)
  | 0 => fun _ _ _ _ _ => none
  | n + 1 => fun a0 x1 x2 x3 h =>
    ck ((hK h a0).1 = 7) <|
    ((hR h a0 2)).bind fun a_2 =>
    ck ((hK h a_2).1 = 20) <|
    if (Int32.ofNat (hK h a_2).2) ≤ x3 then
      ((hR h a0 1)).bind fun a_6 =>
      ck ((hK h a_6).1 = 0) <|
      Sh_goBack_b35 N N a0 x1 x2 ((hI h a_6 0) - 1) h
    else
      ck (inb x3 (hK h a_2).2 = true) <|
      lt0 (wI h a_2 (ix x3) 1000000) fun h10 =>
      (Sh_goBack_b2 N n) a0 x1 x2 (x3 + 1) h10
set_option maxRecDepth 20000 in
theorem Sh_goBack_b2_ok (g : GT) (N : Nat) (D : Nat) (hD : 3 ≤ D) : ∀ (n : Nat) (a0 : Nat) (x1 : Int32) (x2 : Int32) (x3 : Int32) (h : PH) (v : Unit) (h' : PH), Sh_goBack_b2 N n a0 x1 x2 x3 h = some (v, h') → Run g pSh_goBack D 2 [(0, va_rf (some a0)), (1, .int x1), (2, .int x2), (3, .int x3)] [] h (rV v) h' := by
  obtain ⟨D2, rfl⟩ : ∃ d, D = d + 1 := ⟨D - 1, by omega⟩
  intro n
  induction n with
  | zero => exact fun _ _ _ _ _ _ _ hE => nomatch (show none = some _ from hE)
  | succ n ih =>
    intro a0 x1 x2 x3 h v h' hE
    unfold Sh_goBack_b2 at hE
    refine r_iload_n 3 rfl rfl rfl ?_
    refine r_aload_n (t := some a0) 0 rfl rfl rfl ?_
    obtain ⟨hk1, hE⟩ := ckE hE
    refine r_getR rfl (fl_7_15 rfl) (Or.inr ⟨_, rfl⟩) rfl hk1 ?_
    obtain ⟨a_2, ha3, hE⟩ := bnE hE
    obtain ⟨hk4, hE⟩ := ckE hE
    refine r_alen (kd := 20) rfl (by decide) (by decide) ha3 hk4 ?_
    refine r_icmp_ge (tgt := 25) rfl (by decide) (fun hc5 => ?_) (fun hc5 => ?_)
    · have hE := ifP hc5 hE
      refine r_aload_n (t := some a0) 0 rfl rfl rfl ?_
      refine r_getR rfl (fl_7_21 rfl) (Or.inl ⟨_, rfl⟩) rfl hk1 ?_
      obtain ⟨a_6, ha7, hE⟩ := bnE hE
      obtain ⟨hk8, hE⟩ := ckE hE
      refine r_getI rfl (fl_7_56 rfl) (Or.inl rfl) ha7 hk8 ?_
      refine r_iconst 1 rfl ci_1 ?_
      refine r_isub rfl ?_
      refine r_istore_n 3 rfl rfl (by decide) ?_
      first | exact r_sb (Sh_goBack_b35_ok g N _ hD  N _ _ _ _ _ _ _ hE) ⟨rfl, rfl, rfl, rfl, trivial⟩ | exact r_sb (Sh_goBack_b35_ok g N _ hD  N _ _ _ _ _ _ _ hE) (by simp only [su1, su2, dr1_rf, dr1_in, dr1_lo, dr2_rf, dr2_in, dr2_lo]; exact ⟨rfl, rfl, rfl, rfl, trivial⟩)
    · have hE := ifN hc5 hE
      refine r_aload_n (t := some a0) 0 rfl rfl rfl ?_
      refine r_getR rfl (fl_7_15 rfl) (Or.inr ⟨_, rfl⟩) rfl hk1 ?_
      refine r_iload_n 3 rfl rfl rfl ?_
      refine r_ldc rfl kc_7_55 ?_
      obtain ⟨hi9, hE⟩ := ckE hE
      obtain ⟨h10, he11, hE⟩ := ltE hE
      refine r_iast rfl ha3 hk4 hi9 he11 ?_
      refine r_iinc _ rfl rfl (congrArg _ ci_1) (by decide) ?_
      refine r_goto (tgt := 2) rfl (by decide) ?_
      first | exact r_sb (ih _ _ _ _ _ _ _ hE) ⟨rfl, rfl, rfl, rfl, trivial⟩ | exact r_sb (ih _ _ _ _ _ _ _ hE) (by simp only [su1, su2, dr1_rf, dr1_in, dr1_lo, dr2_rf, dr2_in, dr2_lo]; exact ⟨rfl, rfl, rfl, rfl, trivial⟩)
def Sh_goBack (N : Nat) (a0 : Nat) (x1 : Int32) (x2 : Int32) (h : PH) : Option (Unit × PH) :=
  Sh_goBack_b2 N N a0 x1 x2 0 h
set_option maxRecDepth 20000 in
theorem Sh_goBack_ok (g : GT) (N : Nat) (a0 : Nat) (x1 : Int32) (x2 : Int32) (h : PH) (v : Unit) (h' : PH) (hE : Sh_goBack N a0 x1 x2 h = some (v, h')) (D : Nat) (hD : 3 ≤ D) : Calls g D pSh_goBack [va_rf (some a0), .int x1, .int x2] h (oV v) h' := by
  refine Calls.of cok_Sh_goBack ht_Sh_goBack pl_Sh_goBack (fun ad => by rw [lg_len, sL_cat]; simp only [List.map_cons, List.map_nil, rf_cat, cat_i, cat_l, List.sum_cons, List.sum_nil]; decide) ?_
  rw [show lv_args 0 [va_rf (some a0), .int x1, .int x2] = [(0, va_rf (some a0)), (1, .int x1), (2, .int x2)] from (by simp only [lv_args, rf_cat, cat_i, cat_l]; try rfl)]
  obtain ⟨D2, rfl⟩ : ∃ d, D = d + 1 := ⟨D - 1, by omega⟩
  unfold Sh_goBack at hE
  refine r_iconst 0 rfl ci_0 ?_
  refine r_istore_n 3 rfl rfl (by decide) ?_
  first | exact r_sb (Sh_goBack_b2_ok g N _ hD  N _ _ _ _ _ _ _ hE) ⟨rfl, rfl, rfl, rfl, trivial⟩ | exact r_sb (Sh_goBack_b2_ok g N _ hD  N _ _ _ _ _ _ _ hE) (by simp only [su1, su2, dr1_rf, dr1_in, dr1_lo, dr2_rf, dr2_in, dr2_lo]; exact ⟨rfl, rfl, rfl, rfl, trivial⟩)
def Sh_sureness_b31 (N : Nat) (s0 : Option Nat) (s1 : Int32) (s2 : Int32) (h : PH) : Option (Int32 × PH) :=
  bd (Le_at N s0 (s1 + s2) h) fun v1 h2 =>
  some (v1, h2)
set_option maxRecDepth 20000 in
theorem Sh_sureness_b31_ok (g : GT) (N : Nat) (D : Nat) (hD : 4 ≤ D) : ∀ (s0 : Option Nat) (s1 : Int32) (s2 : Int32) (h : PH) (v : Int32) (h' : PH), Sh_sureness_b31 N s0 s1 s2 h = some (v, h') → Run g pSh_sureness D 31 [] [.int s2, .int s1, va_rf s0] h (rI v) h' := by
  obtain ⟨D2, rfl⟩ : ∃ d, D = d + 1 := ⟨D - 1, by omega⟩
  intro s0 s1 s2 h v h' hE
  unfold Sh_sureness_b31 at hE
  refine r_iadd rfl ?_
  obtain ⟨v1, h2, hq3, hE⟩ := bdE hE
  refine r_callSN1 (rest := []) (hc := (Le_at_ok g N _ _ _ _ _ hq3 D2 (by omega))) rfl pm_Le_at lw_7_42 st_Le_at rfl rfl (by decide) ?_
  cases hE
  exact r_ret rfl (Or.inl ⟨rfl, _, _, rfl, rfl, rfl, rfl⟩)
def Sh_sureness (N : Nat) (a0 : Nat) (x1 : Int32) (x2 : Option Nat) (h : PH) : Option (Int32 × PH) :=
  (x2).bind fun a_1 =>
  ck ((hK h a_1).1 = 3) <|
  ck ((hK h a0).1 = 7) <|
  bd (Sh_goBack N a0 x1 (hI h a_1 0) h) fun v5 h6 =>
  ck ((hK h6 a0).1 = 7) <|
  ck ((hK h6 a_1).1 = 3) <|
  if (bI (hZ h6 a_1 12)) = 0 then
    Sh_sureness_b31 N  (hR h6 a0 2) ((hI h6 a_1 1) * 2) 0 h6
  else
    Sh_sureness_b31 N  (hR h6 a0 2) ((hI h6 a_1 1) * 2) 1 h6
set_option maxRecDepth 20000 in
theorem Sh_sureness_ok (g : GT) (N : Nat) (a0 : Nat) (x1 : Int32) (x2 : Option Nat) (h : PH) (v : Int32) (h' : PH) (hE : Sh_sureness N a0 x1 x2 h = some (v, h')) (D : Nat) (hD : 4 ≤ D) : Calls g D pSh_sureness [va_rf (some a0), .int x1, va_rf x2] h (oI v) h' := by
  refine Calls.of cok_Sh_sureness ht_Sh_sureness pl_Sh_sureness (fun ad => by rw [lg_len, sL_cat]; simp only [List.map_cons, List.map_nil, rf_cat, cat_i, cat_l, List.sum_cons, List.sum_nil]; decide) ?_
  rw [show lv_args 0 [va_rf (some a0), .int x1, va_rf x2] = [(0, va_rf (some a0)), (1, .int x1), (2, va_rf x2)] from (by simp only [lv_args, rf_cat, cat_i, cat_l]; try rfl)]
  obtain ⟨D2, rfl⟩ : ∃ d, D = d + 1 := ⟨D - 1, by omega⟩
  unfold Sh_sureness at hE
  refine r_aload_n (t := some a0) 0 rfl rfl rfl ?_
  refine r_iload_n 1 rfl rfl rfl ?_
  refine r_aload_n (t := x2) 2 rfl rfl rfl ?_
  obtain ⟨a_1, ha2, hE⟩ := bnE hE
  obtain ⟨hk3, hE⟩ := ckE hE
  refine r_getI rfl (fl_7_25 rfl) (Or.inl rfl) ha2 hk3 ?_
  obtain ⟨hk4, hE⟩ := ckE hE
  obtain ⟨v5, h6, hq7, hE⟩ := bdE hE
  refine r_callV0 (rest := []) (hc := (Sh_goBack_ok g N _ _ _ _ _ _ hq7 D2 (by omega))) rfl pm_Sh_goBack lw_7_31 im_Sh_goBack sl_Sh_goBack rfl rfl rfl (rcOK hk4 rfl) (by decide) ?_
  refine r_aload_n (t := some a0) 0 rfl rfl rfl ?_
  obtain ⟨hk8, hE⟩ := ckE hE
  refine r_getR rfl (fl_7_15 rfl) (Or.inr ⟨_, rfl⟩) rfl hk8 ?_
  refine r_aload_n (t := x2) 2 rfl rfl rfl ?_
  obtain ⟨hk9, hE⟩ := ckE hE
  refine r_getI rfl (fl_7_35 rfl) (Or.inl rfl) ha2 hk9 ?_
  refine r_iconst 2 rfl ci_2 ?_
  refine r_imul rfl ?_
  refine r_aload_n (t := x2) 2 rfl rfl rfl ?_
  refine r_getZ rfl (fl_7_38 rfl) ha2 hk9 ?_
  refine r_if_eq (tgt := 30) rfl (by decide) (fun hc10 => ?_) (fun hc10 => ?_)
  · have hE := ifP hc10 hE
    refine r_iconst 0 rfl ci_0 ?_
    exact r_sb (Sh_sureness_b31_ok g N _ hD   _ _ _ _ _ _ hE) trivial
  · have hE := ifN hc10 hE
    refine r_iconst 1 rfl ci_1 ?_
    refine r_goto (tgt := 31) rfl (by decide) ?_
    exact r_sb (Sh_sureness_b31_ok g N _ hD   _ _ _ _ _ _ hE) trivial
def Sh_fewest_b44 (N : Nat) (self_12 : Nat → Int32 → Option Nat → Int32 → PH → Option (Int32 × PH)) (s0 : Option Nat) (s1 : Int32) (s2 : Int32) (a0 : Nat) (x2 : Int32) (x3 : Option Nat) (x4 : Int32) (h : PH) : Option (Int32 × PH) :=
  bd (Le_at N s0 (s1 + s2) h) fun v1 h2 =>
  if v1 < x2 then
    self_12 a0 x2 x3 (x4 + 1) h2
  else
    some (x4, h2)
set_option maxRecDepth 20000 in
theorem Sh_fewest_b44_ok (g : GT) (N : Nat) (D : Nat) (hD : 4 ≤ D) (self_12 : Nat → Int32 → Option Nat → Int32 → PH → Option (Int32 × PH)) (hself_12 : ∀ (a0 : Nat) (x2 : Int32) (x3 : Option Nat) (x4 : Int32) (h : PH) (v : Int32) (h' : PH), self_12 a0 x2 x3 x4 h = some (v, h') → Run g pSh_fewest D 12 [(0, va_rf (some a0)), (2, .int x2), (3, va_rf x3), (4, .int x4)] [] h (rI v) h') : ∀ (s0 : Option Nat) (s1 : Int32) (s2 : Int32) (a0 : Nat) (x2 : Int32) (x3 : Option Nat) (x4 : Int32) (h : PH) (v : Int32) (h' : PH), Sh_fewest_b44 N self_12 s0 s1 s2 a0 x2 x3 x4 h = some (v, h') → Run g pSh_fewest D 44 [(0, va_rf (some a0)), (2, .int x2), (3, va_rf x3), (4, .int x4)] [.int s2, .int s1, va_rf s0] h (rI v) h' := by
  obtain ⟨D2, rfl⟩ : ∃ d, D = d + 1 := ⟨D - 1, by omega⟩
  intro s0 s1 s2 a0 x2 x3 x4 h v h' hE
  unfold Sh_fewest_b44 at hE
  refine r_iadd rfl ?_
  obtain ⟨v1, h2, hq3, hE⟩ := bdE hE
  refine r_callSN1 (rest := []) (hc := (Le_at_ok g N _ _ _ _ _ hq3 D2 (by omega))) rfl pm_Le_at lw_7_42 st_Le_at rfl rfl (by decide) ?_
  refine r_iload_n 2 rfl rfl rfl ?_
  refine r_icmp_lt (tgt := 55) rfl (by decide) (fun hc4 => ?_) (fun hc4 => ?_)
  · have hE := ifP hc4 hE
    refine r_iinc _ rfl rfl (congrArg _ ci_1) (by decide) ?_
    refine r_goto (tgt := 12) rfl (by decide) ?_
    first | exact r_sb (hself_12 _ _ _ _ _ _ _ hE) ⟨rfl, rfl, rfl, rfl, trivial⟩ | exact r_sb (hself_12 _ _ _ _ _ _ _ hE) (by simp only [su1, su2, dr1_rf, dr1_in, dr1_lo, dr2_rf, dr2_in, dr2_lo]; exact ⟨rfl, rfl, rfl, rfl, trivial⟩)
  · have hE := ifN hc4 hE
    refine r_iload rfl rfl ?_
    cases hE
    exact r_ret rfl (Or.inl ⟨rfl, _, _, rfl, rfl, rfl, rfl⟩)
def Sh_fewest_b12 (N : Nat) : Nat → Nat → Int32 → Option Nat → Int32 → PH → Option (Int32 × PH)
  | 0 => fun _ _ _ _ _ => none
  | n + 1 => fun a0 x2 x3 x4 h =>
    ck ((hK h a0).1 = 7) <|
    ((hR h a0 1)).bind fun a_2 =>
    ck ((hK h a_2).1 = 0) <|
    if (hI h a_2 1) < x4 then
      some ((-1), h)
    else
      (x3).bind fun a_6 =>
      ck ((hK h a_6).1 = 3) <|
      if (bI (hZ h a_6 12)) = 0 then
        Sh_fewest_b44 N (Sh_fewest_b12 N n)  (hR h a0 2) (x4 * 2) 0 a0 x2 x3 x4 h
      else
        Sh_fewest_b44 N (Sh_fewest_b12 N n)  (hR h a0 2) (x4 * 2) 1 a0 x2 x3 x4 h
set_option maxRecDepth 20000 in
theorem Sh_fewest_b12_ok (g : GT) (N : Nat) (D : Nat) (hD : 4 ≤ D) : ∀ (n : Nat) (a0 : Nat) (x2 : Int32) (x3 : Option Nat) (x4 : Int32) (h : PH) (v : Int32) (h' : PH), Sh_fewest_b12 N n a0 x2 x3 x4 h = some (v, h') → Run g pSh_fewest D 12 [(0, va_rf (some a0)), (2, .int x2), (3, va_rf x3), (4, .int x4)] [] h (rI v) h' := by
  obtain ⟨D2, rfl⟩ : ∃ d, D = d + 1 := ⟨D - 1, by omega⟩
  intro n
  induction n with
  | zero => exact fun _ _ _ _ _ _ _ hE => nomatch (show none = some _ from hE)
  | succ n ih =>
    intro a0 x2 x3 x4 h v h' hE
    unfold Sh_fewest_b12 at hE
    refine r_iload rfl rfl ?_
    refine r_aload_n (t := some a0) 0 rfl rfl rfl ?_
    obtain ⟨hk1, hE⟩ := ckE hE
    refine r_getR rfl (fl_7_21 rfl) (Or.inl ⟨_, rfl⟩) rfl hk1 ?_
    obtain ⟨a_2, ha3, hE⟩ := bnE hE
    obtain ⟨hk4, hE⟩ := ckE hE
    refine r_getI rfl (fl_7_46 rfl) (Or.inl rfl) ha3 hk4 ?_
    refine r_icmp_gt (tgt := 61) rfl (by decide) (fun hc5 => ?_) (fun hc5 => ?_)
    · have hE := ifP hc5 hE
      refine r_iconst (-1) rfl ci_m1 ?_
      cases hE
      exact r_ret rfl (Or.inl ⟨rfl, _, _, rfl, rfl, rfl, rfl⟩)
    · have hE := ifN hc5 hE
      refine r_aload_n (t := some a0) 0 rfl rfl rfl ?_
      refine r_getR rfl (fl_7_15 rfl) (Or.inr ⟨_, rfl⟩) rfl hk1 ?_
      refine r_iload rfl rfl ?_
      refine r_iconst 2 rfl ci_2 ?_
      refine r_imul rfl ?_
      refine r_aload_n (t := x3) 3 rfl rfl rfl ?_
      obtain ⟨a_6, ha7, hE⟩ := bnE hE
      obtain ⟨hk8, hE⟩ := ckE hE
      refine r_getZ rfl (fl_7_38 rfl) ha7 hk8 ?_
      refine r_if_eq (tgt := 43) rfl (by decide) (fun hc9 => ?_) (fun hc9 => ?_)
      · have hE := ifP hc9 hE
        refine r_iconst 0 rfl ci_0 ?_
        first | exact r_sb (Sh_fewest_b44_ok g N _ hD _ ih  _ _ _ _ _ _ _ _ _ _ hE) ⟨rfl, rfl, rfl, rfl, trivial⟩ | exact r_sb (Sh_fewest_b44_ok g N _ hD _ ih  _ _ _ _ _ _ _ _ _ _ hE) (by simp only [su1, su2, dr1_rf, dr1_in, dr1_lo, dr2_rf, dr2_in, dr2_lo]; exact ⟨rfl, rfl, rfl, rfl, trivial⟩)
      · have hE := ifN hc9 hE
        refine r_iconst 1 rfl ci_1 ?_
        refine r_goto (tgt := 44) rfl (by decide) ?_
        first | exact r_sb (Sh_fewest_b44_ok g N _ hD _ ih  _ _ _ _ _ _ _ _ _ _ hE) ⟨rfl, rfl, rfl, rfl, trivial⟩ | exact r_sb (Sh_fewest_b44_ok g N _ hD _ ih  _ _ _ _ _ _ _ _ _ _ hE) (by simp only [su1, su2, dr1_rf, dr1_in, dr1_lo, dr2_rf, dr2_in, dr2_lo]; exact ⟨rfl, rfl, rfl, rfl, trivial⟩)
def Sh_fewest (N : Nat) (a0 : Nat) (x1 : Int32) (x2 : Int32) (x3 : Option Nat) (h : PH) : Option (Int32 × PH) :=
  (x3).bind fun a_1 =>
  ck ((hK h a_1).1 = 3) <|
  ck ((hK h a0).1 = 7) <|
  bd (Sh_goBack N a0 x1 (hI h a_1 0) h) fun v5 h6 =>
  Sh_fewest_b12 N N a0 x2 x3 0 h6
set_option maxRecDepth 20000 in
theorem Sh_fewest_ok (g : GT) (N : Nat) (a0 : Nat) (x1 : Int32) (x2 : Int32) (x3 : Option Nat) (h : PH) (v : Int32) (h' : PH) (hE : Sh_fewest N a0 x1 x2 x3 h = some (v, h')) (D : Nat) (hD : 4 ≤ D) : Calls g D pSh_fewest [va_rf (some a0), .int x1, .int x2, va_rf x3] h (oI v) h' := by
  refine Calls.of cok_Sh_fewest ht_Sh_fewest pl_Sh_fewest (fun ad => by rw [lg_len, sL_cat]; simp only [List.map_cons, List.map_nil, rf_cat, cat_i, cat_l, List.sum_cons, List.sum_nil]; decide) ?_
  rw [show lv_args 0 [va_rf (some a0), .int x1, .int x2, va_rf x3] = [(0, va_rf (some a0)), (1, .int x1), (2, .int x2), (3, va_rf x3)] from (by simp only [lv_args, rf_cat, cat_i, cat_l]; try rfl)]
  obtain ⟨D2, rfl⟩ : ∃ d, D = d + 1 := ⟨D - 1, by omega⟩
  unfold Sh_fewest at hE
  refine r_aload_n (t := some a0) 0 rfl rfl rfl ?_
  refine r_iload_n 1 rfl rfl rfl ?_
  refine r_aload_n (t := x3) 3 rfl rfl rfl ?_
  obtain ⟨a_1, ha2, hE⟩ := bnE hE
  obtain ⟨hk3, hE⟩ := ckE hE
  refine r_getI rfl (fl_7_25 rfl) (Or.inl rfl) ha2 hk3 ?_
  obtain ⟨hk4, hE⟩ := ckE hE
  obtain ⟨v5, h6, hq7, hE⟩ := bdE hE
  refine r_callV0 (rest := []) (hc := (Sh_goBack_ok g N _ _ _ _ _ _ hq7 D2 (by omega))) rfl pm_Sh_goBack lw_7_31 im_Sh_goBack sl_Sh_goBack rfl rfl rfl (rcOK hk4 rfl) (by decide) ?_
  refine r_iconst 0 rfl ci_0 ?_
  refine r_istore rfl (by decide) ?_
  first | exact r_sb (Sh_fewest_b12_ok g N _ hD  N _ _ _ _ _ _ _ hE) ⟨rfl, rfl, rfl, rfl, trivial⟩ | exact r_sb (Sh_fewest_b12_ok g N _ hD  N _ _ _ _ _ _ _ hE) (by simp only [su1, su2, dr1_rf, dr1_in, dr1_lo, dr2_rf, dr2_in, dr2_lo]; exact ⟨rfl, rfl, rfl, rfl, trivial⟩)
def Va_worthFrom (N : Nat) (a0 : Nat) (x1 : Int32) (x2 : Int32) (x3 : Int32) (x4 : Int32) (h : PH) : Option (Int32 × PH) :=
  ck ((hK h a0).1 = 9) <|
  bd (Va_fillTo N a0 x1 h) fun v2 h3 =>
  ck ((hK h3 a0).1 = 9) <|
  bd (Va_cell N a0 x1 x2 x3 x4 h3) fun v6 h7 =>
  some (v6, h7)
set_option maxRecDepth 20000 in
theorem Va_worthFrom_ok (g : GT) (N : Nat) (a0 : Nat) (x1 : Int32) (x2 : Int32) (x3 : Int32) (x4 : Int32) (h : PH) (v : Int32) (h' : PH) (hE : Va_worthFrom N a0 x1 x2 x3 x4 h = some (v, h')) (D : Nat) (hD : 7 ≤ D) : Calls g D pVa_worthFrom [va_rf (some a0), .int x1, .int x2, .int x3, .int x4] h (oI v) h' := by
  refine Calls.of cok_Va_worthFrom ht_Va_worthFrom pl_Va_worthFrom (fun ad => by rw [lg_len, sL_cat]; simp only [List.map_cons, List.map_nil, rf_cat, cat_i, cat_l, List.sum_cons, List.sum_nil]; decide) ?_
  rw [show lv_args 0 [va_rf (some a0), .int x1, .int x2, .int x3, .int x4] = [(0, va_rf (some a0)), (1, .int x1), (2, .int x2), (3, .int x3), (4, .int x4)] from (by simp only [lv_args, rf_cat, cat_i, cat_l]; try rfl)]
  obtain ⟨D2, rfl⟩ : ∃ d, D = d + 1 := ⟨D - 1, by omega⟩
  unfold Va_worthFrom at hE
  refine r_aload_n (t := some a0) 0 rfl rfl rfl ?_
  refine r_iload_n 1 rfl rfl rfl ?_
  obtain ⟨hk1, hE⟩ := ckE hE
  obtain ⟨v2, h3, hq4, hE⟩ := bdE hE
  refine r_callV0 (rest := []) (hc := (Va_fillTo_ok g N _ _ _ _ _ hq4 D2 (by omega))) rfl pm_Va_fillTo lw_9_38 im_Va_fillTo sl_Va_fillTo rfl rfl rfl (rcOK hk1 rfl) (by decide) ?_
  refine r_aload_n (t := some a0) 0 rfl rfl rfl ?_
  refine r_iload_n 1 rfl rfl rfl ?_
  refine r_iload_n 2 rfl rfl rfl ?_
  refine r_iload_n 3 rfl rfl rfl ?_
  refine r_iload rfl rfl ?_
  obtain ⟨hk5, hE⟩ := ckE hE
  obtain ⟨v6, h7, hq8, hE⟩ := bdE hE
  refine r_callV1 (rest := []) (hc := (Va_cell_ok g N _ _ _ _ _ _ _ _ hq8 D2 (by omega))) rfl pm_Va_cell lw_9_42 im_Va_cell sl_Va_cell rfl rfl rfl (rcOK hk5 rfl) (by decide) ?_
  cases hE
  exact r_ret rfl (Or.inl ⟨rfl, _, _, rfl, rfl, rfl, rfl⟩)
def Rd_clear_b2 (N : Nat) : Nat → Option Nat → Int32 → Int32 → PH → Option (Unit × PH)
  | 0 => fun _ _ _ _ => none
  | n + 1 => fun x0 x1 x2 h =>
    if x1 ≤ x2 then
      some ((), h)
    else
      (x0).bind fun a_2 =>
      ck ((hK h a_2).1 = 20) <|
      if (Int32.ofNat (hK h a_2).2) ≤ x2 then
        some ((), h)
      else
        ck (inb x2 (hK h a_2).2 = true) <|
        lt0 (wI h a_2 (ix x2) 0) fun h7 =>
        (Rd_clear_b2 N n) x0 x1 (x2 + 1) h7
set_option maxRecDepth 20000 in
theorem Rd_clear_b2_ok (g : GT) (N : Nat) (D : Nat) (hD : 0 ≤ D) : ∀ (n : Nat) (x0 : Option Nat) (x1 : Int32) (x2 : Int32) (h : PH) (v : Unit) (h' : PH), Rd_clear_b2 N n x0 x1 x2 h = some (v, h') → Run g pRd_clear D 2 [(0, va_rf x0), (1, .int x1), (2, .int x2)] [] h (rV v) h' := by
  intro n
  induction n with
  | zero => exact fun _ _ _ _ _ _ hE => nomatch (show none = some _ from hE)
  | succ n ih =>
    intro x0 x1 x2 h v h' hE
    unfold Rd_clear_b2 at hE
    refine r_iload_n 2 rfl rfl rfl ?_
    refine r_iload_n 1 rfl rfl rfl ?_
    refine r_icmp_ge (tgt := 23) rfl (by decide) (fun hc1 => ?_) (fun hc1 => ?_)
    · have hE := ifP hc1 hE
      cases hE
      exact r_ret rfl (Or.inr (Or.inr (Or.inr ⟨rfl, rfl, rfl, rfl⟩)))
    · have hE := ifN hc1 hE
      refine r_iload_n 2 rfl rfl rfl ?_
      refine r_aload_n (t := x0) 0 rfl rfl rfl ?_
      obtain ⟨a_2, ha3, hE⟩ := bnE hE
      obtain ⟨hk4, hE⟩ := ckE hE
      refine r_alen (kd := 20) rfl (by decide) (by decide) ha3 hk4 ?_
      refine r_icmp_ge (tgt := 23) rfl (by decide) (fun hc5 => ?_) (fun hc5 => ?_)
      · have hE := ifP hc5 hE
        cases hE
        exact r_ret rfl (Or.inr (Or.inr (Or.inr ⟨rfl, rfl, rfl, rfl⟩)))
      · have hE := ifN hc5 hE
        refine r_aload_n (t := x0) 0 rfl rfl rfl ?_
        refine r_iload_n 2 rfl rfl rfl ?_
        refine r_iconst 0 rfl ci_0 ?_
        obtain ⟨hi6, hE⟩ := ckE hE
        obtain ⟨h7, he8, hE⟩ := ltE hE
        refine r_iast rfl ha3 hk4 hi6 he8 ?_
        refine r_iinc _ rfl rfl (congrArg _ ci_1) (by decide) ?_
        refine r_goto (tgt := 2) rfl (by decide) ?_
        first | exact r_sb (ih _ _ _ _ _ _ hE) ⟨rfl, rfl, rfl, trivial⟩ | exact r_sb (ih _ _ _ _ _ _ hE) (by simp only [su1, su2, dr1_rf, dr1_in, dr1_lo, dr2_rf, dr2_in, dr2_lo]; exact ⟨rfl, rfl, rfl, trivial⟩)
def Rd_clear (N : Nat) (x0 : Option Nat) (x1 : Int32) (h : PH) : Option (Unit × PH) :=
  Rd_clear_b2 N N x0 x1 0 h
set_option maxRecDepth 20000 in
theorem Rd_clear_ok (g : GT) (N : Nat) (x0 : Option Nat) (x1 : Int32) (h : PH) (v : Unit) (h' : PH) (hE : Rd_clear N x0 x1 h = some (v, h')) (D : Nat) (hD : 0 ≤ D) : Calls g D pRd_clear [va_rf x0, .int x1] h (oV v) h' := by
  refine Calls.of cok_Rd_clear ht_Rd_clear pl_Rd_clear (fun ad => by rw [lg_len, sL_cat]; simp only [List.map_cons, List.map_nil, rf_cat, cat_i, cat_l, List.sum_cons, List.sum_nil]; decide) ?_
  rw [show lv_args 0 [va_rf x0, .int x1] = [(0, va_rf x0), (1, .int x1)] from (by simp only [lv_args, rf_cat, cat_i, cat_l]; try rfl)]
  unfold Rd_clear at hE
  refine r_iconst 0 rfl ci_0 ?_
  refine r_istore_n 2 rfl rfl (by decide) ?_
  first | exact r_sb (Rd_clear_b2_ok g N _ hD  N _ _ _ _ _ _ hE) ⟨rfl, rfl, rfl, trivial⟩ | exact r_sb (Rd_clear_b2_ok g N _ hD  N _ _ _ _ _ _ hE) (by simp only [su1, su2, dr1_rf, dr1_in, dr1_lo, dr2_rf, dr2_in, dr2_lo]; exact ⟨rfl, rfl, rfl, trivial⟩)
def Rd_placeOf (N : Nat) (a0 : Nat) (x1 : Int32) (x2 : Int32) (x3 : Int32) (h : PH) : Option (Int32 × PH) :=
  ck ((hK h a0).1 = 5) <|
  some (((((x1 * (hI h a0 2)) + x2) * 2) + x3), h)
set_option maxRecDepth 20000 in
theorem Rd_placeOf_ok (g : GT) (N : Nat) (a0 : Nat) (x1 : Int32) (x2 : Int32) (x3 : Int32) (h : PH) (v : Int32) (h' : PH) (hE : Rd_placeOf N a0 x1 x2 x3 h = some (v, h')) (D : Nat) (hD : 0 ≤ D) : Calls g D pRd_placeOf [va_rf (some a0), .int x1, .int x2, .int x3] h (oI v) h' := by
  refine Calls.of cok_Rd_placeOf ht_Rd_placeOf pl_Rd_placeOf (fun ad => by rw [lg_len, sL_cat]; simp only [List.map_cons, List.map_nil, rf_cat, cat_i, cat_l, List.sum_cons, List.sum_nil]; decide) ?_
  rw [show lv_args 0 [va_rf (some a0), .int x1, .int x2, .int x3] = [(0, va_rf (some a0)), (1, .int x1), (2, .int x2), (3, .int x3)] from (by simp only [lv_args, rf_cat, cat_i, cat_l]; try rfl)]
  unfold Rd_placeOf at hE
  refine r_iload_n 1 rfl rfl rfl ?_
  refine r_aload_n (t := some a0) 0 rfl rfl rfl ?_
  obtain ⟨hk1, hE⟩ := ckE hE
  refine r_getI rfl (fl_5_9 rfl) (Or.inl rfl) rfl hk1 ?_
  refine r_imul rfl ?_
  refine r_iload_n 2 rfl rfl rfl ?_
  refine r_iadd rfl ?_
  refine r_iconst 2 rfl ci_2 ?_
  refine r_imul rfl ?_
  refine r_iload_n 3 rfl rfl rfl ?_
  refine r_iadd rfl ?_
  cases hE
  exact r_ret rfl (Or.inl ⟨rfl, _, _, rfl, rfl, rfl, rfl⟩)
def Rd_isLikely_b2 (N : Nat) : Nat → Nat → Int32 → Int32 → Int32 → PH → Option (Bool × PH)
  | 0 => fun _ _ _ _ _ => none
  | n + 1 => fun a0 x1 x2 x3 h =>
    ck ((hK h a0).1 = 5) <|
    if (hI h a0 2) ≤ x3 then
      some (false, h)
    else
      bd (Rd_placeOf N a0 x1 x3 x2 h) fun v3 h4 =>
      bd (Le_at N (hR h a0 3) v3 h4) fun v6 h7 =>
      if v6 ≤ 0 then
        (Rd_isLikely_b2 N n) a0 x1 x2 (x3 + 1) h7
      else
        some (true, h7)
set_option maxRecDepth 20000 in
theorem Rd_isLikely_b2_ok (g : GT) (N : Nat) (D : Nat) (hD : 1 ≤ D) : ∀ (n : Nat) (a0 : Nat) (x1 : Int32) (x2 : Int32) (x3 : Int32) (h : PH) (v : Bool) (h' : PH), Rd_isLikely_b2 N n a0 x1 x2 x3 h = some (v, h') → Run g pRd_isLikely D 2 [(0, va_rf (some a0)), (1, .int x1), (2, .int x2), (3, .int x3)] [] h (rZ v) h' := by
  obtain ⟨D2, rfl⟩ : ∃ d, D = d + 1 := ⟨D - 1, by omega⟩
  intro n
  induction n with
  | zero => exact fun _ _ _ _ _ _ _ hE => nomatch (show none = some _ from hE)
  | succ n ih =>
    intro a0 x1 x2 x3 h v h' hE
    unfold Rd_isLikely_b2 at hE
    refine r_iload_n 3 rfl rfl rfl ?_
    refine r_aload_n (t := some a0) 0 rfl rfl rfl ?_
    obtain ⟨hk1, hE⟩ := ckE hE
    refine r_getI rfl (fl_5_9 rfl) (Or.inl rfl) rfl hk1 ?_
    refine r_icmp_ge (tgt := 35) rfl (by decide) (fun hc2 => ?_) (fun hc2 => ?_)
    · have hE := ifP hc2 hE
      refine r_iconst 0 rfl ci_0 ?_
      cases hE
      exact r_ret rfl (Or.inl ⟨rfl, _, _, rfl, rfl, rfl, rfl⟩)
    · have hE := ifN hc2 hE
      refine r_aload_n (t := some a0) 0 rfl rfl rfl ?_
      refine r_getR rfl (fl_5_15 rfl) (Or.inr ⟨_, rfl⟩) rfl hk1 ?_
      refine r_aload_n (t := some a0) 0 rfl rfl rfl ?_
      refine r_iload_n 1 rfl rfl rfl ?_
      refine r_iload_n 3 rfl rfl rfl ?_
      refine r_iload_n 2 rfl rfl rfl ?_
      obtain ⟨v3, h4, hq5, hE⟩ := bdE hE
      refine r_callV1 (rest := [va_rf (hR h a0 3)]) (hc := (Rd_placeOf_ok g N _ _ _ _ _ _ _ hq5 D2 (by omega))) rfl pm_Rd_placeOf lw_5_46 im_Rd_placeOf sl_Rd_placeOf rfl rfl rfl (rcOK hk1 rfl) (by simp only [List.map_cons, List.map_nil, rf_cat, cat_i, cat_l, List.sum_cons, List.sum_nil]; decide) ?_
      obtain ⟨v6, h7, hq8, hE⟩ := bdE hE
      refine r_callSN1 (rest := []) (hc := (Le_at_ok g N _ _ _ _ _ hq8 D2 (by omega))) rfl pm_Le_at lw_5_59 st_Le_at rfl rfl (by decide) ?_
      refine r_if_le (tgt := 29) rfl (by decide) (fun hc9 => ?_) (fun hc9 => ?_)
      · have hE := ifP hc9 hE
        refine r_iinc _ rfl rfl (congrArg _ ci_1) (by decide) ?_
        refine r_goto (tgt := 2) rfl (by decide) ?_
        first | exact r_sb (ih _ _ _ _ _ _ _ hE) ⟨rfl, rfl, rfl, rfl, trivial⟩ | exact r_sb (ih _ _ _ _ _ _ _ hE) (by simp only [su1, su2, dr1_rf, dr1_in, dr1_lo, dr2_rf, dr2_in, dr2_lo]; exact ⟨rfl, rfl, rfl, rfl, trivial⟩)
      · have hE := ifN hc9 hE
        refine r_iconst 1 rfl ci_1 ?_
        cases hE
        exact r_ret rfl (Or.inl ⟨rfl, _, _, rfl, rfl, rfl, rfl⟩)
def Rd_isLikely (N : Nat) (a0 : Nat) (x1 : Int32) (x2 : Int32) (h : PH) : Option (Bool × PH) :=
  Rd_isLikely_b2 N N a0 x1 x2 0 h
set_option maxRecDepth 20000 in
theorem Rd_isLikely_ok (g : GT) (N : Nat) (a0 : Nat) (x1 : Int32) (x2 : Int32) (h : PH) (v : Bool) (h' : PH) (hE : Rd_isLikely N a0 x1 x2 h = some (v, h')) (D : Nat) (hD : 1 ≤ D) : Calls g D pRd_isLikely [va_rf (some a0), .int x1, .int x2] h (oZ v) h' := by
  refine Calls.of cok_Rd_isLikely ht_Rd_isLikely pl_Rd_isLikely (fun ad => by rw [lg_len, sL_cat]; simp only [List.map_cons, List.map_nil, rf_cat, cat_i, cat_l, List.sum_cons, List.sum_nil]; decide) ?_
  rw [show lv_args 0 [va_rf (some a0), .int x1, .int x2] = [(0, va_rf (some a0)), (1, .int x1), (2, .int x2)] from (by simp only [lv_args, rf_cat, cat_i, cat_l]; try rfl)]
  obtain ⟨D2, rfl⟩ : ∃ d, D = d + 1 := ⟨D - 1, by omega⟩
  unfold Rd_isLikely at hE
  refine r_iconst 0 rfl ci_0 ?_
  refine r_istore_n 3 rfl rfl (by decide) ?_
  first | exact r_sb (Rd_isLikely_b2_ok g N _ hD  N _ _ _ _ _ _ _ hE) ⟨rfl, rfl, rfl, rfl, trivial⟩ | exact r_sb (Rd_isLikely_b2_ok g N _ hD  N _ _ _ _ _ _ _ hE) (by simp only [su1, su2, dr1_rf, dr1_in, dr1_lo, dr2_rf, dr2_in, dr2_lo]; exact ⟨rfl, rfl, rfl, rfl, trivial⟩)
def Rd_spreadCallers_b164 (N : Nat) (self_90 : Nat → Int32 → Int32 → Int32 → Int32 → Int32 → Int32 → Int32 → PH → Option (Unit × PH)) (a0 : Nat) (x3 : Int32) (x4 : Int32) (x6 : Int32) (x7 : Int32) (x9 : Int32) (x10 : Int32) (x11 : Int32) (h : PH) : Option (Unit × PH) :=
  self_90 a0 x3 x4 x6 x7 x9 x10 (x11 + 1) h
set_option maxRecDepth 20000 in
theorem Rd_spreadCallers_b164_ok (g : GT) (N : Nat) (D : Nat) (hD : 2 ≤ D) (self_90 : Nat → Int32 → Int32 → Int32 → Int32 → Int32 → Int32 → Int32 → PH → Option (Unit × PH)) (hself_90 : ∀ (a0 : Nat) (x3 : Int32) (x4 : Int32) (x6 : Int32) (x7 : Int32) (x9 : Int32) (x10 : Int32) (x11 : Int32) (h : PH) (v : Unit) (h' : PH), self_90 a0 x3 x4 x6 x7 x9 x10 x11 h = some (v, h') → Run g pRd_spreadCallers D 90 [(0, va_rf (some a0)), (3, .int x3), (4, .int x4), (6, .int x6), (7, .int x7), (9, .int x9), (10, .int x10), (11, .int x11)] [] h (rV v) h') : ∀ (a0 : Nat) (x3 : Int32) (x4 : Int32) (x6 : Int32) (x7 : Int32) (x9 : Int32) (x10 : Int32) (x11 : Int32) (h : PH) (v : Unit) (h' : PH), Rd_spreadCallers_b164 N self_90 a0 x3 x4 x6 x7 x9 x10 x11 h = some (v, h') → Run g pRd_spreadCallers D 164 [(0, va_rf (some a0)), (3, .int x3), (4, .int x4), (6, .int x6), (7, .int x7), (9, .int x9), (10, .int x10), (11, .int x11)] [] h (rV v) h' := by
  obtain ⟨D2, rfl⟩ : ∃ d, D = d + 1 := ⟨D - 1, by omega⟩
  intro a0 x3 x4 x6 x7 x9 x10 x11 h v h' hE
  unfold Rd_spreadCallers_b164 at hE
  refine r_iinc _ rfl rfl (congrArg _ ci_1) (by decide) ?_
  refine r_goto (tgt := 90) rfl (by decide) ?_
  first | exact r_sb (hself_90 _ _ _ _ _ _ _ _ _ _ _ hE) ⟨rfl, rfl, rfl, rfl, rfl, rfl, rfl, rfl, trivial⟩ | exact r_sb (hself_90 _ _ _ _ _ _ _ _ _ _ _ hE) (by simp only [su1, su2, dr1_rf, dr1_in, dr1_lo, dr2_rf, dr2_in, dr2_lo]; exact ⟨rfl, rfl, rfl, rfl, rfl, rfl, rfl, rfl, trivial⟩)
def Rd_spreadCallers_b90 (N : Nat) : Nat → Nat → Int32 → Int32 → Int32 → Int32 → Int32 → Int32 → Int32 → PH → Option (Unit × PH)
  | 0 => fun _ _ _ _ _ _ _ _ _ => none
  | n + 1 => fun a0 x3 x4 x6 x7 x9 x10 x11 h =>
    ck ((hK h a0).1 = 5) <|
    if (hI h a0 2) ≤ (x11 + x7) then
      some ((), h)
    else
      bd (Rd_placeOf N a0 x3 x11 x4 h) fun v3 h4 =>
      bd (Le_at N (hR h a0 3) v3 h4) fun v6 h7 =>
      if (v6 * x6) ≤ 0 then
        Rd_spreadCallers_b164 N (Rd_spreadCallers_b90 N n)  a0 x3 x4 x6 x7 x9 x10 x11 h7
      else
        ck ((hK h7 a0).1 = 5) <|
        bd (Rd_placeOf N a0 x9 (x11 + x7) x10 h7) fun v11 h12 =>
        ck ((hK h12 a0).1 = 5) <|
        bd (Le_at N (hR h12 a0 4) v11 h12) fun v15 h16 =>
        bd (Le_put N (hR h12 a0 4) v11 (v15 + (v6 * x6)) h16) fun v18 h19 =>
        Rd_spreadCallers_b164 N (Rd_spreadCallers_b90 N n)  a0 x3 x4 x6 x7 x9 x10 x11 h19
set_option maxRecDepth 20000 in
theorem Rd_spreadCallers_b90_ok (g : GT) (N : Nat) (D : Nat) (hD : 2 ≤ D) : ∀ (n : Nat) (a0 : Nat) (x3 : Int32) (x4 : Int32) (x6 : Int32) (x7 : Int32) (x9 : Int32) (x10 : Int32) (x11 : Int32) (h : PH) (v : Unit) (h' : PH), Rd_spreadCallers_b90 N n a0 x3 x4 x6 x7 x9 x10 x11 h = some (v, h') → Run g pRd_spreadCallers D 90 [(0, va_rf (some a0)), (3, .int x3), (4, .int x4), (6, .int x6), (7, .int x7), (9, .int x9), (10, .int x10), (11, .int x11)] [] h (rV v) h' := by
  obtain ⟨D2, rfl⟩ : ∃ d, D = d + 1 := ⟨D - 1, by omega⟩
  intro n
  induction n with
  | zero => exact fun _ _ _ _ _ _ _ _ _ _ _ hE => nomatch (show none = some _ from hE)
  | succ n ih =>
    intro a0 x3 x4 x6 x7 x9 x10 x11 h v h' hE
    unfold Rd_spreadCallers_b90 at hE
    refine r_iload rfl rfl ?_
    refine r_iload rfl rfl ?_
    refine r_iadd rfl ?_
    refine r_aload_n (t := some a0) 0 rfl rfl rfl ?_
    obtain ⟨hk1, hE⟩ := ckE hE
    refine r_getI rfl (fl_5_9 rfl) (Or.inl rfl) rfl hk1 ?_
    refine r_icmp_ge (tgt := 170) rfl (by decide) (fun hc2 => ?_) (fun hc2 => ?_)
    · have hE := ifP hc2 hE
      cases hE
      exact r_ret rfl (Or.inr (Or.inr (Or.inr ⟨rfl, rfl, rfl, rfl⟩)))
    · have hE := ifN hc2 hE
      refine r_aload_n (t := some a0) 0 rfl rfl rfl ?_
      refine r_getR rfl (fl_5_15 rfl) (Or.inr ⟨_, rfl⟩) rfl hk1 ?_
      refine r_aload_n (t := some a0) 0 rfl rfl rfl ?_
      refine r_iload_n 3 rfl rfl rfl ?_
      refine r_iload rfl rfl ?_
      refine r_iload rfl rfl ?_
      obtain ⟨v3, h4, hq5, hE⟩ := bdE hE
      refine r_callV1 (rest := [va_rf (hR h a0 3)]) (hc := (Rd_placeOf_ok g N _ _ _ _ _ _ _ hq5 D2 (by omega))) rfl pm_Rd_placeOf lw_5_46 im_Rd_placeOf sl_Rd_placeOf rfl rfl rfl (rcOK hk1 rfl) (by simp only [List.map_cons, List.map_nil, rf_cat, cat_i, cat_l, List.sum_cons, List.sum_nil]; decide) ?_
      obtain ⟨v6, h7, hq8, hE⟩ := bdE hE
      refine r_callSN1 (rest := []) (hc := (Le_at_ok g N _ _ _ _ _ hq8 D2 (by omega))) rfl pm_Le_at lw_5_59 st_Le_at rfl rfl (by decide) ?_
      refine r_iload rfl rfl ?_
      refine r_imul rfl ?_
      refine r_istore rfl (by decide) ?_
      refine r_iload rfl rfl ?_
      refine r_if_le (tgt := 164) rfl (by decide) (fun hc9 => ?_) (fun hc9 => ?_)
      · have hE := ifP hc9 hE
        first | exact r_sb (Rd_spreadCallers_b164_ok g N _ hD _ ih  _ _ _ _ _ _ _ _ _ _ _ hE) ⟨rfl, rfl, rfl, rfl, rfl, rfl, rfl, rfl, trivial⟩ | exact r_sb (Rd_spreadCallers_b164_ok g N _ hD _ ih  _ _ _ _ _ _ _ _ _ _ _ hE) (by simp only [su1, su2, dr1_rf, dr1_in, dr1_lo, dr2_rf, dr2_in, dr2_lo]; exact ⟨rfl, rfl, rfl, rfl, rfl, rfl, rfl, rfl, trivial⟩)
      · have hE := ifN hc9 hE
        refine r_aload_n (t := some a0) 0 rfl rfl rfl ?_
        refine r_iload rfl rfl ?_
        refine r_iload rfl rfl ?_
        refine r_iload rfl rfl ?_
        refine r_iadd rfl ?_
        refine r_iload rfl rfl ?_
        obtain ⟨hk10, hE⟩ := ckE hE
        obtain ⟨v11, h12, hq13, hE⟩ := bdE hE
        refine r_callV1 (rest := []) (hc := (Rd_placeOf_ok g N _ _ _ _ _ _ _ hq13 D2 (by omega))) rfl pm_Rd_placeOf lw_5_46 im_Rd_placeOf sl_Rd_placeOf rfl rfl rfl (rcOK hk10 rfl) (by decide) ?_
        refine r_istore rfl (by decide) ?_
        refine r_aload_n (t := some a0) 0 rfl rfl rfl ?_
        obtain ⟨hk14, hE⟩ := ckE hE
        refine r_getR rfl (fl_5_19 rfl) (Or.inr ⟨_, rfl⟩) rfl hk14 ?_
        refine r_iload rfl rfl ?_
        refine r_aload_n (t := some a0) 0 rfl rfl rfl ?_
        refine r_getR rfl (fl_5_19 rfl) (Or.inr ⟨_, rfl⟩) rfl hk14 ?_
        refine r_iload rfl rfl ?_
        obtain ⟨v15, h16, hq17, hE⟩ := bdE hE
        refine r_callSN1 (rest := [.int v11, va_rf (hR h12 a0 4)]) (hc := (Le_at_ok g N _ _ _ _ _ hq17 D2 (by omega))) rfl pm_Le_at lw_5_59 st_Le_at rfl rfl (by simp only [List.map_cons, List.map_nil, rf_cat, cat_i, cat_l, List.sum_cons, List.sum_nil]; decide) ?_
        refine r_iload rfl rfl ?_
        refine r_iadd rfl ?_
        obtain ⟨v18, h19, hq20, hE⟩ := bdE hE
        refine r_callSN0 (rest := []) (hc := (Le_put_ok g N _ _ _ _ _ _ hq20 D2 (by omega))) rfl pm_Le_put lw_5_51 st_Le_put rfl rfl (by decide) ?_
        first | exact r_sb (Rd_spreadCallers_b164_ok g N _ hD _ ih  _ _ _ _ _ _ _ _ _ _ _ hE) ⟨rfl, rfl, rfl, rfl, rfl, rfl, rfl, rfl, trivial⟩ | exact r_sb (Rd_spreadCallers_b164_ok g N _ hD _ ih  _ _ _ _ _ _ _ _ _ _ _ hE) (by simp only [su1, su2, dr1_rf, dr1_in, dr1_lo, dr2_rf, dr2_in, dr2_lo]; exact ⟨rfl, rfl, rfl, rfl, rfl, rfl, rfl, rfl, trivial⟩)
def Rd_spreadCallers_b85 (N : Nat) (s0 : Int32) (a0 : Nat) (x3 : Int32) (x4 : Int32) (x6 : Int32) (x7 : Int32) (x9 : Int32) (h : PH) : Option (Unit × PH) :=
  Rd_spreadCallers_b90 N N a0 x3 x4 x6 x7 x9 s0 0 h
set_option maxRecDepth 20000 in
theorem Rd_spreadCallers_b85_ok (g : GT) (N : Nat) (D : Nat) (hD : 2 ≤ D) : ∀ (s0 : Int32) (a0 : Nat) (x3 : Int32) (x4 : Int32) (x6 : Int32) (x7 : Int32) (x9 : Int32) (h : PH) (v : Unit) (h' : PH), Rd_spreadCallers_b85 N s0 a0 x3 x4 x6 x7 x9 h = some (v, h') → Run g pRd_spreadCallers D 85 [(0, va_rf (some a0)), (3, .int x3), (4, .int x4), (6, .int x6), (7, .int x7), (9, .int x9)] [.int s0] h (rV v) h' := by
  obtain ⟨D2, rfl⟩ : ∃ d, D = d + 1 := ⟨D - 1, by omega⟩
  intro s0 a0 x3 x4 x6 x7 x9 h v h' hE
  unfold Rd_spreadCallers_b85 at hE
  refine r_istore rfl (by decide) ?_
  refine r_iconst 0 rfl ci_0 ?_
  refine r_istore rfl (by decide) ?_
  first | exact r_sb (Rd_spreadCallers_b90_ok g N _ hD  N _ _ _ _ _ _ _ _ _ _ _ hE) ⟨rfl, rfl, rfl, rfl, rfl, rfl, rfl, rfl, trivial⟩ | exact r_sb (Rd_spreadCallers_b90_ok g N _ hD  N _ _ _ _ _ _ _ _ _ _ _ hE) (by simp only [su1, su2, dr1_rf, dr1_in, dr1_lo, dr2_rf, dr2_in, dr2_lo]; exact ⟨rfl, rfl, rfl, rfl, rfl, rfl, rfl, rfl, trivial⟩)
def Rd_spreadCallers_b48 (N : Nat) (s0 : Int32) (a0 : Nat) (x3 : Int32) (x4 : Int32) (x6 : Int32) (x7 : Int32) (h : PH) : Option (Unit × PH) :=
  ck ((hK h a0).1 = 5) <|
  ((hR h a0 0)).bind fun a_2 =>
  ck ((hK h a_2).1 = 0) <|
  bd (Ho_toffeesTaken N a_2 x3 x7 s0 h) fun v5 h6 =>
  ck ((hK h6 a0).1 = 5) <|
  ((hR h6 a0 0)).bind fun a_9 =>
  ck ((hK h6 a_9).1 = 0) <|
  bd (Ho_spreads N a_9 x7 s0 h6) fun v12 h13 =>
  if (bI v12) = 0 then
    Rd_spreadCallers_b85 N  0 a0 x3 x4 x6 x7 (x3 - v5) h13
  else
    Rd_spreadCallers_b85 N  1 a0 x3 x4 x6 x7 (x3 - v5) h13
set_option maxRecDepth 20000 in
theorem Rd_spreadCallers_b48_ok (g : GT) (N : Nat) (D : Nat) (hD : 2 ≤ D) : ∀ (s0 : Int32) (a0 : Nat) (x3 : Int32) (x4 : Int32) (x6 : Int32) (x7 : Int32) (h : PH) (v : Unit) (h' : PH), Rd_spreadCallers_b48 N s0 a0 x3 x4 x6 x7 h = some (v, h') → Run g pRd_spreadCallers D 48 [(0, va_rf (some a0)), (3, .int x3), (4, .int x4), (6, .int x6), (7, .int x7)] [.int s0] h (rV v) h' := by
  obtain ⟨D2, rfl⟩ : ∃ d, D = d + 1 := ⟨D - 1, by omega⟩
  intro s0 a0 x3 x4 x6 x7 h v h' hE
  unfold Rd_spreadCallers_b48 at hE
  refine r_istore rfl (by decide) ?_
  refine r_iload_n 3 rfl rfl rfl ?_
  refine r_aload_n (t := some a0) 0 rfl rfl rfl ?_
  obtain ⟨hk1, hE⟩ := ckE hE
  refine r_getR rfl (fl_5_22 rfl) (Or.inl ⟨_, rfl⟩) rfl hk1 ?_
  refine r_iload_n 3 rfl rfl rfl ?_
  refine r_iload rfl rfl ?_
  refine r_iload rfl rfl ?_
  obtain ⟨a_2, ha3, hE⟩ := bnE hE
  obtain ⟨hk4, hE⟩ := ckE hE
  obtain ⟨v5, h6, hq7, hE⟩ := bdE hE
  refine r_callV1 (rest := [.int x3]) (hc := (Ho_toffeesTaken_ok g N _ _ _ _ _ _ _ hq7 D2 (by omega))) rfl pm_Ho_toffeesTaken lw_5_85 im_Ho_toffeesTaken sl_Ho_toffeesTaken ha3 rfl rfl (rcOK hk4 rfl) (by simp only [List.map_cons, List.map_nil, rf_cat, cat_i, cat_l, List.sum_cons, List.sum_nil]; decide) ?_
  refine r_isub rfl ?_
  refine r_istore rfl (by decide) ?_
  refine r_aload_n (t := some a0) 0 rfl rfl rfl ?_
  obtain ⟨hk8, hE⟩ := ckE hE
  refine r_getR rfl (fl_5_22 rfl) (Or.inl ⟨_, rfl⟩) rfl hk8 ?_
  refine r_iload rfl rfl ?_
  refine r_iload rfl rfl ?_
  obtain ⟨a_9, ha10, hE⟩ := bnE hE
  obtain ⟨hk11, hE⟩ := ckE hE
  obtain ⟨v12, h13, hq14, hE⟩ := bdE hE
  refine r_callV1 (rest := []) (hc := (Ho_spreads_ok g N _ _ _ _ _ _ hq14 D2 (by omega))) rfl pm_Ho_spreads lw_5_88 im_Ho_spreads sl_Ho_spreads ha10 rfl rfl (rcOK hk11 rfl) (by decide) ?_
  refine r_if_eq (tgt := 84) rfl (by decide) (fun hc15 => ?_) (fun hc15 => ?_)
  · have hE := ifP hc15 hE
    refine r_iconst 0 rfl ci_0 ?_
    first | exact r_sb (Rd_spreadCallers_b85_ok g N _ hD   _ _ _ _ _ _ _ _ _ _ hE) ⟨rfl, rfl, rfl, rfl, rfl, rfl, trivial⟩ | exact r_sb (Rd_spreadCallers_b85_ok g N _ hD   _ _ _ _ _ _ _ _ _ _ hE) (by simp only [su1, su2, dr1_rf, dr1_in, dr1_lo, dr2_rf, dr2_in, dr2_lo]; exact ⟨rfl, rfl, rfl, rfl, rfl, rfl, trivial⟩)
  · have hE := ifN hc15 hE
    refine r_iconst 1 rfl ci_1 ?_
    refine r_goto (tgt := 85) rfl (by decide) ?_
    first | exact r_sb (Rd_spreadCallers_b85_ok g N _ hD   _ _ _ _ _ _ _ _ _ _ hE) ⟨rfl, rfl, rfl, rfl, rfl, rfl, trivial⟩ | exact r_sb (Rd_spreadCallers_b85_ok g N _ hD   _ _ _ _ _ _ _ _ _ _ hE) (by simp only [su1, su2, dr1_rf, dr1_in, dr1_lo, dr2_rf, dr2_in, dr2_lo]; exact ⟨rfl, rfl, rfl, rfl, rfl, rfl, trivial⟩)
def Rd_spreadCallers (N : Nat) (a0 : Nat) (x1 : Int32) (x2 : Int32) (x3 : Int32) (x4 : Int32) (x5 : Int32) (h : PH) : Option (Unit × PH) :=
  ck ((hK h a0).1 = 5) <|
  ((hR h a0 0)).bind fun a_2 =>
  ck ((hK h a_2).1 = 0) <|
  bd (Ho_chance N a_2 0 x2 x5 h) fun v5 h6 =>
  if v5 = 0 then
    some ((), h6)
  else
    if (x5 + x4) ≤ 0 then
      Rd_spreadCallers_b48 N  0 a0 x3 x4 v5 (x5 + x4) h6
    else
      ck ((hK h6 a0).1 = 5) <|
      ((hR h6 a0 1)).bind fun a_11 =>
      ck ((hK h6 a_11).1 = 2) <|
      bd (Me_giveOf N a_11 x1 x2 x3 0 (x5 + x4) h6) fun v14 h15 =>
      Rd_spreadCallers_b48 N  v14 a0 x3 x4 v5 (x5 + x4) h15
set_option maxRecDepth 20000 in
theorem Rd_spreadCallers_ok (g : GT) (N : Nat) (a0 : Nat) (x1 : Int32) (x2 : Int32) (x3 : Int32) (x4 : Int32) (x5 : Int32) (h : PH) (v : Unit) (h' : PH) (hE : Rd_spreadCallers N a0 x1 x2 x3 x4 x5 h = some (v, h')) (D : Nat) (hD : 2 ≤ D) : Calls g D pRd_spreadCallers [va_rf (some a0), .int x1, .int x2, .int x3, .int x4, .int x5] h (oV v) h' := by
  refine Calls.of cok_Rd_spreadCallers ht_Rd_spreadCallers pl_Rd_spreadCallers (fun ad => by rw [lg_len, sL_cat]; simp only [List.map_cons, List.map_nil, rf_cat, cat_i, cat_l, List.sum_cons, List.sum_nil]; decide) ?_
  rw [show lv_args 0 [va_rf (some a0), .int x1, .int x2, .int x3, .int x4, .int x5] = [(0, va_rf (some a0)), (1, .int x1), (2, .int x2), (3, .int x3), (4, .int x4), (5, .int x5)] from (by simp only [lv_args, rf_cat, cat_i, cat_l]; try rfl)]
  obtain ⟨D2, rfl⟩ : ∃ d, D = d + 1 := ⟨D - 1, by omega⟩
  unfold Rd_spreadCallers at hE
  refine r_aload_n (t := some a0) 0 rfl rfl rfl ?_
  obtain ⟨hk1, hE⟩ := ckE hE
  refine r_getR rfl (fl_5_22 rfl) (Or.inl ⟨_, rfl⟩) rfl hk1 ?_
  refine r_iconst 0 rfl ci_0 ?_
  refine r_iload_n 2 rfl rfl rfl ?_
  refine r_iload rfl rfl ?_
  obtain ⟨a_2, ha3, hE⟩ := bnE hE
  obtain ⟨hk4, hE⟩ := ckE hE
  obtain ⟨v5, h6, hq7, hE⟩ := bdE hE
  refine r_callV1 (rest := []) (hc := (Ho_chance_ok g N _ _ _ _ _ _ _ hq7 D2 (by omega))) rfl pm_Ho_chance lw_5_75 im_Ho_chance sl_Ho_chance ha3 rfl rfl (rcOK hk4 rfl) (by decide) ?_
  refine r_istore rfl (by decide) ?_
  refine r_iload rfl rfl ?_
  refine r_if_ne (tgt := 19) rfl (by decide) (fun hc8 => ?_) (fun hc8 => ?_)
  · have hE := ifP hc8 hE
    cases hE
    exact r_ret rfl (Or.inr (Or.inr (Or.inr ⟨rfl, rfl, rfl, rfl⟩)))
  · have hE := ifN hc8 hE
    refine r_iload rfl rfl ?_
    refine r_iload rfl rfl ?_
    refine r_iadd rfl ?_
    refine r_istore rfl (by decide) ?_
    refine r_iload rfl rfl ?_
    refine r_if_le (tgt := 47) rfl (by decide) (fun hc9 => ?_) (fun hc9 => ?_)
    · have hE := ifP hc9 hE
      refine r_iconst 0 rfl ci_0 ?_
      first | exact r_sb (Rd_spreadCallers_b48_ok g N _ hD   _ _ _ _ _ _ _ _ _ hE) ⟨rfl, rfl, rfl, rfl, rfl, trivial⟩ | exact r_sb (Rd_spreadCallers_b48_ok g N _ hD   _ _ _ _ _ _ _ _ _ hE) (by simp only [su1, su2, dr1_rf, dr1_in, dr1_lo, dr2_rf, dr2_in, dr2_lo]; exact ⟨rfl, rfl, rfl, rfl, rfl, trivial⟩)
    · have hE := ifN hc9 hE
      refine r_aload_n (t := some a0) 0 rfl rfl rfl ?_
      obtain ⟨hk10, hE⟩ := ckE hE
      refine r_getR rfl (fl_5_26 rfl) (Or.inl ⟨_, rfl⟩) rfl hk10 ?_
      refine r_iload_n 1 rfl rfl rfl ?_
      refine r_iload_n 2 rfl rfl rfl ?_
      refine r_iload_n 3 rfl rfl rfl ?_
      refine r_iconst 0 rfl ci_0 ?_
      refine r_iload rfl rfl ?_
      obtain ⟨a_11, ha12, hE⟩ := bnE hE
      obtain ⟨hk13, hE⟩ := ckE hE
      obtain ⟨v14, h15, hq16, hE⟩ := bdE hE
      refine r_callV1 (rest := []) (hc := (Me_giveOf_ok g N _ _ _ _ _ _ _ _ _ hq16 D2 (by omega))) rfl pm_Me_giveOf lw_5_79 im_Me_giveOf sl_Me_giveOf ha12 rfl rfl (rcOK hk13 rfl) (by decide) ?_
      refine r_goto (tgt := 48) rfl (by decide) ?_
      first | exact r_sb (Rd_spreadCallers_b48_ok g N _ hD   _ _ _ _ _ _ _ _ _ hE) ⟨rfl, rfl, rfl, rfl, rfl, trivial⟩ | exact r_sb (Rd_spreadCallers_b48_ok g N _ hD   _ _ _ _ _ _ _ _ _ hE) (by simp only [su1, su2, dr1_rf, dr1_in, dr1_lo, dr2_rf, dr2_in, dr2_lo]; exact ⟨rfl, rfl, rfl, rfl, rfl, trivial⟩)
def Rd_spread_b58 (N : Nat) (self_2 : Nat → Int32 → Int32 → Int32 → PH → Option (Unit × PH)) (self_16 : Nat → Int32 → Int32 → Int32 → Int32 → PH → Option (Unit × PH)) (a0 : Nat) (x1 : Int32) (x2 : Int32) (x3 : Int32) (x4 : Int32) (h : PH) : Option (Unit × PH) :=
  self_16 a0 x1 x2 x3 (x4 + 1) h
set_option maxRecDepth 20000 in
theorem Rd_spread_b58_ok (g : GT) (N : Nat) (D : Nat) (hD : 3 ≤ D) (self_2 : Nat → Int32 → Int32 → Int32 → PH → Option (Unit × PH)) (hself_2 : ∀ (a0 : Nat) (x1 : Int32) (x2 : Int32) (x3 : Int32) (h : PH) (v : Unit) (h' : PH), self_2 a0 x1 x2 x3 h = some (v, h') → Run g pRd_spread D 2 [(0, va_rf (some a0)), (1, .int x1), (2, .int x2), (3, .int x3)] [] h (rV v) h') (self_16 : Nat → Int32 → Int32 → Int32 → Int32 → PH → Option (Unit × PH)) (hself_16 : ∀ (a0 : Nat) (x1 : Int32) (x2 : Int32) (x3 : Int32) (x4 : Int32) (h : PH) (v : Unit) (h' : PH), self_16 a0 x1 x2 x3 x4 h = some (v, h') → Run g pRd_spread D 16 [(0, va_rf (some a0)), (1, .int x1), (2, .int x2), (3, .int x3), (4, .int x4)] [] h (rV v) h') : ∀ (a0 : Nat) (x1 : Int32) (x2 : Int32) (x3 : Int32) (x4 : Int32) (h : PH) (v : Unit) (h' : PH), Rd_spread_b58 N self_2 self_16 a0 x1 x2 x3 x4 h = some (v, h') → Run g pRd_spread D 58 [(0, va_rf (some a0)), (1, .int x1), (2, .int x2), (3, .int x3), (4, .int x4)] [] h (rV v) h' := by
  obtain ⟨D2, rfl⟩ : ∃ d, D = d + 1 := ⟨D - 1, by omega⟩
  intro a0 x1 x2 x3 x4 h v h' hE
  unfold Rd_spread_b58 at hE
  refine r_iinc _ rfl rfl (congrArg _ ci_1) (by decide) ?_
  refine r_goto (tgt := 16) rfl (by decide) ?_
  first | exact r_sb (hself_16 _ _ _ _ _ _ _ _ hE) ⟨rfl, rfl, rfl, rfl, rfl, trivial⟩ | exact r_sb (hself_16 _ _ _ _ _ _ _ _ hE) (by simp only [su1, su2, dr1_rf, dr1_in, dr1_lo, dr2_rf, dr2_in, dr2_lo]; exact ⟨rfl, rfl, rfl, rfl, rfl, trivial⟩)
def Rd_spread_b35 (N : Nat) (self_2 : Nat → Int32 → Int32 → Int32 → PH → Option (Unit × PH)) (self_16 : Nat → Int32 → Int32 → Int32 → Int32 → PH → Option (Unit × PH)) : Nat → Nat → Int32 → Int32 → Int32 → Int32 → Int32 → PH → Option (Unit × PH)
  | 0 => fun _ _ _ _ _ _ _ => none
  | n + 1 => fun a0 x1 x2 x3 x4 x5 h =>
    if 3 < x5 then
      Rd_spread_b58 N self_2 self_16  a0 x1 x2 x3 x4 h
    else
      ck ((hK h a0).1 = 5) <|
      bd (Rd_spreadCallers N a0 x1 x2 x3 x4 x5 h) fun v3 h4 =>
      (Rd_spread_b35 N self_2 self_16 n) a0 x1 x2 x3 x4 (x5 + 1) h4
set_option maxRecDepth 20000 in
theorem Rd_spread_b35_ok (g : GT) (N : Nat) (D : Nat) (hD : 3 ≤ D) (self_2 : Nat → Int32 → Int32 → Int32 → PH → Option (Unit × PH)) (hself_2 : ∀ (a0 : Nat) (x1 : Int32) (x2 : Int32) (x3 : Int32) (h : PH) (v : Unit) (h' : PH), self_2 a0 x1 x2 x3 h = some (v, h') → Run g pRd_spread D 2 [(0, va_rf (some a0)), (1, .int x1), (2, .int x2), (3, .int x3)] [] h (rV v) h') (self_16 : Nat → Int32 → Int32 → Int32 → Int32 → PH → Option (Unit × PH)) (hself_16 : ∀ (a0 : Nat) (x1 : Int32) (x2 : Int32) (x3 : Int32) (x4 : Int32) (h : PH) (v : Unit) (h' : PH), self_16 a0 x1 x2 x3 x4 h = some (v, h') → Run g pRd_spread D 16 [(0, va_rf (some a0)), (1, .int x1), (2, .int x2), (3, .int x3), (4, .int x4)] [] h (rV v) h') : ∀ (n : Nat) (a0 : Nat) (x1 : Int32) (x2 : Int32) (x3 : Int32) (x4 : Int32) (x5 : Int32) (h : PH) (v : Unit) (h' : PH), Rd_spread_b35 N self_2 self_16 n a0 x1 x2 x3 x4 x5 h = some (v, h') → Run g pRd_spread D 35 [(0, va_rf (some a0)), (1, .int x1), (2, .int x2), (3, .int x3), (4, .int x4), (5, .int x5)] [] h (rV v) h' := by
  obtain ⟨D2, rfl⟩ : ∃ d, D = d + 1 := ⟨D - 1, by omega⟩
  intro n
  induction n with
  | zero => exact fun _ _ _ _ _ _ _ _ _ hE => nomatch (show none = some _ from hE)
  | succ n ih =>
    intro a0 x1 x2 x3 x4 x5 h v h' hE
    unfold Rd_spread_b35 at hE
    refine r_iload rfl rfl ?_
    refine r_iconst 3 rfl ci_3 ?_
    refine r_icmp_gt (tgt := 58) rfl (by decide) (fun hc1 => ?_) (fun hc1 => ?_)
    · have hE := ifP hc1 hE
      first | exact r_sb (Rd_spread_b58_ok g N _ hD _ hself_2 _ hself_16  _ _ _ _ _ _ _ _ hE) ⟨rfl, rfl, rfl, rfl, rfl, trivial⟩ | exact r_sb (Rd_spread_b58_ok g N _ hD _ hself_2 _ hself_16  _ _ _ _ _ _ _ _ hE) (by simp only [su1, su2, dr1_rf, dr1_in, dr1_lo, dr2_rf, dr2_in, dr2_lo]; exact ⟨rfl, rfl, rfl, rfl, rfl, trivial⟩)
    · have hE := ifN hc1 hE
      refine r_aload_n (t := some a0) 0 rfl rfl rfl ?_
      refine r_iload_n 1 rfl rfl rfl ?_
      refine r_iload_n 2 rfl rfl rfl ?_
      refine r_iload_n 3 rfl rfl rfl ?_
      refine r_iload rfl rfl ?_
      refine r_iload rfl rfl ?_
      obtain ⟨hk2, hE⟩ := ckE hE
      obtain ⟨v3, h4, hq5, hE⟩ := bdE hE
      refine r_callV0 (rest := []) (hc := (Rd_spreadCallers_ok g N _ _ _ _ _ _ _ _ _ hq5 D2 (by omega))) rfl pm_Rd_spreadCallers lw_5_71 im_Rd_spreadCallers sl_Rd_spreadCallers rfl rfl rfl (rcOK hk2 rfl) (by decide) ?_
      refine r_iinc _ rfl rfl (congrArg _ ci_1) (by decide) ?_
      refine r_goto (tgt := 35) rfl (by decide) ?_
      first | exact r_sb (ih _ _ _ _ _ _ _ _ _ hE) ⟨rfl, rfl, rfl, rfl, rfl, rfl, trivial⟩ | exact r_sb (ih _ _ _ _ _ _ _ _ _ hE) (by simp only [su1, su2, dr1_rf, dr1_in, dr1_lo, dr2_rf, dr2_in, dr2_lo]; exact ⟨rfl, rfl, rfl, rfl, rfl, rfl, trivial⟩)
def Rd_spread_b16 (N : Nat) (self_2 : Nat → Int32 → Int32 → Int32 → PH → Option (Unit × PH)) : Nat → Nat → Int32 → Int32 → Int32 → Int32 → PH → Option (Unit × PH)
  | 0 => fun _ _ _ _ _ _ => none
  | n + 1 => fun a0 x1 x2 x3 x4 h =>
    if 1 < x4 then
      self_2 a0 x1 x2 (x3 + 1) h
    else
      ck ((hK h a0).1 = 5) <|
      bd (Rd_isLikely N a0 x3 x4 h) fun v3 h4 =>
      if (bI v3) = 0 then
        Rd_spread_b58 N self_2 (Rd_spread_b16 N self_2 n)  a0 x1 x2 x3 x4 h4
      else
        Rd_spread_b35 N self_2 (Rd_spread_b16 N self_2 n) N a0 x1 x2 x3 x4 0 h4
set_option maxRecDepth 20000 in
theorem Rd_spread_b16_ok (g : GT) (N : Nat) (D : Nat) (hD : 3 ≤ D) (self_2 : Nat → Int32 → Int32 → Int32 → PH → Option (Unit × PH)) (hself_2 : ∀ (a0 : Nat) (x1 : Int32) (x2 : Int32) (x3 : Int32) (h : PH) (v : Unit) (h' : PH), self_2 a0 x1 x2 x3 h = some (v, h') → Run g pRd_spread D 2 [(0, va_rf (some a0)), (1, .int x1), (2, .int x2), (3, .int x3)] [] h (rV v) h') : ∀ (n : Nat) (a0 : Nat) (x1 : Int32) (x2 : Int32) (x3 : Int32) (x4 : Int32) (h : PH) (v : Unit) (h' : PH), Rd_spread_b16 N self_2 n a0 x1 x2 x3 x4 h = some (v, h') → Run g pRd_spread D 16 [(0, va_rf (some a0)), (1, .int x1), (2, .int x2), (3, .int x3), (4, .int x4)] [] h (rV v) h' := by
  obtain ⟨D2, rfl⟩ : ∃ d, D = d + 1 := ⟨D - 1, by omega⟩
  intro n
  induction n with
  | zero => exact fun _ _ _ _ _ _ _ _ hE => nomatch (show none = some _ from hE)
  | succ n ih =>
    intro a0 x1 x2 x3 x4 h v h' hE
    unfold Rd_spread_b16 at hE
    refine r_iload rfl rfl ?_
    refine r_iconst 1 rfl ci_1 ?_
    refine r_icmp_gt (tgt := 64) rfl (by decide) (fun hc1 => ?_) (fun hc1 => ?_)
    · have hE := ifP hc1 hE
      refine r_iinc _ rfl rfl (congrArg _ ci_1) (by decide) ?_
      refine r_goto (tgt := 2) rfl (by decide) ?_
      first | exact r_sb (hself_2 _ _ _ _ _ _ _ hE) ⟨rfl, rfl, rfl, rfl, trivial⟩ | exact r_sb (hself_2 _ _ _ _ _ _ _ hE) (by simp only [su1, su2, dr1_rf, dr1_in, dr1_lo, dr2_rf, dr2_in, dr2_lo]; exact ⟨rfl, rfl, rfl, rfl, trivial⟩)
    · have hE := ifN hc1 hE
      refine r_aload_n (t := some a0) 0 rfl rfl rfl ?_
      refine r_iload_n 3 rfl rfl rfl ?_
      refine r_iload rfl rfl ?_
      obtain ⟨hk2, hE⟩ := ckE hE
      obtain ⟨v3, h4, hq5, hE⟩ := bdE hE
      refine r_callV1 (rest := []) (hc := (Rd_isLikely_ok g N _ _ _ _ _ _ hq5 D2 (by omega))) rfl pm_Rd_isLikely lw_5_67 im_Rd_isLikely sl_Rd_isLikely rfl rfl rfl (rcOK hk2 rfl) (by decide) ?_
      refine r_if_eq (tgt := 58) rfl (by decide) (fun hc6 => ?_) (fun hc6 => ?_)
      · have hE := ifP hc6 hE
        first | exact r_sb (Rd_spread_b58_ok g N _ hD _ hself_2 _ ih  _ _ _ _ _ _ _ _ hE) ⟨rfl, rfl, rfl, rfl, rfl, trivial⟩ | exact r_sb (Rd_spread_b58_ok g N _ hD _ hself_2 _ ih  _ _ _ _ _ _ _ _ hE) (by simp only [su1, su2, dr1_rf, dr1_in, dr1_lo, dr2_rf, dr2_in, dr2_lo]; exact ⟨rfl, rfl, rfl, rfl, rfl, trivial⟩)
      · have hE := ifN hc6 hE
        refine r_iconst 0 rfl ci_0 ?_
        refine r_istore rfl (by decide) ?_
        first | exact r_sb (Rd_spread_b35_ok g N _ hD _ hself_2 _ ih N _ _ _ _ _ _ _ _ _ hE) ⟨rfl, rfl, rfl, rfl, rfl, rfl, trivial⟩ | exact r_sb (Rd_spread_b35_ok g N _ hD _ hself_2 _ ih N _ _ _ _ _ _ _ _ _ hE) (by simp only [su1, su2, dr1_rf, dr1_in, dr1_lo, dr2_rf, dr2_in, dr2_lo]; exact ⟨rfl, rfl, rfl, rfl, rfl, rfl, trivial⟩)
def Rd_spread_b2 (N : Nat) : Nat → Nat → Int32 → Int32 → Int32 → PH → Option (Unit × PH)
  | 0 => fun _ _ _ _ _ => none
  | n + 1 => fun a0 x1 x2 x3 h =>
    ck ((hK h a0).1 = 5) <|
    ((hR h a0 0)).bind fun a_2 =>
    ck ((hK h a_2).1 = 0) <|
    if (hI h a_2 1) < x3 then
      some ((), h)
    else
      Rd_spread_b16 N (Rd_spread_b2 N n) N a0 x1 x2 x3 0 h
set_option maxRecDepth 20000 in
theorem Rd_spread_b2_ok (g : GT) (N : Nat) (D : Nat) (hD : 3 ≤ D) : ∀ (n : Nat) (a0 : Nat) (x1 : Int32) (x2 : Int32) (x3 : Int32) (h : PH) (v : Unit) (h' : PH), Rd_spread_b2 N n a0 x1 x2 x3 h = some (v, h') → Run g pRd_spread D 2 [(0, va_rf (some a0)), (1, .int x1), (2, .int x2), (3, .int x3)] [] h (rV v) h' := by
  obtain ⟨D2, rfl⟩ : ∃ d, D = d + 1 := ⟨D - 1, by omega⟩
  intro n
  induction n with
  | zero => exact fun _ _ _ _ _ _ _ hE => nomatch (show none = some _ from hE)
  | succ n ih =>
    intro a0 x1 x2 x3 h v h' hE
    unfold Rd_spread_b2 at hE
    refine r_iload_n 3 rfl rfl rfl ?_
    refine r_aload_n (t := some a0) 0 rfl rfl rfl ?_
    obtain ⟨hk1, hE⟩ := ckE hE
    refine r_getR rfl (fl_5_22 rfl) (Or.inl ⟨_, rfl⟩) rfl hk1 ?_
    obtain ⟨a_2, ha3, hE⟩ := bnE hE
    obtain ⟨hk4, hE⟩ := ckE hE
    refine r_getI rfl (fl_5_35 rfl) (Or.inl rfl) ha3 hk4 ?_
    refine r_icmp_gt (tgt := 70) rfl (by decide) (fun hc5 => ?_) (fun hc5 => ?_)
    · have hE := ifP hc5 hE
      cases hE
      exact r_ret rfl (Or.inr (Or.inr (Or.inr ⟨rfl, rfl, rfl, rfl⟩)))
    · have hE := ifN hc5 hE
      refine r_iconst 0 rfl ci_0 ?_
      refine r_istore rfl (by decide) ?_
      first | exact r_sb (Rd_spread_b16_ok g N _ hD _ ih N _ _ _ _ _ _ _ _ hE) ⟨rfl, rfl, rfl, rfl, rfl, trivial⟩ | exact r_sb (Rd_spread_b16_ok g N _ hD _ ih N _ _ _ _ _ _ _ _ hE) (by simp only [su1, su2, dr1_rf, dr1_in, dr1_lo, dr2_rf, dr2_in, dr2_lo]; exact ⟨rfl, rfl, rfl, rfl, rfl, trivial⟩)
def Rd_spread (N : Nat) (a0 : Nat) (x1 : Int32) (x2 : Int32) (h : PH) : Option (Unit × PH) :=
  Rd_spread_b2 N N a0 x1 x2 0 h
set_option maxRecDepth 20000 in
theorem Rd_spread_ok (g : GT) (N : Nat) (a0 : Nat) (x1 : Int32) (x2 : Int32) (h : PH) (v : Unit) (h' : PH) (hE : Rd_spread N a0 x1 x2 h = some (v, h')) (D : Nat) (hD : 3 ≤ D) : Calls g D pRd_spread [va_rf (some a0), .int x1, .int x2] h (oV v) h' := by
  refine Calls.of cok_Rd_spread ht_Rd_spread pl_Rd_spread (fun ad => by rw [lg_len, sL_cat]; simp only [List.map_cons, List.map_nil, rf_cat, cat_i, cat_l, List.sum_cons, List.sum_nil]; decide) ?_
  rw [show lv_args 0 [va_rf (some a0), .int x1, .int x2] = [(0, va_rf (some a0)), (1, .int x1), (2, .int x2)] from (by simp only [lv_args, rf_cat, cat_i, cat_l]; try rfl)]
  obtain ⟨D2, rfl⟩ : ∃ d, D = d + 1 := ⟨D - 1, by omega⟩
  unfold Rd_spread at hE
  refine r_iconst 0 rfl ci_0 ?_
  refine r_istore_n 3 rfl rfl (by decide) ?_
  first | exact r_sb (Rd_spread_b2_ok g N _ hD  N _ _ _ _ _ _ _ hE) ⟨rfl, rfl, rfl, rfl, trivial⟩ | exact r_sb (Rd_spread_b2_ok g N _ hD  N _ _ _ _ _ _ _ hE) (by simp only [su1, su2, dr1_rf, dr1_in, dr1_lo, dr2_rf, dr2_in, dr2_lo]; exact ⟨rfl, rfl, rfl, rfl, trivial⟩)
def Rd_tell_b133 (N : Nat) (self_89 : Nat → Int32 → Int32 → Int32 → Int32 → PH → Option (Unit × PH)) : Nat → Nat → Int32 → Int32 → Int32 → Int32 → Int32 → PH → Option (Unit × PH)
  | 0 => fun _ _ _ _ _ _ _ => none
  | n + 1 => fun a0 x1 x2 x3 x4 x6 h =>
    if x3 ≤ x6 then
      self_89 a0 x1 x2 x3 (x4 + 1) h
    else
      ck ((hK h a0).1 = 5) <|
      bd (Le_at N (hR h a0 4) x6 h) fun v3 h4 =>
      ck (¬ (10 : Int32) = 0) <|
      bd (Le_put N (hR h a0 4) x6 (v3 / 10) h4) fun v7 h8 =>
      (Rd_tell_b133 N self_89 n) a0 x1 x2 x3 x4 (x6 + 1) h8
set_option maxRecDepth 20000 in
theorem Rd_tell_b133_ok (g : GT) (N : Nat) (D : Nat) (hD : 4 ≤ D) (self_89 : Nat → Int32 → Int32 → Int32 → Int32 → PH → Option (Unit × PH)) (hself_89 : ∀ (a0 : Nat) (x1 : Int32) (x2 : Int32) (x3 : Int32) (x4 : Int32) (h : PH) (v : Unit) (h' : PH), self_89 a0 x1 x2 x3 x4 h = some (v, h') → Run g pRd_tell D 89 [(0, va_rf (some a0)), (1, .int x1), (2, .int x2), (3, .int x3), (4, .int x4)] [] h (rV v) h') : ∀ (n : Nat) (a0 : Nat) (x1 : Int32) (x2 : Int32) (x3 : Int32) (x4 : Int32) (x6 : Int32) (h : PH) (v : Unit) (h' : PH), Rd_tell_b133 N self_89 n a0 x1 x2 x3 x4 x6 h = some (v, h') → Run g pRd_tell D 133 [(0, va_rf (some a0)), (1, .int x1), (2, .int x2), (3, .int x3), (4, .int x4), (6, .int x6)] [] h (rV v) h' := by
  obtain ⟨D2, rfl⟩ : ∃ d, D = d + 1 := ⟨D - 1, by omega⟩
  intro n
  induction n with
  | zero => exact fun _ _ _ _ _ _ _ _ _ hE => nomatch (show none = some _ from hE)
  | succ n ih =>
    intro a0 x1 x2 x3 x4 x6 h v h' hE
    unfold Rd_tell_b133 at hE
    refine r_iload rfl rfl ?_
    refine r_iload_n 3 rfl rfl rfl ?_
    refine r_icmp_ge (tgt := 166) rfl (by decide) (fun hc1 => ?_) (fun hc1 => ?_)
    · have hE := ifP hc1 hE
      refine r_iinc _ rfl rfl (congrArg _ ci_1) (by decide) ?_
      refine r_goto (tgt := 89) rfl (by decide) ?_
      first | exact r_sb (hself_89 _ _ _ _ _ _ _ _ hE) ⟨rfl, rfl, rfl, rfl, rfl, trivial⟩ | exact r_sb (hself_89 _ _ _ _ _ _ _ _ hE) (by simp only [su1, su2, dr1_rf, dr1_in, dr1_lo, dr2_rf, dr2_in, dr2_lo]; exact ⟨rfl, rfl, rfl, rfl, rfl, trivial⟩)
    · have hE := ifN hc1 hE
      refine r_aload_n (t := some a0) 0 rfl rfl rfl ?_
      obtain ⟨hk2, hE⟩ := ckE hE
      refine r_getR rfl (fl_5_19 rfl) (Or.inr ⟨_, rfl⟩) rfl hk2 ?_
      refine r_iload rfl rfl ?_
      refine r_aload_n (t := some a0) 0 rfl rfl rfl ?_
      refine r_getR rfl (fl_5_19 rfl) (Or.inr ⟨_, rfl⟩) rfl hk2 ?_
      refine r_iload rfl rfl ?_
      obtain ⟨v3, h4, hq5, hE⟩ := bdE hE
      refine r_callSN1 (rest := [.int x6, va_rf (hR h a0 4)]) (hc := (Le_at_ok g N _ _ _ _ _ hq5 D2 (by omega))) rfl pm_Le_at lw_5_59 st_Le_at rfl rfl (by simp only [List.map_cons, List.map_nil, rf_cat, cat_i, cat_l, List.sum_cons, List.sum_nil]; decide) ?_
      refine r_bipush 10 rfl cb_10 ?_
      obtain ⟨hc6, hE⟩ := ckE hE
      refine r_idiv rfl hc6 ?_
      obtain ⟨v7, h8, hq9, hE⟩ := bdE hE
      refine r_callSN0 (rest := []) (hc := (Le_put_ok g N _ _ _ _ _ _ hq9 D2 (by omega))) rfl pm_Le_put lw_5_51 st_Le_put rfl rfl (by decide) ?_
      refine r_iinc _ rfl rfl (congrArg _ ci_1) (by decide) ?_
      refine r_goto (tgt := 133) rfl (by decide) ?_
      first | exact r_sb (ih _ _ _ _ _ _ _ _ _ hE) ⟨rfl, rfl, rfl, rfl, rfl, rfl, trivial⟩ | exact r_sb (ih _ _ _ _ _ _ _ _ _ hE) (by simp only [su1, su2, dr1_rf, dr1_in, dr1_lo, dr2_rf, dr2_in, dr2_lo]; exact ⟨rfl, rfl, rfl, rfl, rfl, rfl, trivial⟩)
def Rd_tell_b89 (N : Nat) : Nat → Nat → Int32 → Int32 → Int32 → Int32 → PH → Option (Unit × PH)
  | 0 => fun _ _ _ _ _ _ => none
  | n + 1 => fun a0 x1 x2 x3 x4 h =>
    if x2 ≤ x4 then
      some ((), h)
    else
      ck ((hK h a0).1 = 5) <|
      lt0 (wR h a0 3 (hR h a0 4)) fun h3 =>
      lt0 (wR h3 a0 4 (hR h a0 3)) fun h5 =>
      bd (Rd_clear N (hR h5 a0 4) x3 h5) fun v7 h8 =>
      ck ((hK h8 a0).1 = 5) <|
      bd (Rd_spread N a0 x1 x4 h8) fun v11 h12 =>
      Rd_tell_b133 N (Rd_tell_b89 N n) N a0 x1 x2 x3 x4 0 h12
set_option maxRecDepth 20000 in
theorem Rd_tell_b89_ok (g : GT) (N : Nat) (D : Nat) (hD : 4 ≤ D) : ∀ (n : Nat) (a0 : Nat) (x1 : Int32) (x2 : Int32) (x3 : Int32) (x4 : Int32) (h : PH) (v : Unit) (h' : PH), Rd_tell_b89 N n a0 x1 x2 x3 x4 h = some (v, h') → Run g pRd_tell D 89 [(0, va_rf (some a0)), (1, .int x1), (2, .int x2), (3, .int x3), (4, .int x4)] [] h (rV v) h' := by
  obtain ⟨D2, rfl⟩ : ∃ d, D = d + 1 := ⟨D - 1, by omega⟩
  intro n
  induction n with
  | zero => exact fun _ _ _ _ _ _ _ _ hE => nomatch (show none = some _ from hE)
  | succ n ih =>
    intro a0 x1 x2 x3 x4 h v h' hE
    unfold Rd_tell_b89 at hE
    refine r_iload rfl rfl ?_
    refine r_iload_n 2 rfl rfl rfl ?_
    refine r_icmp_ge (tgt := 172) rfl (by decide) (fun hc1 => ?_) (fun hc1 => ?_)
    · have hE := ifP hc1 hE
      cases hE
      exact r_ret rfl (Or.inr (Or.inr (Or.inr ⟨rfl, rfl, rfl, rfl⟩)))
    · have hE := ifN hc1 hE
      refine r_aload_n (t := some a0) 0 rfl rfl rfl ?_
      obtain ⟨hk2, hE⟩ := ckE hE
      refine r_getR rfl (fl_5_15 rfl) (Or.inr ⟨_, rfl⟩) rfl hk2 ?_
      refine r_astore rfl (by decide) ?_
      refine r_aload_n (t := some a0) 0 rfl rfl rfl ?_
      refine r_aload_n (t := some a0) 0 rfl rfl rfl ?_
      refine r_getR rfl (fl_5_19 rfl) (Or.inr ⟨_, rfl⟩) rfl hk2 ?_
      obtain ⟨h3, he4, hE⟩ := ltE hE
      refine r_putR rfl (fl_5_15 rfl) (Or.inr ⟨_, rfl⟩) finF rfl hk2 he4 ?_
      refine r_aload_n (t := some a0) 0 rfl rfl rfl ?_
      refine r_aload (t := (hR h a0 3)) rfl rfl ?_
      obtain ⟨h5, he6, hE⟩ := ltE hE
      refine r_putR rfl (fl_5_19 rfl) (Or.inr ⟨_, rfl⟩) finF rfl (kwR he4 hk2) he6 ?_
      refine r_aload_n (t := some a0) 0 rfl rfl rfl ?_
      refine r_getR rfl (fl_5_19 rfl) (Or.inr ⟨_, rfl⟩) rfl (kwR he6 (kwR he4 hk2)) ?_
      refine r_iload_n 3 rfl rfl rfl ?_
      obtain ⟨v7, h8, hq9, hE⟩ := bdE hE
      refine r_callS0 (rest := []) (hc := (Rd_clear_ok g N _ _ _ _ _ hq9 D2 (by omega))) rfl pm_Rd_clear lw_5_42 st_Rd_clear rfl rfl (by decide) ?_
      refine r_aload_n (t := some a0) 0 rfl rfl rfl ?_
      refine r_iload_n 1 rfl rfl rfl ?_
      refine r_iload rfl rfl ?_
      obtain ⟨hk10, hE⟩ := ckE hE
      obtain ⟨v11, h12, hq13, hE⟩ := bdE hE
      refine r_callV0 (rest := []) (hc := (Rd_spread_ok g N _ _ _ _ _ _ hq13 D2 (by omega))) rfl pm_Rd_spread lw_5_55 im_Rd_spread sl_Rd_spread rfl rfl rfl (rcOK hk10 rfl) (by decide) ?_
      refine r_iconst 0 rfl ci_0 ?_
      refine r_istore rfl (by decide) ?_
      first | exact r_sb (Rd_tell_b133_ok g N _ hD _ ih N _ _ _ _ _ _ _ _ _ hE) ⟨rfl, rfl, rfl, rfl, rfl, rfl, trivial⟩ | exact r_sb (Rd_tell_b133_ok g N _ hD _ ih N _ _ _ _ _ _ _ _ _ hE) (by simp only [su1, su2, dr1_rf, dr1_in, dr1_lo, dr2_rf, dr2_in, dr2_lo]; exact ⟨rfl, rfl, rfl, rfl, rfl, rfl, trivial⟩)
def Rd_tell (N : Nat) (a0 : Nat) (x1 : Int32) (x2 : Int32) (h : PH) : Option (Unit × PH) :=
  ck ((hK h a0).1 = 5) <|
  ((hR h a0 0)).bind fun a_2 =>
  ck ((hK h a_2).1 = 0) <|
  lt0 (wI h a0 2 (((hI h a_2 0) * 4) + 1)) fun h5 =>
  ((hR h5 a0 0)).bind fun a_7 =>
  ck ((hK h5 a_7).1 = 0) <|
  bd (Le_roomFor N (hR h5 a0 3) ((((hI h5 a_7 1) + 1) * (hI h5 a0 2)) * 2) h5) fun v10 h11 =>
  ck ((hK h11 a0).1 = 5) <|
  lt0 (wR h11 a0 3 v10) fun h14 =>
  bd (Le_roomFor N (hR h14 a0 4) ((((hI h5 a_7 1) + 1) * (hI h5 a0 2)) * 2) h14) fun v16 h17 =>
  ck ((hK h17 a0).1 = 5) <|
  lt0 (wR h17 a0 4 v16) fun h20 =>
  bd (Rd_clear N (hR h20 a0 4) ((((hI h5 a_7 1) + 1) * (hI h5 a0 2)) * 2) h20) fun v22 h23 =>
  ck ((hK h23 a0).1 = 5) <|
  ((hR h23 a0 0)).bind fun a_26 =>
  ck ((hK h23 a_26).1 = 0) <|
  bd (Rd_placeOf N a0 (hI h23 a_26 1) 0 0 h23) fun v29 h30 =>
  bd (Le_put N (hR h23 a0 4) v29 1000000 h30) fun v32 h33 =>
  Rd_tell_b89 N N a0 x1 x2 ((((hI h5 a_7 1) + 1) * (hI h5 a0 2)) * 2) 0 h33
set_option maxRecDepth 20000 in
theorem Rd_tell_ok (g : GT) (N : Nat) (a0 : Nat) (x1 : Int32) (x2 : Int32) (h : PH) (v : Unit) (h' : PH) (hE : Rd_tell N a0 x1 x2 h = some (v, h')) (D : Nat) (hD : 4 ≤ D) : Calls g D pRd_tell [va_rf (some a0), .int x1, .int x2] h (oV v) h' := by
  refine Calls.of cok_Rd_tell ht_Rd_tell pl_Rd_tell (fun ad => by rw [lg_len, sL_cat]; simp only [List.map_cons, List.map_nil, rf_cat, cat_i, cat_l, List.sum_cons, List.sum_nil]; decide) ?_
  rw [show lv_args 0 [va_rf (some a0), .int x1, .int x2] = [(0, va_rf (some a0)), (1, .int x1), (2, .int x2)] from (by simp only [lv_args, rf_cat, cat_i, cat_l]; try rfl)]
  obtain ⟨D2, rfl⟩ : ∃ d, D = d + 1 := ⟨D - 1, by omega⟩
  unfold Rd_tell at hE
  refine r_aload_n (t := some a0) 0 rfl rfl rfl ?_
  refine r_aload_n (t := some a0) 0 rfl rfl rfl ?_
  obtain ⟨hk1, hE⟩ := ckE hE
  refine r_getR rfl (fl_5_22 rfl) (Or.inl ⟨_, rfl⟩) rfl hk1 ?_
  obtain ⟨a_2, ha3, hE⟩ := bnE hE
  obtain ⟨hk4, hE⟩ := ckE hE
  refine r_getI rfl (fl_5_30 rfl) (Or.inl rfl) ha3 hk4 ?_
  refine r_iconst 4 rfl ci_4 ?_
  refine r_imul rfl ?_
  refine r_iconst 1 rfl ci_1 ?_
  refine r_iadd rfl ?_
  obtain ⟨h5, he6, hE⟩ := ltE hE
  refine r_putI rfl (fl_5_9 rfl) finF rfl hk1 he6 ?_
  refine r_aload_n (t := some a0) 0 rfl rfl rfl ?_
  refine r_getR rfl (fl_5_22 rfl) (Or.inl ⟨_, rfl⟩) rfl (kwI he6 hk1) ?_
  obtain ⟨a_7, ha8, hE⟩ := bnE hE
  obtain ⟨hk9, hE⟩ := ckE hE
  refine r_getI rfl (fl_5_35 rfl) (Or.inl rfl) ha8 hk9 ?_
  refine r_iconst 1 rfl ci_1 ?_
  refine r_iadd rfl ?_
  refine r_aload_n (t := some a0) 0 rfl rfl rfl ?_
  refine r_getI rfl (fl_5_9 rfl) (Or.inl rfl) rfl (kwI he6 hk1) ?_
  refine r_imul rfl ?_
  refine r_iconst 2 rfl ci_2 ?_
  refine r_imul rfl ?_
  refine r_istore_n 3 rfl rfl (by decide) ?_
  refine r_aload_n (t := some a0) 0 rfl rfl rfl ?_
  refine r_aload_n (t := some a0) 0 rfl rfl rfl ?_
  refine r_getR rfl (fl_5_15 rfl) (Or.inr ⟨_, rfl⟩) rfl (kwI he6 hk1) ?_
  refine r_iload_n 3 rfl rfl rfl ?_
  obtain ⟨v10, h11, hq12, hE⟩ := bdE hE
  refine r_callSN1 (rest := [va_rf (some a0)]) (hc := (Le_roomFor_ok g N _ _ _ _ _ hq12 D2 (by omega))) rfl pm_Le_roomFor lw_5_38 st_Le_roomFor rfl rfl (by simp only [List.map_cons, List.map_nil, rf_cat, cat_i, cat_l, List.sum_cons, List.sum_nil]; decide) ?_
  obtain ⟨hk13, hE⟩ := ckE hE
  obtain ⟨h14, he15, hE⟩ := ltE hE
  refine r_putR rfl (fl_5_15 rfl) (Or.inr ⟨_, rfl⟩) finF rfl hk13 he15 ?_
  refine r_aload_n (t := some a0) 0 rfl rfl rfl ?_
  refine r_aload_n (t := some a0) 0 rfl rfl rfl ?_
  refine r_getR rfl (fl_5_19 rfl) (Or.inr ⟨_, rfl⟩) rfl (kwR he15 hk13) ?_
  refine r_iload_n 3 rfl rfl rfl ?_
  obtain ⟨v16, h17, hq18, hE⟩ := bdE hE
  refine r_callSN1 (rest := [va_rf (some a0)]) (hc := (Le_roomFor_ok g N _ _ _ _ _ hq18 D2 (by omega))) rfl pm_Le_roomFor lw_5_38 st_Le_roomFor rfl rfl (by simp only [List.map_cons, List.map_nil, rf_cat, cat_i, cat_l, List.sum_cons, List.sum_nil]; decide) ?_
  obtain ⟨hk19, hE⟩ := ckE hE
  obtain ⟨h20, he21, hE⟩ := ltE hE
  refine r_putR rfl (fl_5_19 rfl) (Or.inr ⟨_, rfl⟩) finF rfl hk19 he21 ?_
  refine r_aload_n (t := some a0) 0 rfl rfl rfl ?_
  refine r_getR rfl (fl_5_19 rfl) (Or.inr ⟨_, rfl⟩) rfl (kwR he21 hk19) ?_
  refine r_iload_n 3 rfl rfl rfl ?_
  obtain ⟨v22, h23, hq24, hE⟩ := bdE hE
  refine r_callS0 (rest := []) (hc := (Rd_clear_ok g N _ _ _ _ _ hq24 D2 (by omega))) rfl pm_Rd_clear lw_5_42 st_Rd_clear rfl rfl (by decide) ?_
  refine r_aload_n (t := some a0) 0 rfl rfl rfl ?_
  obtain ⟨hk25, hE⟩ := ckE hE
  refine r_getR rfl (fl_5_19 rfl) (Or.inr ⟨_, rfl⟩) rfl hk25 ?_
  refine r_aload_n (t := some a0) 0 rfl rfl rfl ?_
  refine r_aload_n (t := some a0) 0 rfl rfl rfl ?_
  refine r_getR rfl (fl_5_22 rfl) (Or.inl ⟨_, rfl⟩) rfl hk25 ?_
  obtain ⟨a_26, ha27, hE⟩ := bnE hE
  obtain ⟨hk28, hE⟩ := ckE hE
  refine r_getI rfl (fl_5_35 rfl) (Or.inl rfl) ha27 hk28 ?_
  refine r_iconst 0 rfl ci_0 ?_
  refine r_iconst 0 rfl ci_0 ?_
  obtain ⟨v29, h30, hq31, hE⟩ := bdE hE
  refine r_callV1 (rest := [va_rf (hR h23 a0 4)]) (hc := (Rd_placeOf_ok g N _ _ _ _ _ _ _ hq31 D2 (by omega))) rfl pm_Rd_placeOf lw_5_46 im_Rd_placeOf sl_Rd_placeOf rfl rfl rfl (rcOK hk25 rfl) (by simp only [List.map_cons, List.map_nil, rf_cat, cat_i, cat_l, List.sum_cons, List.sum_nil]; decide) ?_
  refine r_ldc rfl kc_5_50 ?_
  obtain ⟨v32, h33, hq34, hE⟩ := bdE hE
  refine r_callSN0 (rest := []) (hc := (Le_put_ok g N _ _ _ _ _ _ hq34 D2 (by omega))) rfl pm_Le_put lw_5_51 st_Le_put rfl rfl (by decide) ?_
  refine r_iconst 0 rfl ci_0 ?_
  refine r_istore rfl (by decide) ?_
  first | exact r_sb (Rd_tell_b89_ok g N _ hD  N _ _ _ _ _ _ _ _ hE) ⟨rfl, rfl, rfl, rfl, rfl, trivial⟩ | exact r_sb (Rd_tell_b89_ok g N _ hD  N _ _ _ _ _ _ _ _ hE) (by simp only [su1, su2, dr1_rf, dr1_in, dr1_lo, dr2_rf, dr2_in, dr2_lo]; exact ⟨rfl, rfl, rfl, rfl, rfl, trivial⟩)
def Rd_partOf (N : Nat) (a0 : Nat) (x1 : Int32) (x2 : Int32) (h : PH) : Option (Int32 × PH) :=
  ck ((hK h a0).1 = 5) <|
  ((hR h a0 0)).bind fun a_2 =>
  ck ((hK h a_2).1 = 0) <|
  if x1 ≤ (hI h a_2 1) then
    bd (Rd_placeOf N a0 x1 x2 0 h) fun v6 h7 =>
    bd (Le_at N (hR h a0 4) v6 h7) fun v9 h10 =>
    ck ((hK h10 a0).1 = 5) <|
    bd (Rd_placeOf N a0 x1 x2 1 h10) fun v13 h14 =>
    bd (Le_at N (hR h10 a0 4) v13 h14) fun v16 h17 =>
    some ((v9 + v16), h17)
  else
    some (0, h)
set_option maxRecDepth 20000 in
theorem Rd_partOf_ok (g : GT) (N : Nat) (a0 : Nat) (x1 : Int32) (x2 : Int32) (h : PH) (v : Int32) (h' : PH) (hE : Rd_partOf N a0 x1 x2 h = some (v, h')) (D : Nat) (hD : 1 ≤ D) : Calls g D pRd_partOf [va_rf (some a0), .int x1, .int x2] h (oI v) h' := by
  refine Calls.of cok_Rd_partOf ht_Rd_partOf pl_Rd_partOf (fun ad => by rw [lg_len, sL_cat]; simp only [List.map_cons, List.map_nil, rf_cat, cat_i, cat_l, List.sum_cons, List.sum_nil]; decide) ?_
  rw [show lv_args 0 [va_rf (some a0), .int x1, .int x2] = [(0, va_rf (some a0)), (1, .int x1), (2, .int x2)] from (by simp only [lv_args, rf_cat, cat_i, cat_l]; try rfl)]
  obtain ⟨D2, rfl⟩ : ∃ d, D = d + 1 := ⟨D - 1, by omega⟩
  unfold Rd_partOf at hE
  refine r_iload_n 1 rfl rfl rfl ?_
  refine r_aload_n (t := some a0) 0 rfl rfl rfl ?_
  obtain ⟨hk1, hE⟩ := ckE hE
  refine r_getR rfl (fl_5_22 rfl) (Or.inl ⟨_, rfl⟩) rfl hk1 ?_
  obtain ⟨a_2, ha3, hE⟩ := bnE hE
  obtain ⟨hk4, hE⟩ := ckE hE
  refine r_getI rfl (fl_5_35 rfl) (Or.inl rfl) ha3 hk4 ?_
  refine r_icmp_le (tgt := 13) rfl (by decide) (fun hc5 => ?_) (fun hc5 => ?_)
  · have hE := ifP hc5 hE
    refine r_aload_n (t := some a0) 0 rfl rfl rfl ?_
    refine r_getR rfl (fl_5_19 rfl) (Or.inr ⟨_, rfl⟩) rfl hk1 ?_
    refine r_aload_n (t := some a0) 0 rfl rfl rfl ?_
    refine r_iload_n 1 rfl rfl rfl ?_
    refine r_iload_n 2 rfl rfl rfl ?_
    refine r_iconst 0 rfl ci_0 ?_
    obtain ⟨v6, h7, hq8, hE⟩ := bdE hE
    refine r_callV1 (rest := [va_rf (hR h a0 4)]) (hc := (Rd_placeOf_ok g N _ _ _ _ _ _ _ hq8 D2 (by omega))) rfl pm_Rd_placeOf lw_5_46 im_Rd_placeOf sl_Rd_placeOf rfl rfl rfl (rcOK hk1 rfl) (by simp only [List.map_cons, List.map_nil, rf_cat, cat_i, cat_l, List.sum_cons, List.sum_nil]; decide) ?_
    obtain ⟨v9, h10, hq11, hE⟩ := bdE hE
    refine r_callSN1 (rest := []) (hc := (Le_at_ok g N _ _ _ _ _ hq11 D2 (by omega))) rfl pm_Le_at lw_5_59 st_Le_at rfl rfl (by decide) ?_
    refine r_aload_n (t := some a0) 0 rfl rfl rfl ?_
    obtain ⟨hk12, hE⟩ := ckE hE
    refine r_getR rfl (fl_5_19 rfl) (Or.inr ⟨_, rfl⟩) rfl hk12 ?_
    refine r_aload_n (t := some a0) 0 rfl rfl rfl ?_
    refine r_iload_n 1 rfl rfl rfl ?_
    refine r_iload_n 2 rfl rfl rfl ?_
    refine r_iconst 1 rfl ci_1 ?_
    obtain ⟨v13, h14, hq15, hE⟩ := bdE hE
    refine r_callV1 (rest := [va_rf (hR h10 a0 4), .int v9]) (hc := (Rd_placeOf_ok g N _ _ _ _ _ _ _ hq15 D2 (by omega))) rfl pm_Rd_placeOf lw_5_46 im_Rd_placeOf sl_Rd_placeOf rfl rfl rfl (rcOK hk12 rfl) (by simp only [List.map_cons, List.map_nil, rf_cat, cat_i, cat_l, List.sum_cons, List.sum_nil]; decide) ?_
    obtain ⟨v16, h17, hq18, hE⟩ := bdE hE
    refine r_callSN1 (rest := [.int v9]) (hc := (Le_at_ok g N _ _ _ _ _ hq18 D2 (by omega))) rfl pm_Le_at lw_5_59 st_Le_at rfl rfl (by simp only [List.map_cons, List.map_nil, rf_cat, cat_i, cat_l, List.sum_cons, List.sum_nil]; decide) ?_
    refine r_iadd rfl ?_
    cases hE
    exact r_ret rfl (Or.inl ⟨rfl, _, _, rfl, rfl, rfl, rfl⟩)
  · have hE := ifN hc5 hE
    refine r_iconst 0 rfl ci_0 ?_
    cases hE
    exact r_ret rfl (Or.inl ⟨rfl, _, _, rfl, rfl, rfl, rfl⟩)
def Rd_chanceOf_b4 (N : Nat) : Nat → Nat → Int32 → Int32 → Int32 → PH → Option (Int32 × PH)
  | 0 => fun _ _ _ _ _ => none
  | n + 1 => fun a0 x1 x2 x3 h =>
    ck ((hK h a0).1 = 5) <|
    if (hI h a0 2) ≤ x3 then
      some (x2, h)
    else
      bd (Rd_partOf N a0 x1 x3 h) fun v3 h4 =>
      (Rd_chanceOf_b4 N n) a0 x1 (x2 + v3) (x3 + 1) h4
set_option maxRecDepth 20000 in
theorem Rd_chanceOf_b4_ok (g : GT) (N : Nat) (D : Nat) (hD : 2 ≤ D) : ∀ (n : Nat) (a0 : Nat) (x1 : Int32) (x2 : Int32) (x3 : Int32) (h : PH) (v : Int32) (h' : PH), Rd_chanceOf_b4 N n a0 x1 x2 x3 h = some (v, h') → Run g pRd_chanceOf D 4 [(0, va_rf (some a0)), (1, .int x1), (2, .int x2), (3, .int x3)] [] h (rI v) h' := by
  obtain ⟨D2, rfl⟩ : ∃ d, D = d + 1 := ⟨D - 1, by omega⟩
  intro n
  induction n with
  | zero => exact fun _ _ _ _ _ _ _ hE => nomatch (show none = some _ from hE)
  | succ n ih =>
    intro a0 x1 x2 x3 h v h' hE
    unfold Rd_chanceOf_b4 at hE
    refine r_iload_n 3 rfl rfl rfl ?_
    refine r_aload_n (t := some a0) 0 rfl rfl rfl ?_
    obtain ⟨hk1, hE⟩ := ckE hE
    refine r_getI rfl (fl_5_9 rfl) (Or.inl rfl) rfl hk1 ?_
    refine r_icmp_ge (tgt := 27) rfl (by decide) (fun hc2 => ?_) (fun hc2 => ?_)
    · have hE := ifP hc2 hE
      refine r_iload_n 2 rfl rfl rfl ?_
      cases hE
      exact r_ret rfl (Or.inl ⟨rfl, _, _, rfl, rfl, rfl, rfl⟩)
    · have hE := ifN hc2 hE
      refine r_iload_n 2 rfl rfl rfl ?_
      refine r_aload_n (t := some a0) 0 rfl rfl rfl ?_
      refine r_iload_n 1 rfl rfl rfl ?_
      refine r_iload_n 3 rfl rfl rfl ?_
      obtain ⟨v3, h4, hq5, hE⟩ := bdE hE
      refine r_callV1 (rest := [.int x2]) (hc := (Rd_partOf_ok g N _ _ _ _ _ _ hq5 D2 (by omega))) rfl pm_Rd_partOf lw_5_63 im_Rd_partOf sl_Rd_partOf rfl rfl rfl (rcOK hk1 rfl) (by simp only [List.map_cons, List.map_nil, rf_cat, cat_i, cat_l, List.sum_cons, List.sum_nil]; decide) ?_
      refine r_iadd rfl ?_
      refine r_istore_n 2 rfl rfl (by decide) ?_
      refine r_iinc _ rfl rfl (congrArg _ ci_1) (by decide) ?_
      refine r_goto (tgt := 4) rfl (by decide) ?_
      first | exact r_sb (ih _ _ _ _ _ _ _ hE) ⟨rfl, rfl, rfl, rfl, trivial⟩ | exact r_sb (ih _ _ _ _ _ _ _ hE) (by simp only [su1, su2, dr1_rf, dr1_in, dr1_lo, dr2_rf, dr2_in, dr2_lo]; exact ⟨rfl, rfl, rfl, rfl, trivial⟩)
def Rd_chanceOf (N : Nat) (a0 : Nat) (x1 : Int32) (h : PH) : Option (Int32 × PH) :=
  Rd_chanceOf_b4 N N a0 x1 0 0 h
set_option maxRecDepth 20000 in
theorem Rd_chanceOf_ok (g : GT) (N : Nat) (a0 : Nat) (x1 : Int32) (h : PH) (v : Int32) (h' : PH) (hE : Rd_chanceOf N a0 x1 h = some (v, h')) (D : Nat) (hD : 2 ≤ D) : Calls g D pRd_chanceOf [va_rf (some a0), .int x1] h (oI v) h' := by
  refine Calls.of cok_Rd_chanceOf ht_Rd_chanceOf pl_Rd_chanceOf (fun ad => by rw [lg_len, sL_cat]; simp only [List.map_cons, List.map_nil, rf_cat, cat_i, cat_l, List.sum_cons, List.sum_nil]; decide) ?_
  rw [show lv_args 0 [va_rf (some a0), .int x1] = [(0, va_rf (some a0)), (1, .int x1)] from (by simp only [lv_args, rf_cat, cat_i, cat_l]; try rfl)]
  obtain ⟨D2, rfl⟩ : ∃ d, D = d + 1 := ⟨D - 1, by omega⟩
  unfold Rd_chanceOf at hE
  refine r_iconst 0 rfl ci_0 ?_
  refine r_istore_n 2 rfl rfl (by decide) ?_
  refine r_iconst 0 rfl ci_0 ?_
  refine r_istore_n 3 rfl rfl (by decide) ?_
  first | exact r_sb (Rd_chanceOf_b4_ok g N _ hD  N _ _ _ _ _ _ _ hE) ⟨rfl, rfl, rfl, rfl, trivial⟩ | exact r_sb (Rd_chanceOf_b4_ok g N _ hD  N _ _ _ _ _ _ _ hE) (by simp only [su1, su2, dr1_rf, dr1_in, dr1_lo, dr2_rf, dr2_in, dr2_lo]; exact ⟨rfl, rfl, rfl, rfl, trivial⟩)
def Rd_likeliest_b37 (N : Nat) (self_7 : Nat → Int32 → Int32 → Int32 → Int32 → PH → Option (Int32 × PH)) (a0 : Nat) (x1 : Int32) (x2 : Int32) (x3 : Int32) (x4 : Int32) (h : PH) : Option (Int32 × PH) :=
  self_7 a0 x1 x2 x3 (x4 + 1) h
set_option maxRecDepth 20000 in
theorem Rd_likeliest_b37_ok (g : GT) (N : Nat) (D : Nat) (hD : 2 ≤ D) (self_7 : Nat → Int32 → Int32 → Int32 → Int32 → PH → Option (Int32 × PH)) (hself_7 : ∀ (a0 : Nat) (x1 : Int32) (x2 : Int32) (x3 : Int32) (x4 : Int32) (h : PH) (v : Int32) (h' : PH), self_7 a0 x1 x2 x3 x4 h = some (v, h') → Run g pRd_likeliest D 7 [(0, va_rf (some a0)), (1, .int x1), (2, .int x2), (3, .int x3), (4, .int x4)] [] h (rI v) h') : ∀ (a0 : Nat) (x1 : Int32) (x2 : Int32) (x3 : Int32) (x4 : Int32) (h : PH) (v : Int32) (h' : PH), Rd_likeliest_b37 N self_7 a0 x1 x2 x3 x4 h = some (v, h') → Run g pRd_likeliest D 37 [(0, va_rf (some a0)), (1, .int x1), (2, .int x2), (3, .int x3), (4, .int x4)] [] h (rI v) h' := by
  obtain ⟨D2, rfl⟩ : ∃ d, D = d + 1 := ⟨D - 1, by omega⟩
  intro a0 x1 x2 x3 x4 h v h' hE
  unfold Rd_likeliest_b37 at hE
  refine r_iinc _ rfl rfl (congrArg _ ci_1) (by decide) ?_
  refine r_goto (tgt := 7) rfl (by decide) ?_
  first | exact r_sb (hself_7 _ _ _ _ _ _ _ _ hE) ⟨rfl, rfl, rfl, rfl, rfl, trivial⟩ | exact r_sb (hself_7 _ _ _ _ _ _ _ _ hE) (by simp only [su1, su2, dr1_rf, dr1_in, dr1_lo, dr2_rf, dr2_in, dr2_lo]; exact ⟨rfl, rfl, rfl, rfl, rfl, trivial⟩)
def Rd_likeliest_b7 (N : Nat) : Nat → Nat → Int32 → Int32 → Int32 → Int32 → PH → Option (Int32 × PH)
  | 0 => fun _ _ _ _ _ _ => none
  | n + 1 => fun a0 x1 x2 x3 x4 h =>
    ck ((hK h a0).1 = 5) <|
    if (hI h a0 2) ≤ x4 then
      some (x2, h)
    else
      bd (Rd_partOf N a0 x1 x4 h) fun v3 h4 =>
      if v3 ≤ x3 then
        Rd_likeliest_b37 N (Rd_likeliest_b7 N n)  a0 x1 x2 x3 x4 h4
      else
        Rd_likeliest_b37 N (Rd_likeliest_b7 N n)  a0 x1 x4 v3 x4 h4
set_option maxRecDepth 20000 in
theorem Rd_likeliest_b7_ok (g : GT) (N : Nat) (D : Nat) (hD : 2 ≤ D) : ∀ (n : Nat) (a0 : Nat) (x1 : Int32) (x2 : Int32) (x3 : Int32) (x4 : Int32) (h : PH) (v : Int32) (h' : PH), Rd_likeliest_b7 N n a0 x1 x2 x3 x4 h = some (v, h') → Run g pRd_likeliest D 7 [(0, va_rf (some a0)), (1, .int x1), (2, .int x2), (3, .int x3), (4, .int x4)] [] h (rI v) h' := by
  obtain ⟨D2, rfl⟩ : ∃ d, D = d + 1 := ⟨D - 1, by omega⟩
  intro n
  induction n with
  | zero => exact fun _ _ _ _ _ _ _ _ hE => nomatch (show none = some _ from hE)
  | succ n ih =>
    intro a0 x1 x2 x3 x4 h v h' hE
    unfold Rd_likeliest_b7 at hE
    refine r_iload rfl rfl ?_
    refine r_aload_n (t := some a0) 0 rfl rfl rfl ?_
    obtain ⟨hk1, hE⟩ := ckE hE
    refine r_getI rfl (fl_5_9 rfl) (Or.inl rfl) rfl hk1 ?_
    refine r_icmp_ge (tgt := 43) rfl (by decide) (fun hc2 => ?_) (fun hc2 => ?_)
    · have hE := ifP hc2 hE
      refine r_iload_n 2 rfl rfl rfl ?_
      cases hE
      exact r_ret rfl (Or.inl ⟨rfl, _, _, rfl, rfl, rfl, rfl⟩)
    · have hE := ifN hc2 hE
      refine r_aload_n (t := some a0) 0 rfl rfl rfl ?_
      refine r_iload_n 1 rfl rfl rfl ?_
      refine r_iload rfl rfl ?_
      obtain ⟨v3, h4, hq5, hE⟩ := bdE hE
      refine r_callV1 (rest := []) (hc := (Rd_partOf_ok g N _ _ _ _ _ _ hq5 D2 (by omega))) rfl pm_Rd_partOf lw_5_63 im_Rd_partOf sl_Rd_partOf rfl rfl rfl (rcOK hk1 rfl) (by decide) ?_
      refine r_istore rfl (by decide) ?_
      refine r_iload rfl rfl ?_
      refine r_iload_n 3 rfl rfl rfl ?_
      refine r_icmp_le (tgt := 37) rfl (by decide) (fun hc6 => ?_) (fun hc6 => ?_)
      · have hE := ifP hc6 hE
        first | exact r_sb (Rd_likeliest_b37_ok g N _ hD _ ih  _ _ _ _ _ _ _ _ hE) ⟨rfl, rfl, rfl, rfl, rfl, trivial⟩ | exact r_sb (Rd_likeliest_b37_ok g N _ hD _ ih  _ _ _ _ _ _ _ _ hE) (by simp only [su1, su2, dr1_rf, dr1_in, dr1_lo, dr2_rf, dr2_in, dr2_lo]; exact ⟨rfl, rfl, rfl, rfl, rfl, trivial⟩)
      · have hE := ifN hc6 hE
        refine r_iload rfl rfl ?_
        refine r_istore_n 3 rfl rfl (by decide) ?_
        refine r_iload rfl rfl ?_
        refine r_istore_n 2 rfl rfl (by decide) ?_
        first | exact r_sb (Rd_likeliest_b37_ok g N _ hD _ ih  _ _ _ _ _ _ _ _ hE) ⟨rfl, rfl, rfl, rfl, rfl, trivial⟩ | exact r_sb (Rd_likeliest_b37_ok g N _ hD _ ih  _ _ _ _ _ _ _ _ hE) (by simp only [su1, su2, dr1_rf, dr1_in, dr1_lo, dr2_rf, dr2_in, dr2_lo]; exact ⟨rfl, rfl, rfl, rfl, rfl, trivial⟩)
def Rd_likeliest (N : Nat) (a0 : Nat) (x1 : Int32) (h : PH) : Option (Int32 × PH) :=
  Rd_likeliest_b7 N N a0 x1 (-1) 0 0 h
set_option maxRecDepth 20000 in
theorem Rd_likeliest_ok (g : GT) (N : Nat) (a0 : Nat) (x1 : Int32) (h : PH) (v : Int32) (h' : PH) (hE : Rd_likeliest N a0 x1 h = some (v, h')) (D : Nat) (hD : 2 ≤ D) : Calls g D pRd_likeliest [va_rf (some a0), .int x1] h (oI v) h' := by
  refine Calls.of cok_Rd_likeliest ht_Rd_likeliest pl_Rd_likeliest (fun ad => by rw [lg_len, sL_cat]; simp only [List.map_cons, List.map_nil, rf_cat, cat_i, cat_l, List.sum_cons, List.sum_nil]; decide) ?_
  rw [show lv_args 0 [va_rf (some a0), .int x1] = [(0, va_rf (some a0)), (1, .int x1)] from (by simp only [lv_args, rf_cat, cat_i, cat_l]; try rfl)]
  obtain ⟨D2, rfl⟩ : ∃ d, D = d + 1 := ⟨D - 1, by omega⟩
  unfold Rd_likeliest at hE
  refine r_iconst (-1) rfl ci_m1 ?_
  refine r_istore_n 2 rfl rfl (by decide) ?_
  refine r_iconst 0 rfl ci_0 ?_
  refine r_istore_n 3 rfl rfl (by decide) ?_
  refine r_iconst 0 rfl ci_0 ?_
  refine r_istore rfl (by decide) ?_
  first | exact r_sb (Rd_likeliest_b7_ok g N _ hD  N _ _ _ _ _ _ _ _ hE) ⟨rfl, rfl, rfl, rfl, rfl, trivial⟩ | exact r_sb (Rd_likeliest_b7_ok g N _ hD  N _ _ _ _ _ _ _ _ hE) (by simp only [su1, su2, dr1_rf, dr1_in, dr1_lo, dr2_rf, dr2_in, dr2_lo]; exact ⟨rfl, rfl, rfl, rfl, rfl, trivial⟩)
def Va_bestWorth (N : Nat) (a0 : Nat) (x1 : Int32) (x2 : Int32) (x3 : Int32) (x4 : Int32) (h : PH) : Option (Int32 × PH) :=
  ck ((hK h a0).1 = 9) <|
  bd (Va_fillTo N a0 (x1 + 1) h) fun v2 h3 =>
  ck ((hK h3 a0).1 = 9) <|
  bd (Va_greatestOf N a0 x1 x2 x3 x4 h3) fun v6 h7 =>
  some (v6, h7)
set_option maxRecDepth 20000 in
theorem Va_bestWorth_ok (g : GT) (N : Nat) (a0 : Nat) (x1 : Int32) (x2 : Int32) (x3 : Int32) (x4 : Int32) (h : PH) (v : Int32) (h' : PH) (hE : Va_bestWorth N a0 x1 x2 x3 x4 h = some (v, h')) (D : Nat) (hD : 7 ≤ D) : Calls g D pVa_bestWorth [va_rf (some a0), .int x1, .int x2, .int x3, .int x4] h (oI v) h' := by
  refine Calls.of cok_Va_bestWorth ht_Va_bestWorth pl_Va_bestWorth (fun ad => by rw [lg_len, sL_cat]; simp only [List.map_cons, List.map_nil, rf_cat, cat_i, cat_l, List.sum_cons, List.sum_nil]; decide) ?_
  rw [show lv_args 0 [va_rf (some a0), .int x1, .int x2, .int x3, .int x4] = [(0, va_rf (some a0)), (1, .int x1), (2, .int x2), (3, .int x3), (4, .int x4)] from (by simp only [lv_args, rf_cat, cat_i, cat_l]; try rfl)]
  obtain ⟨D2, rfl⟩ : ∃ d, D = d + 1 := ⟨D - 1, by omega⟩
  unfold Va_bestWorth at hE
  refine r_aload_n (t := some a0) 0 rfl rfl rfl ?_
  refine r_iload_n 1 rfl rfl rfl ?_
  refine r_iconst 1 rfl ci_1 ?_
  refine r_iadd rfl ?_
  obtain ⟨hk1, hE⟩ := ckE hE
  obtain ⟨v2, h3, hq4, hE⟩ := bdE hE
  refine r_callV0 (rest := []) (hc := (Va_fillTo_ok g N _ _ _ _ _ hq4 D2 (by omega))) rfl pm_Va_fillTo lw_9_38 im_Va_fillTo sl_Va_fillTo rfl rfl rfl (rcOK hk1 rfl) (by decide) ?_
  refine r_aload_n (t := some a0) 0 rfl rfl rfl ?_
  refine r_iload_n 1 rfl rfl rfl ?_
  refine r_iload_n 2 rfl rfl rfl ?_
  refine r_iload_n 3 rfl rfl rfl ?_
  refine r_iload rfl rfl ?_
  obtain ⟨hk5, hE⟩ := ckE hE
  obtain ⟨v6, h7, hq8, hE⟩ := bdE hE
  refine r_callV1 (rest := []) (hc := (Va_greatestOf_ok g N _ _ _ _ _ _ _ _ hq8 D2 (by omega))) rfl pm_Va_greatestOf lw_9_54 im_Va_greatestOf sl_Va_greatestOf rfl rfl rfl (rcOK hk5 rfl) (by decide) ?_
  cases hE
  exact r_ret rfl (Or.inl ⟨rfl, _, _, rfl, rfl, rfl, rfl⟩)
def Me_leftBy (N : Nat) (a0 : Nat) (x1 : Int32) (x2 : Option Nat) (h : PH) : Option (Int32 × PH) :=
  ck ((hK h a0).1 = 2) <|
  lt0 (wZ h a0 4 (tb 1)) fun h2 =>
  ((hR h2 a0 0)).bind fun a_4 =>
  ck ((hK h2 a_4).1 = 0) <|
  bd (Me_ask N a0 x1 (hI h2 a_4 0) x2 h2) fun v7 h8 =>
  some (v7, h8)
set_option maxRecDepth 20000 in
theorem Me_leftBy_ok (g : GT) (N : Nat) (a0 : Nat) (x1 : Int32) (x2 : Option Nat) (h : PH) (v : Int32) (h' : PH) (hE : Me_leftBy N a0 x1 x2 h = some (v, h')) (D : Nat) (hD : 66 ≤ D) : Calls g D pMe_leftBy [va_rf (some a0), .int x1, va_rf x2] h (oI v) h' := by
  refine Calls.of cok_Me_leftBy ht_Me_leftBy pl_Me_leftBy (fun ad => by rw [lg_len, sL_cat]; simp only [List.map_cons, List.map_nil, rf_cat, cat_i, cat_l, List.sum_cons, List.sum_nil]; decide) ?_
  rw [show lv_args 0 [va_rf (some a0), .int x1, va_rf x2] = [(0, va_rf (some a0)), (1, .int x1), (2, va_rf x2)] from (by simp only [lv_args, rf_cat, cat_i, cat_l]; try rfl)]
  obtain ⟨D2, rfl⟩ : ∃ d, D = d + 1 := ⟨D - 1, by omega⟩
  unfold Me_leftBy at hE
  refine r_aload_n (t := some a0) 0 rfl rfl rfl ?_
  refine r_iconst 1 rfl ci_1 ?_
  obtain ⟨hk1, hE⟩ := ckE hE
  obtain ⟨h2, he3, hE⟩ := ltE hE
  refine r_putZ rfl (fl_2_22 rfl) finF rfl hk1 rfl he3 ?_
  refine r_aload_n (t := some a0) 0 rfl rfl rfl ?_
  refine r_iload_n 1 rfl rfl rfl ?_
  refine r_aload_n (t := some a0) 0 rfl rfl rfl ?_
  refine r_getR rfl (fl_2_35 rfl) (Or.inl ⟨_, rfl⟩) rfl (kwZ he3 hk1) ?_
  obtain ⟨a_4, ha5, hE⟩ := bnE hE
  obtain ⟨hk6, hE⟩ := ckE hE
  refine r_getI rfl (fl_2_43 rfl) (Or.inl rfl) ha5 hk6 ?_
  refine r_aload_n (t := x2) 2 rfl rfl rfl ?_
  obtain ⟨v7, h8, hq9, hE⟩ := bdE hE
  refine r_callV1 (rest := []) (hc := (Me_ask_ok g N _ _ _ _ _ _ _ hq9 D2 (by omega))) rfl pm_Me_ask lw_2_39 im_Me_ask sl_Me_ask rfl rfl rfl (rcOK (kwZ he3 hk1) rfl) (by decide) ?_
  cases hE
  exact r_ret rfl (Or.inl ⟨rfl, _, _, rfl, rfl, rfl, rfl⟩)
def Sh_setChances_b80 (N : Nat) (self_25 : Nat → Int32 → Int32 → Int32 → PH → Option (Unit × PH)) (self_45 : Nat → Int32 → Int32 → Int32 → Int32 → Int32 → PH → Option (Unit × PH)) (s0 : Int32) (a0 : Nat) (x1 : Int32) (x2 : Int32) (x3 : Int32) (x4 : Int32) (x5 : Int32) (h : PH) : Option (Unit × PH) :=
  ck ((hK h a0).1 = 7) <|
  bd (Le_at N (hR h a0 0) (x3 + x5) h) fun v2 h3 =>
  bd (Le_put N (hR h a0 0) (x3 + x5) (v2 + (x4 * s0)) h3) fun v5 h6 =>
  self_45 a0 x1 x2 x3 x4 (x5 + 1) h6
set_option maxRecDepth 20000 in
theorem Sh_setChances_b80_ok (g : GT) (N : Nat) (D : Nat) (hD : 2 ≤ D) (self_25 : Nat → Int32 → Int32 → Int32 → PH → Option (Unit × PH)) (hself_25 : ∀ (a0 : Nat) (x1 : Int32) (x2 : Int32) (x3 : Int32) (h : PH) (v : Unit) (h' : PH), self_25 a0 x1 x2 x3 h = some (v, h') → Run g pSh_setChances D 25 [(0, va_rf (some a0)), (1, .int x1), (2, .int x2), (3, .int x3)] [] h (rV v) h') (self_45 : Nat → Int32 → Int32 → Int32 → Int32 → Int32 → PH → Option (Unit × PH)) (hself_45 : ∀ (a0 : Nat) (x1 : Int32) (x2 : Int32) (x3 : Int32) (x4 : Int32) (x5 : Int32) (h : PH) (v : Unit) (h' : PH), self_45 a0 x1 x2 x3 x4 x5 h = some (v, h') → Run g pSh_setChances D 45 [(0, va_rf (some a0)), (1, .int x1), (2, .int x2), (3, .int x3), (4, .int x4), (5, .int x5)] [] h (rV v) h') : ∀ (s0 : Int32) (a0 : Nat) (x1 : Int32) (x2 : Int32) (x3 : Int32) (x4 : Int32) (x5 : Int32) (h : PH) (v : Unit) (h' : PH), Sh_setChances_b80 N self_25 self_45 s0 a0 x1 x2 x3 x4 x5 h = some (v, h') → Run g pSh_setChances D 80 [(0, va_rf (some a0)), (1, .int x1), (2, .int x2), (3, .int x3), (4, .int x4), (5, .int x5)] [.int s0] h (rV v) h' := by
  obtain ⟨D2, rfl⟩ : ∃ d, D = d + 1 := ⟨D - 1, by omega⟩
  intro s0 a0 x1 x2 x3 x4 x5 h v h' hE
  unfold Sh_setChances_b80 at hE
  refine r_istore rfl (by decide) ?_
  refine r_aload_n (t := some a0) 0 rfl rfl rfl ?_
  obtain ⟨hk1, hE⟩ := ckE hE
  refine r_getR rfl (fl_7_11 rfl) (Or.inr ⟨_, rfl⟩) rfl hk1 ?_
  refine r_iload_n 3 rfl rfl rfl ?_
  refine r_iload rfl rfl ?_
  refine r_iadd rfl ?_
  refine r_aload_n (t := some a0) 0 rfl rfl rfl ?_
  refine r_getR rfl (fl_7_11 rfl) (Or.inr ⟨_, rfl⟩) rfl hk1 ?_
  refine r_iload_n 3 rfl rfl rfl ?_
  refine r_iload rfl rfl ?_
  refine r_iadd rfl ?_
  obtain ⟨v2, h3, hq4, hE⟩ := bdE hE
  refine r_callSN1 (rest := [.int (x3 + x5), va_rf (hR h a0 0)]) (hc := (Le_at_ok g N _ _ _ _ _ hq4 D2 (by omega))) rfl pm_Le_at lw_7_42 st_Le_at rfl rfl (by simp only [List.map_cons, List.map_nil, rf_cat, cat_i, cat_l, List.sum_cons, List.sum_nil]; decide) ?_
  refine r_iload rfl rfl ?_
  refine r_iload rfl rfl ?_
  refine r_imul rfl ?_
  refine r_iadd rfl ?_
  obtain ⟨v5, h6, hq7, hE⟩ := bdE hE
  refine r_callSN0 (rest := []) (hc := (Le_put_ok g N _ _ _ _ _ _ hq7 D2 (by omega))) rfl pm_Le_put lw_7_66 st_Le_put rfl rfl (by decide) ?_
  refine r_iinc _ rfl rfl (congrArg _ ci_1) (by decide) ?_
  refine r_goto (tgt := 45) rfl (by decide) ?_
  first | exact r_sb (hself_45 _ _ _ _ _ _ _ _ _ hE) ⟨rfl, rfl, rfl, rfl, rfl, rfl, trivial⟩ | exact r_sb (hself_45 _ _ _ _ _ _ _ _ _ hE) (by simp only [su1, su2, dr1_rf, dr1_in, dr1_lo, dr2_rf, dr2_in, dr2_lo]; exact ⟨rfl, rfl, rfl, rfl, rfl, rfl, trivial⟩)
def Sh_setChances_b45 (N : Nat) (self_25 : Nat → Int32 → Int32 → Int32 → PH → Option (Unit × PH)) : Nat → Nat → Int32 → Int32 → Int32 → Int32 → Int32 → PH → Option (Unit × PH)
  | 0 => fun _ _ _ _ _ _ _ => none
  | n + 1 => fun a0 x1 x2 x3 x4 x5 h =>
    if 3 < x5 then
      self_25 a0 x1 x2 (x3 + 1) h
    else
      if x1 = 0 then
        if x5 = 0 then
          Sh_setChances_b80 N self_25 (Sh_setChances_b45 N self_25 n)  10 a0 x1 x2 x3 x4 x5 h
        else
          Sh_setChances_b80 N self_25 (Sh_setChances_b45 N self_25 n)  0 a0 x1 x2 x3 x4 x5 h
      else
        ck ((hK h a0).1 = 7) <|
        ((hR h a0 1)).bind fun a_5 =>
        ck ((hK h a_5).1 = 0) <|
        bd (Ho_chance N a_5 0 x2 x5 h) fun v8 h9 =>
        Sh_setChances_b80 N self_25 (Sh_setChances_b45 N self_25 n)  v8 a0 x1 x2 x3 x4 x5 h9
set_option maxRecDepth 20000 in
theorem Sh_setChances_b45_ok (g : GT) (N : Nat) (D : Nat) (hD : 2 ≤ D) (self_25 : Nat → Int32 → Int32 → Int32 → PH → Option (Unit × PH)) (hself_25 : ∀ (a0 : Nat) (x1 : Int32) (x2 : Int32) (x3 : Int32) (h : PH) (v : Unit) (h' : PH), self_25 a0 x1 x2 x3 h = some (v, h') → Run g pSh_setChances D 25 [(0, va_rf (some a0)), (1, .int x1), (2, .int x2), (3, .int x3)] [] h (rV v) h') : ∀ (n : Nat) (a0 : Nat) (x1 : Int32) (x2 : Int32) (x3 : Int32) (x4 : Int32) (x5 : Int32) (h : PH) (v : Unit) (h' : PH), Sh_setChances_b45 N self_25 n a0 x1 x2 x3 x4 x5 h = some (v, h') → Run g pSh_setChances D 45 [(0, va_rf (some a0)), (1, .int x1), (2, .int x2), (3, .int x3), (4, .int x4), (5, .int x5)] [] h (rV v) h' := by
  obtain ⟨D2, rfl⟩ : ∃ d, D = d + 1 := ⟨D - 1, by omega⟩
  intro n
  induction n with
  | zero => exact fun _ _ _ _ _ _ _ _ _ hE => nomatch (show none = some _ from hE)
  | succ n ih =>
    intro a0 x1 x2 x3 x4 x5 h v h' hE
    unfold Sh_setChances_b45 at hE
    refine r_iload rfl rfl ?_
    refine r_iconst 3 rfl ci_3 ?_
    refine r_icmp_gt (tgt := 116) rfl (by decide) (fun hc1 => ?_) (fun hc1 => ?_)
    · have hE := ifP hc1 hE
      refine r_iinc _ rfl rfl (congrArg _ ci_1) (by decide) ?_
      refine r_goto (tgt := 25) rfl (by decide) ?_
      first | exact r_sb (hself_25 _ _ _ _ _ _ _ hE) ⟨rfl, rfl, rfl, rfl, trivial⟩ | exact r_sb (hself_25 _ _ _ _ _ _ _ hE) (by simp only [su1, su2, dr1_rf, dr1_in, dr1_lo, dr2_rf, dr2_in, dr2_lo]; exact ⟨rfl, rfl, rfl, rfl, trivial⟩)
    · have hE := ifN hc1 hE
      refine r_iload_n 1 rfl rfl rfl ?_
      refine r_if_eq (tgt := 69) rfl (by decide) (fun hc2 => ?_) (fun hc2 => ?_)
      · have hE := ifP hc2 hE
        refine r_iload rfl rfl ?_
        refine r_if_ne (tgt := 79) rfl (by decide) (fun hc3 => ?_) (fun hc3 => ?_)
        · have hE := ifP hc3 hE
          refine r_bipush 10 rfl cb_10 ?_
          refine r_goto (tgt := 80) rfl (by decide) ?_
          first | exact r_sb (Sh_setChances_b80_ok g N _ hD _ hself_25 _ ih  _ _ _ _ _ _ _ _ _ _ hE) ⟨rfl, rfl, rfl, rfl, rfl, rfl, trivial⟩ | exact r_sb (Sh_setChances_b80_ok g N _ hD _ hself_25 _ ih  _ _ _ _ _ _ _ _ _ _ hE) (by simp only [su1, su2, dr1_rf, dr1_in, dr1_lo, dr2_rf, dr2_in, dr2_lo]; exact ⟨rfl, rfl, rfl, rfl, rfl, rfl, trivial⟩)
        · have hE := ifN hc3 hE
          refine r_iconst 0 rfl ci_0 ?_
          first | exact r_sb (Sh_setChances_b80_ok g N _ hD _ hself_25 _ ih  _ _ _ _ _ _ _ _ _ _ hE) ⟨rfl, rfl, rfl, rfl, rfl, rfl, trivial⟩ | exact r_sb (Sh_setChances_b80_ok g N _ hD _ hself_25 _ ih  _ _ _ _ _ _ _ _ _ _ hE) (by simp only [su1, su2, dr1_rf, dr1_in, dr1_lo, dr2_rf, dr2_in, dr2_lo]; exact ⟨rfl, rfl, rfl, rfl, rfl, rfl, trivial⟩)
      · have hE := ifN hc2 hE
        refine r_aload_n (t := some a0) 0 rfl rfl rfl ?_
        obtain ⟨hk4, hE⟩ := ckE hE
        refine r_getR rfl (fl_7_21 rfl) (Or.inl ⟨_, rfl⟩) rfl hk4 ?_
        refine r_iconst 0 rfl ci_0 ?_
        refine r_iload_n 2 rfl rfl rfl ?_
        refine r_iload rfl rfl ?_
        obtain ⟨a_5, ha6, hE⟩ := bnE hE
        obtain ⟨hk7, hE⟩ := ckE hE
        obtain ⟨v8, h9, hq10, hE⟩ := bdE hE
        refine r_callV1 (rest := []) (hc := (Ho_chance_ok g N _ _ _ _ _ _ _ hq10 D2 (by omega))) rfl pm_Ho_chance lw_7_76 im_Ho_chance sl_Ho_chance ha6 rfl rfl (rcOK hk7 rfl) (by decide) ?_
        refine r_goto (tgt := 80) rfl (by decide) ?_
        first | exact r_sb (Sh_setChances_b80_ok g N _ hD _ hself_25 _ ih  _ _ _ _ _ _ _ _ _ _ hE) ⟨rfl, rfl, rfl, rfl, rfl, rfl, trivial⟩ | exact r_sb (Sh_setChances_b80_ok g N _ hD _ hself_25 _ ih  _ _ _ _ _ _ _ _ _ _ hE) (by simp only [su1, su2, dr1_rf, dr1_in, dr1_lo, dr2_rf, dr2_in, dr2_lo]; exact ⟨rfl, rfl, rfl, rfl, rfl, rfl, trivial⟩)
def Sh_setChances_b25 (N : Nat) : Nat → Nat → Int32 → Int32 → Int32 → PH → Option (Unit × PH)
  | 0 => fun _ _ _ _ _ => none
  | n + 1 => fun a0 x1 x2 x3 h =>
    if 3 < x3 then
      some ((), h)
    else
      ck ((hK h a0).1 = 7) <|
      ((hR h a0 1)).bind fun a_3 =>
      ck ((hK h a_3).1 = 0) <|
      bd (Ho_chance N a_3 0 x2 x3 h) fun v6 h7 =>
      Sh_setChances_b45 N (Sh_setChances_b25 N n) N a0 x1 x2 x3 v6 0 h7
set_option maxRecDepth 20000 in
theorem Sh_setChances_b25_ok (g : GT) (N : Nat) (D : Nat) (hD : 2 ≤ D) : ∀ (n : Nat) (a0 : Nat) (x1 : Int32) (x2 : Int32) (x3 : Int32) (h : PH) (v : Unit) (h' : PH), Sh_setChances_b25 N n a0 x1 x2 x3 h = some (v, h') → Run g pSh_setChances D 25 [(0, va_rf (some a0)), (1, .int x1), (2, .int x2), (3, .int x3)] [] h (rV v) h' := by
  obtain ⟨D2, rfl⟩ : ∃ d, D = d + 1 := ⟨D - 1, by omega⟩
  intro n
  induction n with
  | zero => exact fun _ _ _ _ _ _ _ hE => nomatch (show none = some _ from hE)
  | succ n ih =>
    intro a0 x1 x2 x3 h v h' hE
    unfold Sh_setChances_b25 at hE
    refine r_iload_n 3 rfl rfl rfl ?_
    refine r_iconst 3 rfl ci_3 ?_
    refine r_icmp_gt (tgt := 122) rfl (by decide) (fun hc1 => ?_) (fun hc1 => ?_)
    · have hE := ifP hc1 hE
      cases hE
      exact r_ret rfl (Or.inr (Or.inr (Or.inr ⟨rfl, rfl, rfl, rfl⟩)))
    · have hE := ifN hc1 hE
      refine r_aload_n (t := some a0) 0 rfl rfl rfl ?_
      obtain ⟨hk2, hE⟩ := ckE hE
      refine r_getR rfl (fl_7_21 rfl) (Or.inl ⟨_, rfl⟩) rfl hk2 ?_
      refine r_iconst 0 rfl ci_0 ?_
      refine r_iload_n 2 rfl rfl rfl ?_
      refine r_iload_n 3 rfl rfl rfl ?_
      obtain ⟨a_3, ha4, hE⟩ := bnE hE
      obtain ⟨hk5, hE⟩ := ckE hE
      obtain ⟨v6, h7, hq8, hE⟩ := bdE hE
      refine r_callV1 (rest := []) (hc := (Ho_chance_ok g N _ _ _ _ _ _ _ hq8 D2 (by omega))) rfl pm_Ho_chance lw_7_76 im_Ho_chance sl_Ho_chance ha4 rfl rfl (rcOK hk5 rfl) (by decide) ?_
      refine r_istore rfl (by decide) ?_
      refine r_iconst 0 rfl ci_0 ?_
      refine r_istore rfl (by decide) ?_
      first | exact r_sb (Sh_setChances_b45_ok g N _ hD _ ih N _ _ _ _ _ _ _ _ _ hE) ⟨rfl, rfl, rfl, rfl, rfl, rfl, trivial⟩ | exact r_sb (Sh_setChances_b45_ok g N _ hD _ ih N _ _ _ _ _ _ _ _ _ hE) (by simp only [su1, su2, dr1_rf, dr1_in, dr1_lo, dr2_rf, dr2_in, dr2_lo]; exact ⟨rfl, rfl, rfl, rfl, rfl, rfl, trivial⟩)
def Sh_setChances_b2 (N : Nat) : Nat → Nat → Int32 → Int32 → Int32 → PH → Option (Unit × PH)
  | 0 => fun _ _ _ _ _ => none
  | n + 1 => fun a0 x1 x2 x3 h =>
    if 6 < x3 then
      Sh_setChances_b25 N N a0 x1 x2 0 h
    else
      ck ((hK h a0).1 = 7) <|
      bd (Le_put N (hR h a0 0) x3 0 h) fun v3 h4 =>
      (Sh_setChances_b2 N n) a0 x1 x2 (x3 + 1) h4
set_option maxRecDepth 20000 in
theorem Sh_setChances_b2_ok (g : GT) (N : Nat) (D : Nat) (hD : 2 ≤ D) : ∀ (n : Nat) (a0 : Nat) (x1 : Int32) (x2 : Int32) (x3 : Int32) (h : PH) (v : Unit) (h' : PH), Sh_setChances_b2 N n a0 x1 x2 x3 h = some (v, h') → Run g pSh_setChances D 2 [(0, va_rf (some a0)), (1, .int x1), (2, .int x2), (3, .int x3)] [] h (rV v) h' := by
  obtain ⟨D2, rfl⟩ : ∃ d, D = d + 1 := ⟨D - 1, by omega⟩
  intro n
  induction n with
  | zero => exact fun _ _ _ _ _ _ _ hE => nomatch (show none = some _ from hE)
  | succ n ih =>
    intro a0 x1 x2 x3 h v h' hE
    unfold Sh_setChances_b2 at hE
    refine r_iload_n 3 rfl rfl rfl ?_
    refine r_bipush 6 rfl cb_6 ?_
    refine r_icmp_gt (tgt := 23) rfl (by decide) (fun hc1 => ?_) (fun hc1 => ?_)
    · have hE := ifP hc1 hE
      refine r_iconst 0 rfl ci_0 ?_
      refine r_istore_n 3 rfl rfl (by decide) ?_
      first | exact r_sb (Sh_setChances_b25_ok g N _ hD  N _ _ _ _ _ _ _ hE) ⟨rfl, rfl, rfl, rfl, trivial⟩ | exact r_sb (Sh_setChances_b25_ok g N _ hD  N _ _ _ _ _ _ _ hE) (by simp only [su1, su2, dr1_rf, dr1_in, dr1_lo, dr2_rf, dr2_in, dr2_lo]; exact ⟨rfl, rfl, rfl, rfl, trivial⟩)
    · have hE := ifN hc1 hE
      refine r_aload_n (t := some a0) 0 rfl rfl rfl ?_
      obtain ⟨hk2, hE⟩ := ckE hE
      refine r_getR rfl (fl_7_11 rfl) (Or.inr ⟨_, rfl⟩) rfl hk2 ?_
      refine r_iload_n 3 rfl rfl rfl ?_
      refine r_iconst 0 rfl ci_0 ?_
      obtain ⟨v3, h4, hq5, hE⟩ := bdE hE
      refine r_callSN0 (rest := []) (hc := (Le_put_ok g N _ _ _ _ _ _ hq5 D2 (by omega))) rfl pm_Le_put lw_7_66 st_Le_put rfl rfl (by decide) ?_
      refine r_iinc _ rfl rfl (congrArg _ ci_1) (by decide) ?_
      refine r_goto (tgt := 2) rfl (by decide) ?_
      first | exact r_sb (ih _ _ _ _ _ _ _ hE) ⟨rfl, rfl, rfl, rfl, trivial⟩ | exact r_sb (ih _ _ _ _ _ _ _ hE) (by simp only [su1, su2, dr1_rf, dr1_in, dr1_lo, dr2_rf, dr2_in, dr2_lo]; exact ⟨rfl, rfl, rfl, rfl, trivial⟩)
def Sh_setChances (N : Nat) (a0 : Nat) (x1 : Int32) (x2 : Int32) (h : PH) : Option (Unit × PH) :=
  Sh_setChances_b2 N N a0 x1 x2 0 h
set_option maxRecDepth 20000 in
theorem Sh_setChances_ok (g : GT) (N : Nat) (a0 : Nat) (x1 : Int32) (x2 : Int32) (h : PH) (v : Unit) (h' : PH) (hE : Sh_setChances N a0 x1 x2 h = some (v, h')) (D : Nat) (hD : 2 ≤ D) : Calls g D pSh_setChances [va_rf (some a0), .int x1, .int x2] h (oV v) h' := by
  refine Calls.of cok_Sh_setChances ht_Sh_setChances pl_Sh_setChances (fun ad => by rw [lg_len, sL_cat]; simp only [List.map_cons, List.map_nil, rf_cat, cat_i, cat_l, List.sum_cons, List.sum_nil]; decide) ?_
  rw [show lv_args 0 [va_rf (some a0), .int x1, .int x2] = [(0, va_rf (some a0)), (1, .int x1), (2, .int x2)] from (by simp only [lv_args, rf_cat, cat_i, cat_l]; try rfl)]
  obtain ⟨D2, rfl⟩ : ∃ d, D = d + 1 := ⟨D - 1, by omega⟩
  unfold Sh_setChances at hE
  refine r_iconst 0 rfl ci_0 ?_
  refine r_istore_n 3 rfl rfl (by decide) ?_
  first | exact r_sb (Sh_setChances_b2_ok g N _ hD  N _ _ _ _ _ _ _ hE) ⟨rfl, rfl, rfl, rfl, trivial⟩ | exact r_sb (Sh_setChances_b2_ok g N _ hD  N _ _ _ _ _ _ _ hE) (by simp only [su1, su2, dr1_rf, dr1_in, dr1_lo, dr2_rf, dr2_in, dr2_lo]; exact ⟨rfl, rfl, rfl, rfl, trivial⟩)
def Sh_plainGreatest_b69 (N : Nat) (self_6 : Nat → Int32 → Int32 → Int32 → Int32 → Int32 → PH → Option (Int32 × PH)) (s0 : Int32) (a0 : Nat) (x1 : Int32) (x2 : Int32) (x3 : Int32) (x5 : Int32) (h : PH) : Option (Int32 × PH) :=
  self_6 a0 x1 x2 x3 s0 (x5 + 1) h
set_option maxRecDepth 20000 in
theorem Sh_plainGreatest_b69_ok (g : GT) (N : Nat) (D : Nat) (hD : 3 ≤ D) (self_6 : Nat → Int32 → Int32 → Int32 → Int32 → Int32 → PH → Option (Int32 × PH)) (hself_6 : ∀ (a0 : Nat) (x1 : Int32) (x2 : Int32) (x3 : Int32) (x4 : Int32) (x5 : Int32) (h : PH) (v : Int32) (h' : PH), self_6 a0 x1 x2 x3 x4 x5 h = some (v, h') → Run g pSh_plainGreatest D 6 [(0, va_rf (some a0)), (1, .int x1), (2, .int x2), (3, .int x3), (4, .int x4), (5, .int x5)] [] h (rI v) h') : ∀ (s0 : Int32) (a0 : Nat) (x1 : Int32) (x2 : Int32) (x3 : Int32) (x5 : Int32) (h : PH) (v : Int32) (h' : PH), Sh_plainGreatest_b69 N self_6 s0 a0 x1 x2 x3 x5 h = some (v, h') → Run g pSh_plainGreatest D 69 [(0, va_rf (some a0)), (1, .int x1), (2, .int x2), (3, .int x3), (5, .int x5)] [.int s0] h (rI v) h' := by
  obtain ⟨D2, rfl⟩ : ∃ d, D = d + 1 := ⟨D - 1, by omega⟩
  intro s0 a0 x1 x2 x3 x5 h v h' hE
  unfold Sh_plainGreatest_b69 at hE
  refine r_istore rfl (by decide) ?_
  refine r_iinc _ rfl rfl (congrArg _ ci_1) (by decide) ?_
  refine r_goto (tgt := 6) rfl (by decide) ?_
  first | exact r_sb (hself_6 _ _ _ _ _ _ _ _ _ hE) ⟨rfl, rfl, rfl, rfl, rfl, rfl, trivial⟩ | exact r_sb (hself_6 _ _ _ _ _ _ _ _ _ hE) (by simp only [su1, su2, dr1_rf, dr1_in, dr1_lo, dr2_rf, dr2_in, dr2_lo]; exact ⟨rfl, rfl, rfl, rfl, rfl, rfl, trivial⟩)
def Sh_plainGreatest_b6 (N : Nat) : Nat → Nat → Int32 → Int32 → Int32 → Int32 → Int32 → PH → Option (Int32 × PH)
  | 0 => fun _ _ _ _ _ _ _ => none
  | n + 1 => fun a0 x1 x2 x3 x4 x5 h =>
    if 3 < x5 then
      some (x4, h)
    else
      ck ((hK h a0).1 = 7) <|
      ((hR h a0 1)).bind fun a_3 =>
      ck ((hK h a_3).1 = 0) <|
      bd (Ho_worthOf N a_3 x1 x2 0 x3 x5 h) fun v6 h7 =>
      ck ((hK h7 a0).1 = 7) <|
      ((hR h7 a0 1)).bind fun a_10 =>
      ck ((hK h7 a_10).1 = 0) <|
      bd (Ho_toffeesTaken N a_10 x2 x3 x5 h7) fun v13 h14 =>
      bd (Le_at N (hR h7 a0 3) (x2 - v13) h14) fun v16 h17 =>
      if x5 = 0 then
        Sh_plainGreatest_b69 N (Sh_plainGreatest_b6 N n)  ((1000 * v6) + v16) a0 x1 x2 x3 x5 h17
      else
        Sh_plainGreatest_b69 N (Sh_plainGreatest_b6 N n)  (mxI x4 ((1000 * v6) + v16)) a0 x1 x2 x3 x5 h17
set_option maxRecDepth 20000 in
theorem Sh_plainGreatest_b6_ok (g : GT) (N : Nat) (D : Nat) (hD : 3 ≤ D) : ∀ (n : Nat) (a0 : Nat) (x1 : Int32) (x2 : Int32) (x3 : Int32) (x4 : Int32) (x5 : Int32) (h : PH) (v : Int32) (h' : PH), Sh_plainGreatest_b6 N n a0 x1 x2 x3 x4 x5 h = some (v, h') → Run g pSh_plainGreatest D 6 [(0, va_rf (some a0)), (1, .int x1), (2, .int x2), (3, .int x3), (4, .int x4), (5, .int x5)] [] h (rI v) h' := by
  obtain ⟨D2, rfl⟩ : ∃ d, D = d + 1 := ⟨D - 1, by omega⟩
  intro n
  induction n with
  | zero => exact fun _ _ _ _ _ _ _ _ _ hE => nomatch (show none = some _ from hE)
  | succ n ih =>
    intro a0 x1 x2 x3 x4 x5 h v h' hE
    unfold Sh_plainGreatest_b6 at hE
    refine r_iload rfl rfl ?_
    refine r_iconst 3 rfl ci_3 ?_
    refine r_icmp_gt (tgt := 77) rfl (by decide) (fun hc1 => ?_) (fun hc1 => ?_)
    · have hE := ifP hc1 hE
      refine r_iload rfl rfl ?_
      cases hE
      exact r_ret rfl (Or.inl ⟨rfl, _, _, rfl, rfl, rfl, rfl⟩)
    · have hE := ifN hc1 hE
      refine r_sipush 1000 rfl cs_1000 ?_
      refine r_aload_n (t := some a0) 0 rfl rfl rfl ?_
      obtain ⟨hk2, hE⟩ := ckE hE
      refine r_getR rfl (fl_7_21 rfl) (Or.inl ⟨_, rfl⟩) rfl hk2 ?_
      refine r_iload_n 1 rfl rfl rfl ?_
      refine r_iload_n 2 rfl rfl rfl ?_
      refine r_iconst 0 rfl ci_0 ?_
      refine r_iload_n 3 rfl rfl rfl ?_
      refine r_iload rfl rfl ?_
      obtain ⟨a_3, ha4, hE⟩ := bnE hE
      obtain ⟨hk5, hE⟩ := ckE hE
      obtain ⟨v6, h7, hq8, hE⟩ := bdE hE
      refine r_callV1 (rest := [.int 1000]) (hc := (Ho_worthOf_ok g N _ _ _ _ _ _ _ _ _ hq8 D2 (by omega))) rfl pm_Ho_worthOf lw_7_100 im_Ho_worthOf sl_Ho_worthOf ha4 rfl rfl (rcOK hk5 rfl) (by simp only [List.map_cons, List.map_nil, rf_cat, cat_i, cat_l, List.sum_cons, List.sum_nil]; decide) ?_
      refine r_imul rfl ?_
      refine r_aload_n (t := some a0) 0 rfl rfl rfl ?_
      obtain ⟨hk9, hE⟩ := ckE hE
      refine r_getR rfl (fl_7_18 rfl) (Or.inr ⟨_, rfl⟩) rfl hk9 ?_
      refine r_iload_n 2 rfl rfl rfl ?_
      refine r_aload_n (t := some a0) 0 rfl rfl rfl ?_
      refine r_getR rfl (fl_7_21 rfl) (Or.inl ⟨_, rfl⟩) rfl hk9 ?_
      refine r_iload_n 2 rfl rfl rfl ?_
      refine r_iload_n 3 rfl rfl rfl ?_
      refine r_iload rfl rfl ?_
      obtain ⟨a_10, ha11, hE⟩ := bnE hE
      obtain ⟨hk12, hE⟩ := ckE hE
      obtain ⟨v13, h14, hq15, hE⟩ := bdE hE
      refine r_callV1 (rest := [.int x2, va_rf (hR h7 a0 3), .int (1000 * v6)]) (hc := (Ho_toffeesTaken_ok g N _ _ _ _ _ _ _ hq15 D2 (by omega))) rfl pm_Ho_toffeesTaken lw_7_104 im_Ho_toffeesTaken sl_Ho_toffeesTaken ha11 rfl rfl (rcOK hk12 rfl) (by simp only [List.map_cons, List.map_nil, rf_cat, cat_i, cat_l, List.sum_cons, List.sum_nil]; decide) ?_
      refine r_isub rfl ?_
      obtain ⟨v16, h17, hq18, hE⟩ := bdE hE
      refine r_callSN1 (rest := [.int (1000 * v6)]) (hc := (Le_at_ok g N _ _ _ _ _ hq18 D2 (by omega))) rfl pm_Le_at lw_7_42 st_Le_at rfl rfl (by simp only [List.map_cons, List.map_nil, rf_cat, cat_i, cat_l, List.sum_cons, List.sum_nil]; decide) ?_
      refine r_iadd rfl ?_
      refine r_istore rfl (by decide) ?_
      refine r_iload rfl rfl ?_
      refine r_if_ne (tgt := 62) rfl (by decide) (fun hc19 => ?_) (fun hc19 => ?_)
      · have hE := ifP hc19 hE
        refine r_iload rfl rfl ?_
        refine r_goto (tgt := 69) rfl (by decide) ?_
        first | exact r_sb (Sh_plainGreatest_b69_ok g N _ hD _ ih  _ _ _ _ _ _ _ _ _ hE) ⟨rfl, rfl, rfl, rfl, rfl, trivial⟩ | exact r_sb (Sh_plainGreatest_b69_ok g N _ hD _ ih  _ _ _ _ _ _ _ _ _ hE) (by simp only [su1, su2, dr1_rf, dr1_in, dr1_lo, dr2_rf, dr2_in, dr2_lo]; exact ⟨rfl, rfl, rfl, rfl, rfl, trivial⟩)
      · have hE := ifN hc19 hE
        refine r_iload rfl rfl ?_
        refine r_iload rfl rfl ?_
        refine r_mmax rfl (gt5 49 rfl rfl) mm_max1 mm_2 mm_max3 (by decide) ?_
        first | exact r_sb (Sh_plainGreatest_b69_ok g N _ hD _ ih  _ _ _ _ _ _ _ _ _ hE) ⟨rfl, rfl, rfl, rfl, rfl, trivial⟩ | exact r_sb (Sh_plainGreatest_b69_ok g N _ hD _ ih  _ _ _ _ _ _ _ _ _ hE) (by simp only [su1, su2, dr1_rf, dr1_in, dr1_lo, dr2_rf, dr2_in, dr2_lo]; exact ⟨rfl, rfl, rfl, rfl, rfl, trivial⟩)
def Sh_plainGreatest (N : Nat) (a0 : Nat) (x1 : Int32) (x2 : Int32) (x3 : Int32) (h : PH) : Option (Int32 × PH) :=
  Sh_plainGreatest_b6 N N a0 x1 x2 x3 0 0 h
set_option maxRecDepth 20000 in
theorem Sh_plainGreatest_ok (g : GT) (N : Nat) (a0 : Nat) (x1 : Int32) (x2 : Int32) (x3 : Int32) (h : PH) (v : Int32) (h' : PH) (hE : Sh_plainGreatest N a0 x1 x2 x3 h = some (v, h')) (D : Nat) (hD : 3 ≤ D) : Calls g D pSh_plainGreatest [va_rf (some a0), .int x1, .int x2, .int x3] h (oI v) h' := by
  refine Calls.of cok_Sh_plainGreatest ht_Sh_plainGreatest pl_Sh_plainGreatest (fun ad => by rw [lg_len, sL_cat]; simp only [List.map_cons, List.map_nil, rf_cat, cat_i, cat_l, List.sum_cons, List.sum_nil]; decide) ?_
  rw [show lv_args 0 [va_rf (some a0), .int x1, .int x2, .int x3] = [(0, va_rf (some a0)), (1, .int x1), (2, .int x2), (3, .int x3)] from (by simp only [lv_args, rf_cat, cat_i, cat_l]; try rfl)]
  obtain ⟨D2, rfl⟩ : ∃ d, D = d + 1 := ⟨D - 1, by omega⟩
  unfold Sh_plainGreatest at hE
  refine r_iconst 0 rfl ci_0 ?_
  refine r_istore rfl (by decide) ?_
  refine r_iconst 0 rfl ci_0 ?_
  refine r_istore rfl (by decide) ?_
  first | exact r_sb (Sh_plainGreatest_b6_ok g N _ hD  N _ _ _ _ _ _ _ _ _ hE) ⟨rfl, rfl, rfl, rfl, rfl, rfl, trivial⟩ | exact r_sb (Sh_plainGreatest_b6_ok g N _ hD  N _ _ _ _ _ _ _ _ _ hE) (by simp only [su1, su2, dr1_rf, dr1_in, dr1_lo, dr2_rf, dr2_in, dr2_lo]; exact ⟨rfl, rfl, rfl, rfl, rfl, rfl, trivial⟩)
def Sh_plainMean_b44 (N : Nat) (self_5 : Nat → Int32 → Int32 → Int64 → Int32 → PH → Option (Int32 × PH)) (a0 : Nat) (x1 : Int32) (x2 : Int32) (x3 : Int64) (x5 : Int32) (h : PH) : Option (Int32 × PH) :=
  self_5 a0 x1 x2 x3 (x5 + 1) h
set_option maxRecDepth 20000 in
theorem Sh_plainMean_b44_ok (g : GT) (N : Nat) (D : Nat) (hD : 4 ≤ D) (self_5 : Nat → Int32 → Int32 → Int64 → Int32 → PH → Option (Int32 × PH)) (hself_5 : ∀ (a0 : Nat) (x1 : Int32) (x2 : Int32) (x3 : Int64) (x5 : Int32) (h : PH) (v : Int32) (h' : PH), self_5 a0 x1 x2 x3 x5 h = some (v, h') → Run g pSh_plainMean D 5 [(0, va_rf (some a0)), (1, .int x1), (2, .int x2), (3, .long x3), (5, .int x5)] [] h (rI v) h') : ∀ (a0 : Nat) (x1 : Int32) (x2 : Int32) (x3 : Int64) (x5 : Int32) (h : PH) (v : Int32) (h' : PH), Sh_plainMean_b44 N self_5 a0 x1 x2 x3 x5 h = some (v, h') → Run g pSh_plainMean D 44 [(0, va_rf (some a0)), (1, .int x1), (2, .int x2), (3, .long x3), (5, .int x5)] [] h (rI v) h' := by
  obtain ⟨D2, rfl⟩ : ∃ d, D = d + 1 := ⟨D - 1, by omega⟩
  intro a0 x1 x2 x3 x5 h v h' hE
  unfold Sh_plainMean_b44 at hE
  refine r_iinc _ rfl rfl (congrArg _ ci_1) (by decide) ?_
  refine r_goto (tgt := 5) rfl (by decide) ?_
  first | exact r_sb (hself_5 _ _ _ _ _ _ _ _ hE) ⟨rfl, rfl, rfl, rfl, rfl, trivial⟩ | exact r_sb (hself_5 _ _ _ _ _ _ _ _ hE) (by simp only [su1, su2, dr1_rf, dr1_in, dr1_lo, dr2_rf, dr2_in, dr2_lo]; exact ⟨rfl, rfl, rfl, rfl, rfl, trivial⟩)
def Sh_plainMean_b5 (N : Nat) : Nat → Nat → Int32 → Int32 → Int64 → Int32 → PH → Option (Int32 × PH)
  | 0 => fun _ _ _ _ _ _ => none
  | n + 1 => fun a0 x1 x2 x3 x5 h =>
    if 6 < x5 then
      ck (¬ (100 : Int64) = 0) <|
      some ((Int64.toInt32 (x3 / 100)), h)
    else
      ck ((hK h a0).1 = 7) <|
      bd (Le_at N (hR h a0 0) x5 h) fun v4 h5 =>
      if v4 ≤ 0 then
        Sh_plainMean_b44 N (Sh_plainMean_b5 N n)  a0 x1 x2 x3 x5 h5
      else
        ck ((hK h5 a0).1 = 7) <|
        bd (Sh_plainGreatest N a0 x1 x2 x5 h5) fun v9 h10 =>
        Sh_plainMean_b44 N (Sh_plainMean_b5 N n)  a0 x1 x2 (x3 + ((Int32.toInt64 v4) * (Int32.toInt64 v9))) x5 h10
set_option maxRecDepth 20000 in
theorem Sh_plainMean_b5_ok (g : GT) (N : Nat) (D : Nat) (hD : 4 ≤ D) : ∀ (n : Nat) (a0 : Nat) (x1 : Int32) (x2 : Int32) (x3 : Int64) (x5 : Int32) (h : PH) (v : Int32) (h' : PH), Sh_plainMean_b5 N n a0 x1 x2 x3 x5 h = some (v, h') → Run g pSh_plainMean D 5 [(0, va_rf (some a0)), (1, .int x1), (2, .int x2), (3, .long x3), (5, .int x5)] [] h (rI v) h' := by
  obtain ⟨D2, rfl⟩ : ∃ d, D = d + 1 := ⟨D - 1, by omega⟩
  intro n
  induction n with
  | zero => exact fun _ _ _ _ _ _ _ _ hE => nomatch (show none = some _ from hE)
  | succ n ih =>
    intro a0 x1 x2 x3 x5 h v h' hE
    unfold Sh_plainMean_b5 at hE
    refine r_iload rfl rfl ?_
    refine r_bipush 6 rfl cb_6 ?_
    refine r_icmp_gt (tgt := 50) rfl (by decide) (fun hc1 => ?_) (fun hc1 => ?_)
    · have hE := ifP hc1 hE
      refine r_lload_n 3 rfl rfl rfl ?_
      refine r_ldc2 rfl kc_7_98 ?_
      obtain ⟨hc2, hE⟩ := ckE hE
      refine r_ldiv rfl hc2 ?_
      refine r_l2i rfl ?_
      cases hE
      exact r_ret rfl (Or.inl ⟨rfl, _, _, rfl, rfl, rfl, rfl⟩)
    · have hE := ifN hc1 hE
      refine r_aload_n (t := some a0) 0 rfl rfl rfl ?_
      obtain ⟨hk3, hE⟩ := ckE hE
      refine r_getR rfl (fl_7_11 rfl) (Or.inr ⟨_, rfl⟩) rfl hk3 ?_
      refine r_iload rfl rfl ?_
      obtain ⟨v4, h5, hq6, hE⟩ := bdE hE
      refine r_callSN1 (rest := []) (hc := (Le_at_ok g N _ _ _ _ _ hq6 D2 (by omega))) rfl pm_Le_at lw_7_42 st_Le_at rfl rfl (by decide) ?_
      refine r_istore rfl (by decide) ?_
      refine r_iload rfl rfl ?_
      refine r_if_le (tgt := 44) rfl (by decide) (fun hc7 => ?_) (fun hc7 => ?_)
      · have hE := ifP hc7 hE
        first | exact r_sb (Sh_plainMean_b44_ok g N _ hD _ ih  _ _ _ _ _ _ _ _ hE) ⟨rfl, rfl, rfl, rfl, rfl, trivial⟩ | exact r_sb (Sh_plainMean_b44_ok g N _ hD _ ih  _ _ _ _ _ _ _ _ hE) (by simp only [su1, su2, dr1_rf, dr1_in, dr1_lo, dr2_rf, dr2_in, dr2_lo]; exact ⟨rfl, rfl, rfl, rfl, rfl, trivial⟩)
      · have hE := ifN hc7 hE
        refine r_lload_n 3 rfl rfl rfl ?_
        refine r_iload rfl rfl ?_
        refine r_i2l rfl ?_
        refine r_aload_n (t := some a0) 0 rfl rfl rfl ?_
        refine r_iload_n 1 rfl rfl rfl ?_
        refine r_iload_n 2 rfl rfl rfl ?_
        refine r_iload rfl rfl ?_
        obtain ⟨hk8, hE⟩ := ckE hE
        obtain ⟨v9, h10, hq11, hE⟩ := bdE hE
        refine r_callV1 (rest := [.long (Int32.toInt64 v4), .long x3]) (hc := (Sh_plainGreatest_ok g N _ _ _ _ _ _ _ hq11 D2 (by omega))) rfl pm_Sh_plainGreatest lw_7_94 im_Sh_plainGreatest sl_Sh_plainGreatest rfl rfl rfl (rcOK hk8 rfl) (by simp only [List.map_cons, List.map_nil, rf_cat, cat_i, cat_l, List.sum_cons, List.sum_nil]; decide) ?_
        refine r_i2l rfl ?_
        refine r_lmul rfl ?_
        refine r_ladd rfl ?_
        refine r_lstore_n 3 rfl rfl (by decide) ?_
        first | exact r_sb (Sh_plainMean_b44_ok g N _ hD _ ih  _ _ _ _ _ _ _ _ hE) ⟨rfl, rfl, rfl, rfl, rfl, trivial⟩ | exact r_sb (Sh_plainMean_b44_ok g N _ hD _ ih  _ _ _ _ _ _ _ _ hE) (by simp only [su1, su2, dr1_rf, dr1_in, dr1_lo, dr2_rf, dr2_in, dr2_lo]; exact ⟨rfl, rfl, rfl, rfl, rfl, trivial⟩)
def Sh_plainMean (N : Nat) (a0 : Nat) (x1 : Int32) (x2 : Int32) (h : PH) : Option (Int32 × PH) :=
  Sh_plainMean_b5 N N a0 x1 x2 0 0 h
set_option maxRecDepth 20000 in
theorem Sh_plainMean_ok (g : GT) (N : Nat) (a0 : Nat) (x1 : Int32) (x2 : Int32) (h : PH) (v : Int32) (h' : PH) (hE : Sh_plainMean N a0 x1 x2 h = some (v, h')) (D : Nat) (hD : 4 ≤ D) : Calls g D pSh_plainMean [va_rf (some a0), .int x1, .int x2] h (oI v) h' := by
  refine Calls.of cok_Sh_plainMean ht_Sh_plainMean pl_Sh_plainMean (fun ad => by rw [lg_len, sL_cat]; simp only [List.map_cons, List.map_nil, rf_cat, cat_i, cat_l, List.sum_cons, List.sum_nil]; decide) ?_
  rw [show lv_args 0 [va_rf (some a0), .int x1, .int x2] = [(0, va_rf (some a0)), (1, .int x1), (2, .int x2)] from (by simp only [lv_args, rf_cat, cat_i, cat_l]; try rfl)]
  obtain ⟨D2, rfl⟩ : ∃ d, D = d + 1 := ⟨D - 1, by omega⟩
  unfold Sh_plainMean at hE
  refine r_lconst 0 rfl cl_0 ?_
  refine r_lstore_n 3 rfl rfl (by decide) ?_
  refine r_iconst 0 rfl ci_0 ?_
  refine r_istore rfl (by decide) ?_
  first | exact r_sb (Sh_plainMean_b5_ok g N _ hD  N _ _ _ _ _ _ _ _ hE) ⟨rfl, rfl, rfl, rfl, rfl, trivial⟩ | exact r_sb (Sh_plainMean_b5_ok g N _ hD  N _ _ _ _ _ _ _ _ hE) (by simp only [su1, su2, dr1_rf, dr1_in, dr1_lo, dr2_rf, dr2_in, dr2_lo]; exact ⟨rfl, rfl, rfl, rfl, rfl, trivial⟩)
def Sh_apartOrOne_b91 (N : Nat) (self_71 : Nat → Int32 → Int32 → Int32 → Int32 → Int32 → Int32 → PH → Option (Int32 × PH)) : Nat → Nat → Int32 → Int32 → Int32 → Int32 → Int32 → Int32 → Int32 → PH → Option (Int32 × PH)
  | 0 => fun _ _ _ _ _ _ _ _ _ => none
  | n + 1 => fun a0 x1 x2 x3 x4 x5 x6 x7 h =>
    if x5 < x7 then
      self_71 a0 x1 x2 x3 x4 x5 (x6 + (-1)) h
    else
      ck ((hK h a0).1 = 7) <|
      bd (Sh_plainMean N a0 x6 x7 h) fun v3 h4 =>
      bd (Le_put N (hR h a0 2) x7 v3 h4) fun v6 h7 =>
      (Sh_apartOrOne_b91 N self_71 n) a0 x1 x2 x3 x4 x5 x6 (x7 + 1) h7
set_option maxRecDepth 20000 in
theorem Sh_apartOrOne_b91_ok (g : GT) (N : Nat) (D : Nat) (hD : 5 ≤ D) (self_71 : Nat → Int32 → Int32 → Int32 → Int32 → Int32 → Int32 → PH → Option (Int32 × PH)) (hself_71 : ∀ (a0 : Nat) (x1 : Int32) (x2 : Int32) (x3 : Int32) (x4 : Int32) (x5 : Int32) (x6 : Int32) (h : PH) (v : Int32) (h' : PH), self_71 a0 x1 x2 x3 x4 x5 x6 h = some (v, h') → Run g pSh_apartOrOne D 71 [(0, va_rf (some a0)), (1, .int x1), (2, .int x2), (3, .int x3), (4, .int x4), (5, .int x5), (6, .int x6)] [] h (rI v) h') : ∀ (n : Nat) (a0 : Nat) (x1 : Int32) (x2 : Int32) (x3 : Int32) (x4 : Int32) (x5 : Int32) (x6 : Int32) (x7 : Int32) (h : PH) (v : Int32) (h' : PH), Sh_apartOrOne_b91 N self_71 n a0 x1 x2 x3 x4 x5 x6 x7 h = some (v, h') → Run g pSh_apartOrOne D 91 [(0, va_rf (some a0)), (1, .int x1), (2, .int x2), (3, .int x3), (4, .int x4), (5, .int x5), (6, .int x6), (7, .int x7)] [] h (rI v) h' := by
  obtain ⟨D2, rfl⟩ : ∃ d, D = d + 1 := ⟨D - 1, by omega⟩
  intro n
  induction n with
  | zero => exact fun _ _ _ _ _ _ _ _ _ _ _ hE => nomatch (show none = some _ from hE)
  | succ n ih =>
    intro a0 x1 x2 x3 x4 x5 x6 x7 h v h' hE
    unfold Sh_apartOrOne_b91 at hE
    refine r_iload rfl rfl ?_
    refine r_iload rfl rfl ?_
    refine r_icmp_gt (tgt := 121) rfl (by decide) (fun hc1 => ?_) (fun hc1 => ?_)
    · have hE := ifP hc1 hE
      refine r_iinc _ rfl rfl (congrArg _ ci_m1) (by decide) ?_
      refine r_goto (tgt := 71) rfl (by decide) ?_
      first | exact r_sb (hself_71 _ _ _ _ _ _ _ _ _ _ hE) ⟨rfl, rfl, rfl, rfl, rfl, rfl, rfl, trivial⟩ | exact r_sb (hself_71 _ _ _ _ _ _ _ _ _ _ hE) (by simp only [su1, su2, dr1_rf, dr1_in, dr1_lo, dr2_rf, dr2_in, dr2_lo]; exact ⟨rfl, rfl, rfl, rfl, rfl, rfl, rfl, trivial⟩)
    · have hE := ifN hc1 hE
      refine r_aload_n (t := some a0) 0 rfl rfl rfl ?_
      obtain ⟨hk2, hE⟩ := ckE hE
      refine r_getR rfl (fl_7_15 rfl) (Or.inr ⟨_, rfl⟩) rfl hk2 ?_
      refine r_iload rfl rfl ?_
      refine r_aload_n (t := some a0) 0 rfl rfl rfl ?_
      refine r_iload rfl rfl ?_
      refine r_iload rfl rfl ?_
      obtain ⟨v3, h4, hq5, hE⟩ := bdE hE
      refine r_callV1 (rest := [.int x7, va_rf (hR h a0 2)]) (hc := (Sh_plainMean_ok g N _ _ _ _ _ _ hq5 D2 (by omega))) rfl pm_Sh_plainMean lw_7_91 im_Sh_plainMean sl_Sh_plainMean rfl rfl rfl (rcOK hk2 rfl) (by simp only [List.map_cons, List.map_nil, rf_cat, cat_i, cat_l, List.sum_cons, List.sum_nil]; decide) ?_
      obtain ⟨v6, h7, hq8, hE⟩ := bdE hE
      refine r_callSN0 (rest := []) (hc := (Le_put_ok g N _ _ _ _ _ _ hq8 D2 (by omega))) rfl pm_Le_put lw_7_66 st_Le_put rfl rfl (by decide) ?_
      refine r_iinc _ rfl rfl (congrArg _ ci_1) (by decide) ?_
      refine r_goto (tgt := 91) rfl (by decide) ?_
      first | exact r_sb (ih _ _ _ _ _ _ _ _ _ _ _ hE) ⟨rfl, rfl, rfl, rfl, rfl, rfl, rfl, rfl, trivial⟩ | exact r_sb (ih _ _ _ _ _ _ _ _ _ _ _ hE) (by simp only [su1, su2, dr1_rf, dr1_in, dr1_lo, dr2_rf, dr2_in, dr2_lo]; exact ⟨rfl, rfl, rfl, rfl, rfl, rfl, rfl, rfl, trivial⟩)
def Sh_apartOrOne_b71 (N : Nat) : Nat → Nat → Int32 → Int32 → Int32 → Int32 → Int32 → Int32 → PH → Option (Int32 × PH)
  | 0 => fun _ _ _ _ _ _ _ _ => none
  | n + 1 => fun a0 x1 x2 x3 x4 x5 x6 h =>
    if x6 < x2 then
      if x1 = 0 then
        ck ((hK h a0).1 = 7) <|
        bd (Le_at N (hR h a0 2) x3 h) fun v4 h5 =>
        ck ((hK h5 a0).1 = 7) <|
        bd (Le_at N (hR h5 a0 2) x4 h5) fun v8 h9 =>
        some ((v4 + v8), h9)
      else
        ck ((hK h a0).1 = 7) <|
        bd (Le_at N (hR h a0 2) x5 h) fun v12 h13 =>
        some (v12, h13)
    else
      ck ((hK h a0).1 = 7) <|
      bd (Sh_swap N a0 h) fun v16 h17 =>
      ck ((hK h17 a0).1 = 7) <|
      bd (Sh_setChances N a0 x1 x6 h17) fun v20 h21 =>
      Sh_apartOrOne_b91 N (Sh_apartOrOne_b71 N n) N a0 x1 x2 x3 x4 x5 x6 0 h21
set_option maxRecDepth 20000 in
theorem Sh_apartOrOne_b71_ok (g : GT) (N : Nat) (D : Nat) (hD : 5 ≤ D) : ∀ (n : Nat) (a0 : Nat) (x1 : Int32) (x2 : Int32) (x3 : Int32) (x4 : Int32) (x5 : Int32) (x6 : Int32) (h : PH) (v : Int32) (h' : PH), Sh_apartOrOne_b71 N n a0 x1 x2 x3 x4 x5 x6 h = some (v, h') → Run g pSh_apartOrOne D 71 [(0, va_rf (some a0)), (1, .int x1), (2, .int x2), (3, .int x3), (4, .int x4), (5, .int x5), (6, .int x6)] [] h (rI v) h' := by
  obtain ⟨D2, rfl⟩ : ∃ d, D = d + 1 := ⟨D - 1, by omega⟩
  intro n
  induction n with
  | zero => exact fun _ _ _ _ _ _ _ _ _ _ hE => nomatch (show none = some _ from hE)
  | succ n ih =>
    intro a0 x1 x2 x3 x4 x5 x6 h v h' hE
    unfold Sh_apartOrOne_b71 at hE
    refine r_iload rfl rfl ?_
    refine r_iload_n 2 rfl rfl rfl ?_
    refine r_icmp_lt (tgt := 127) rfl (by decide) (fun hc1 => ?_) (fun hc1 => ?_)
    · have hE := ifP hc1 hE
      refine r_iload_n 1 rfl rfl rfl ?_
      refine r_if_eq (tgt := 143) rfl (by decide) (fun hc2 => ?_) (fun hc2 => ?_)
      · have hE := ifP hc2 hE
        refine r_aload_n (t := some a0) 0 rfl rfl rfl ?_
        obtain ⟨hk3, hE⟩ := ckE hE
        refine r_getR rfl (fl_7_15 rfl) (Or.inr ⟨_, rfl⟩) rfl hk3 ?_
        refine r_iload_n 3 rfl rfl rfl ?_
        obtain ⟨v4, h5, hq6, hE⟩ := bdE hE
        refine r_callSN1 (rest := []) (hc := (Le_at_ok g N _ _ _ _ _ hq6 D2 (by omega))) rfl pm_Le_at lw_7_42 st_Le_at rfl rfl (by decide) ?_
        refine r_aload_n (t := some a0) 0 rfl rfl rfl ?_
        obtain ⟨hk7, hE⟩ := ckE hE
        refine r_getR rfl (fl_7_15 rfl) (Or.inr ⟨_, rfl⟩) rfl hk7 ?_
        refine r_iload rfl rfl ?_
        obtain ⟨v8, h9, hq10, hE⟩ := bdE hE
        refine r_callSN1 (rest := [.int v4]) (hc := (Le_at_ok g N _ _ _ _ _ hq10 D2 (by omega))) rfl pm_Le_at lw_7_42 st_Le_at rfl rfl (by simp only [List.map_cons, List.map_nil, rf_cat, cat_i, cat_l, List.sum_cons, List.sum_nil]; decide) ?_
        refine r_iadd rfl ?_
        cases hE
        exact r_ret rfl (Or.inl ⟨rfl, _, _, rfl, rfl, rfl, rfl⟩)
      · have hE := ifN hc2 hE
        refine r_aload_n (t := some a0) 0 rfl rfl rfl ?_
        obtain ⟨hk11, hE⟩ := ckE hE
        refine r_getR rfl (fl_7_15 rfl) (Or.inr ⟨_, rfl⟩) rfl hk11 ?_
        refine r_iload rfl rfl ?_
        obtain ⟨v12, h13, hq14, hE⟩ := bdE hE
        refine r_callSN1 (rest := []) (hc := (Le_at_ok g N _ _ _ _ _ hq14 D2 (by omega))) rfl pm_Le_at lw_7_42 st_Le_at rfl rfl (by decide) ?_
        refine r_goto (tgt := 161) rfl (by decide) ?_
        cases hE
        exact r_ret rfl (Or.inl ⟨rfl, _, _, rfl, rfl, rfl, rfl⟩)
    · have hE := ifN hc1 hE
      refine r_aload_n (t := some a0) 0 rfl rfl rfl ?_
      obtain ⟨hk15, hE⟩ := ckE hE
      obtain ⟨v16, h17, hq18, hE⟩ := bdE hE
      refine r_callV0 (rest := []) (hc := (Sh_swap_ok g N _ _ _ _ hq18 D2 (by omega))) rfl pm_Sh_swap lw_7_59 im_Sh_swap sl_Sh_swap rfl rfl rfl (rcOK hk15 rfl) (by decide) ?_
      refine r_aload_n (t := some a0) 0 rfl rfl rfl ?_
      refine r_iload_n 1 rfl rfl rfl ?_
      refine r_iload rfl rfl ?_
      obtain ⟨hk19, hE⟩ := ckE hE
      obtain ⟨v20, h21, hq22, hE⟩ := bdE hE
      refine r_callV0 (rest := []) (hc := (Sh_setChances_ok g N _ _ _ _ _ _ hq22 D2 (by omega))) rfl pm_Sh_setChances lw_7_87 im_Sh_setChances sl_Sh_setChances rfl rfl rfl (rcOK hk19 rfl) (by decide) ?_
      refine r_iconst 0 rfl ci_0 ?_
      refine r_istore rfl (by decide) ?_
      first | exact r_sb (Sh_apartOrOne_b91_ok g N _ hD _ ih N _ _ _ _ _ _ _ _ _ _ _ hE) ⟨rfl, rfl, rfl, rfl, rfl, rfl, rfl, rfl, trivial⟩ | exact r_sb (Sh_apartOrOne_b91_ok g N _ hD _ ih N _ _ _ _ _ _ _ _ _ _ _ hE) (by simp only [su1, su2, dr1_rf, dr1_in, dr1_lo, dr2_rf, dr2_in, dr2_lo]; exact ⟨rfl, rfl, rfl, rfl, rfl, rfl, rfl, rfl, trivial⟩)
def Sh_apartOrOne_b22 (N : Nat) : Nat → Nat → Int32 → Int32 → Int32 → Int32 → Int32 → Int32 → PH → Option (Int32 × PH)
  | 0 => fun _ _ _ _ _ _ _ _ => none
  | n + 1 => fun a0 x1 x2 x3 x4 x5 x6 h =>
    if x5 < x6 then
      ck ((hK h a0).1 = 7) <|
      ((hR h a0 1)).bind fun a_3 =>
      ck ((hK h a_3).1 = 0) <|
      Sh_apartOrOne_b71 N N a0 x1 x2 x3 x4 x5 ((hI h a_3 0) - 1) h
    else
      ck ((hK h a0).1 = 7) <|
      ((hR h a0 1)).bind fun a_7 =>
      ck ((hK h a_7).1 = 0) <|
      bd (Ho_offWorth N a_7 (hI h a_7 0) x6 h) fun v10 h11 =>
      bd (Le_put N (hR h a0 2) x6 v10 h11) fun v13 h14 =>
      (Sh_apartOrOne_b22 N n) a0 x1 x2 x3 x4 x5 (x6 + 1) h14
set_option maxRecDepth 20000 in
theorem Sh_apartOrOne_b22_ok (g : GT) (N : Nat) (D : Nat) (hD : 5 ≤ D) : ∀ (n : Nat) (a0 : Nat) (x1 : Int32) (x2 : Int32) (x3 : Int32) (x4 : Int32) (x5 : Int32) (x6 : Int32) (h : PH) (v : Int32) (h' : PH), Sh_apartOrOne_b22 N n a0 x1 x2 x3 x4 x5 x6 h = some (v, h') → Run g pSh_apartOrOne D 22 [(0, va_rf (some a0)), (1, .int x1), (2, .int x2), (3, .int x3), (4, .int x4), (5, .int x5), (6, .int x6)] [] h (rI v) h' := by
  obtain ⟨D2, rfl⟩ : ∃ d, D = d + 1 := ⟨D - 1, by omega⟩
  intro n
  induction n with
  | zero => exact fun _ _ _ _ _ _ _ _ _ _ hE => nomatch (show none = some _ from hE)
  | succ n ih =>
    intro a0 x1 x2 x3 x4 x5 x6 h v h' hE
    unfold Sh_apartOrOne_b22 at hE
    refine r_iload rfl rfl ?_
    refine r_iload rfl rfl ?_
    refine r_icmp_gt (tgt := 60) rfl (by decide) (fun hc1 => ?_) (fun hc1 => ?_)
    · have hE := ifP hc1 hE
      refine r_aload_n (t := some a0) 0 rfl rfl rfl ?_
      obtain ⟨hk2, hE⟩ := ckE hE
      refine r_getR rfl (fl_7_21 rfl) (Or.inl ⟨_, rfl⟩) rfl hk2 ?_
      obtain ⟨a_3, ha4, hE⟩ := bnE hE
      obtain ⟨hk5, hE⟩ := ckE hE
      refine r_getI rfl (fl_7_56 rfl) (Or.inl rfl) ha4 hk5 ?_
      refine r_iconst 1 rfl ci_1 ?_
      refine r_isub rfl ?_
      refine r_istore rfl (by decide) ?_
      first | exact r_sb (Sh_apartOrOne_b71_ok g N _ hD  N _ _ _ _ _ _ _ _ _ _ hE) ⟨rfl, rfl, rfl, rfl, rfl, rfl, rfl, trivial⟩ | exact r_sb (Sh_apartOrOne_b71_ok g N _ hD  N _ _ _ _ _ _ _ _ _ _ hE) (by simp only [su1, su2, dr1_rf, dr1_in, dr1_lo, dr2_rf, dr2_in, dr2_lo]; exact ⟨rfl, rfl, rfl, rfl, rfl, rfl, rfl, trivial⟩)
    · have hE := ifN hc1 hE
      refine r_aload_n (t := some a0) 0 rfl rfl rfl ?_
      obtain ⟨hk6, hE⟩ := ckE hE
      refine r_getR rfl (fl_7_15 rfl) (Or.inr ⟨_, rfl⟩) rfl hk6 ?_
      refine r_iload rfl rfl ?_
      refine r_aload_n (t := some a0) 0 rfl rfl rfl ?_
      refine r_getR rfl (fl_7_21 rfl) (Or.inl ⟨_, rfl⟩) rfl hk6 ?_
      refine r_aload_n (t := some a0) 0 rfl rfl rfl ?_
      refine r_getR rfl (fl_7_21 rfl) (Or.inl ⟨_, rfl⟩) rfl hk6 ?_
      obtain ⟨a_7, ha8, hE⟩ := bnE hE
      obtain ⟨hk9, hE⟩ := ckE hE
      refine r_getI rfl (fl_7_56 rfl) (Or.inl rfl) ha8 hk9 ?_
      refine r_iload rfl rfl ?_
      obtain ⟨v10, h11, hq12, hE⟩ := bdE hE
      refine r_callV1 (rest := [.int x6, va_rf (hR h a0 2)]) (hc := (Ho_offWorth_ok g N _ _ _ _ _ _ hq12 D2 (by omega))) rfl pm_Ho_offWorth lw_7_84 im_Ho_offWorth sl_Ho_offWorth ha8 rfl rfl (rcOK hk9 rfl) (by simp only [List.map_cons, List.map_nil, rf_cat, cat_i, cat_l, List.sum_cons, List.sum_nil]; decide) ?_
      obtain ⟨v13, h14, hq15, hE⟩ := bdE hE
      refine r_callSN0 (rest := []) (hc := (Le_put_ok g N _ _ _ _ _ _ hq15 D2 (by omega))) rfl pm_Le_put lw_7_66 st_Le_put rfl rfl (by decide) ?_
      refine r_iinc _ rfl rfl (congrArg _ ci_1) (by decide) ?_
      refine r_goto (tgt := 22) rfl (by decide) ?_
      first | exact r_sb (ih _ _ _ _ _ _ _ _ _ _ hE) ⟨rfl, rfl, rfl, rfl, rfl, rfl, rfl, trivial⟩ | exact r_sb (ih _ _ _ _ _ _ _ _ _ _ hE) (by simp only [su1, su2, dr1_rf, dr1_in, dr1_lo, dr2_rf, dr2_in, dr2_lo]; exact ⟨rfl, rfl, rfl, rfl, rfl, rfl, rfl, trivial⟩)
def Sh_apartOrOne_b17 (N : Nat) (s0 : Int32) (a0 : Nat) (x1 : Int32) (x2 : Int32) (x3 : Int32) (x4 : Int32) (h : PH) : Option (Int32 × PH) :=
  Sh_apartOrOne_b22 N N a0 x1 x2 x3 x4 s0 0 h
set_option maxRecDepth 20000 in
theorem Sh_apartOrOne_b17_ok (g : GT) (N : Nat) (D : Nat) (hD : 5 ≤ D) : ∀ (s0 : Int32) (a0 : Nat) (x1 : Int32) (x2 : Int32) (x3 : Int32) (x4 : Int32) (h : PH) (v : Int32) (h' : PH), Sh_apartOrOne_b17 N s0 a0 x1 x2 x3 x4 h = some (v, h') → Run g pSh_apartOrOne D 17 [(0, va_rf (some a0)), (1, .int x1), (2, .int x2), (3, .int x3), (4, .int x4)] [.int s0] h (rI v) h' := by
  obtain ⟨D2, rfl⟩ : ∃ d, D = d + 1 := ⟨D - 1, by omega⟩
  intro s0 a0 x1 x2 x3 x4 h v h' hE
  unfold Sh_apartOrOne_b17 at hE
  refine r_istore rfl (by decide) ?_
  refine r_iconst 0 rfl ci_0 ?_
  refine r_istore rfl (by decide) ?_
  first | exact r_sb (Sh_apartOrOne_b22_ok g N _ hD  N _ _ _ _ _ _ _ _ _ _ hE) ⟨rfl, rfl, rfl, rfl, rfl, rfl, rfl, trivial⟩ | exact r_sb (Sh_apartOrOne_b22_ok g N _ hD  N _ _ _ _ _ _ _ _ _ _ hE) (by simp only [su1, su2, dr1_rf, dr1_in, dr1_lo, dr2_rf, dr2_in, dr2_lo]; exact ⟨rfl, rfl, rfl, rfl, rfl, rfl, rfl, trivial⟩)
def Sh_apartOrOne (N : Nat) (a0 : Nat) (x1 : Int32) (x2 : Int32) (x3 : Int32) (x4 : Int32) (h : PH) : Option (Int32 × PH) :=
  if x1 = 0 then
    Sh_apartOrOne_b17 N  (mxI x3 x4) a0 x1 x2 x3 x4 h
  else
    Sh_apartOrOne_b17 N  (x3 + x4) a0 x1 x2 x3 x4 h
set_option maxRecDepth 20000 in
theorem Sh_apartOrOne_ok (g : GT) (N : Nat) (a0 : Nat) (x1 : Int32) (x2 : Int32) (x3 : Int32) (x4 : Int32) (h : PH) (v : Int32) (h' : PH) (hE : Sh_apartOrOne N a0 x1 x2 x3 x4 h = some (v, h')) (D : Nat) (hD : 5 ≤ D) : Calls g D pSh_apartOrOne [va_rf (some a0), .int x1, .int x2, .int x3, .int x4] h (oI v) h' := by
  refine Calls.of cok_Sh_apartOrOne ht_Sh_apartOrOne pl_Sh_apartOrOne (fun ad => by rw [lg_len, sL_cat]; simp only [List.map_cons, List.map_nil, rf_cat, cat_i, cat_l, List.sum_cons, List.sum_nil]; decide) ?_
  rw [show lv_args 0 [va_rf (some a0), .int x1, .int x2, .int x3, .int x4] = [(0, va_rf (some a0)), (1, .int x1), (2, .int x2), (3, .int x3), (4, .int x4)] from (by simp only [lv_args, rf_cat, cat_i, cat_l]; try rfl)]
  obtain ⟨D2, rfl⟩ : ∃ d, D = d + 1 := ⟨D - 1, by omega⟩
  unfold Sh_apartOrOne at hE
  refine r_iload_n 1 rfl rfl rfl ?_
  refine r_if_eq (tgt := 11) rfl (by decide) (fun hc1 => ?_) (fun hc1 => ?_)
  · have hE := ifP hc1 hE
    refine r_iload_n 3 rfl rfl rfl ?_
    refine r_iload rfl rfl ?_
    refine r_mmax rfl (gt5 49 rfl rfl) mm_max1 mm_2 mm_max3 (by decide) ?_
    first | exact r_sb (Sh_apartOrOne_b17_ok g N _ hD   _ _ _ _ _ _ _ _ _ hE) ⟨rfl, rfl, rfl, rfl, rfl, trivial⟩ | exact r_sb (Sh_apartOrOne_b17_ok g N _ hD   _ _ _ _ _ _ _ _ _ hE) (by simp only [su1, su2, dr1_rf, dr1_in, dr1_lo, dr2_rf, dr2_in, dr2_lo]; exact ⟨rfl, rfl, rfl, rfl, rfl, trivial⟩)
  · have hE := ifN hc1 hE
    refine r_iload_n 3 rfl rfl rfl ?_
    refine r_iload rfl rfl ?_
    refine r_iadd rfl ?_
    refine r_goto (tgt := 17) rfl (by decide) ?_
    first | exact r_sb (Sh_apartOrOne_b17_ok g N _ hD   _ _ _ _ _ _ _ _ _ hE) ⟨rfl, rfl, rfl, rfl, rfl, trivial⟩ | exact r_sb (Sh_apartOrOne_b17_ok g N _ hD   _ _ _ _ _ _ _ _ _ hE) (by simp only [su1, su2, dr1_rf, dr1_in, dr1_lo, dr2_rf, dr2_in, dr2_lo]; exact ⟨rfl, rfl, rfl, rfl, rfl, trivial⟩)
def Sh_overFence (N : Nat) (a0 : Nat) (x1 : Int32) (x2 : Int32) (x3 : Int32) (h : PH) : Option (Int32 × PH) :=
  ck ((hK h a0).1 = 7) <|
  bd (Sh_apartOrOne N a0 0 x1 x2 x3 h) fun v2 h3 =>
  ck ((hK h3 a0).1 = 7) <|
  bd (Sh_apartOrOne N a0 1 x1 x2 x3 h3) fun v6 h7 =>
  some ((v6 - v2), h7)
set_option maxRecDepth 20000 in
theorem Sh_overFence_ok (g : GT) (N : Nat) (a0 : Nat) (x1 : Int32) (x2 : Int32) (x3 : Int32) (h : PH) (v : Int32) (h' : PH) (hE : Sh_overFence N a0 x1 x2 x3 h = some (v, h')) (D : Nat) (hD : 6 ≤ D) : Calls g D pSh_overFence [va_rf (some a0), .int x1, .int x2, .int x3] h (oI v) h' := by
  refine Calls.of cok_Sh_overFence ht_Sh_overFence pl_Sh_overFence (fun ad => by rw [lg_len, sL_cat]; simp only [List.map_cons, List.map_nil, rf_cat, cat_i, cat_l, List.sum_cons, List.sum_nil]; decide) ?_
  rw [show lv_args 0 [va_rf (some a0), .int x1, .int x2, .int x3] = [(0, va_rf (some a0)), (1, .int x1), (2, .int x2), (3, .int x3)] from (by simp only [lv_args, rf_cat, cat_i, cat_l]; try rfl)]
  obtain ⟨D2, rfl⟩ : ∃ d, D = d + 1 := ⟨D - 1, by omega⟩
  unfold Sh_overFence at hE
  refine r_aload_n (t := some a0) 0 rfl rfl rfl ?_
  refine r_iconst 0 rfl ci_0 ?_
  refine r_iload_n 1 rfl rfl rfl ?_
  refine r_iload_n 2 rfl rfl rfl ?_
  refine r_iload_n 3 rfl rfl rfl ?_
  obtain ⟨hk1, hE⟩ := ckE hE
  obtain ⟨v2, h3, hq4, hE⟩ := bdE hE
  refine r_callV1 (rest := []) (hc := (Sh_apartOrOne_ok g N _ _ _ _ _ _ _ _ hq4 D2 (by omega))) rfl pm_Sh_apartOrOne lw_7_51 im_Sh_apartOrOne sl_Sh_apartOrOne rfl rfl rfl (rcOK hk1 rfl) (by decide) ?_
  refine r_istore rfl (by decide) ?_
  refine r_aload_n (t := some a0) 0 rfl rfl rfl ?_
  refine r_iconst 1 rfl ci_1 ?_
  refine r_iload_n 1 rfl rfl rfl ?_
  refine r_iload_n 2 rfl rfl rfl ?_
  refine r_iload_n 3 rfl rfl rfl ?_
  obtain ⟨hk5, hE⟩ := ckE hE
  obtain ⟨v6, h7, hq8, hE⟩ := bdE hE
  refine r_callV1 (rest := []) (hc := (Sh_apartOrOne_ok g N _ _ _ _ _ _ _ _ hq8 D2 (by omega))) rfl pm_Sh_apartOrOne lw_7_51 im_Sh_apartOrOne sl_Sh_apartOrOne rfl rfl rfl (rcOK hk5 rfl) (by decide) ?_
  refine r_iload rfl rfl ?_
  refine r_isub rfl ?_
  cases hE
  exact r_ret rfl (Or.inl ⟨rfl, _, _, rfl, rfl, rfl, rfl⟩)
