def La_give (N : Nat) (x0 : Option Nat) (x1 : Int32) (x2 : Option Nat) (h : PH) : Option (Int32 × PH) :=
  (x0).bind fun a_1 =>
  ck ((hK h a_1).1 = 10) <|
  bd (Le_give N a_1 x1 h) fun v4 h5 =>
  match v4 with
  | some x7 =>
    (x2).bind fun a_8 =>
    ck ((hK h5 a_8).1 = 23) <|
    ck (inb 0 (hK h5 a_8).2 = true) <|
    lt0 (wJ h5 a_8 (ix 0) (Int32.toInt64 x7)) fun h12 =>
    some (0, h12)
  | none =>
    some (1, h5)
set_option maxRecDepth 20000 in
theorem La_give_ok (g : GT) (hst : (gl g).stackTraces = false) (N : Nat) (x0 : Option Nat) (x1 : Int32) (x2 : Option Nat) (h : PH) (v : Int32) (h' : PH) (hE : La_give N x0 x1 x2 h = some (v, h')) (D : Nat) (hD : 8 ≤ D) : WCalls g D pLa_give (0, 9, 12, 13) [va_rf x0, .int x1, va_rf x2] h (oI v) h' := by
  refine WCalls.of cok_La_give ht_La_give pl_La_give (fun ad => by rw [lg_len, sL_cat]; simp only [List.map_cons, List.map_nil, rf_cat, cat_i, cat_l, List.sum_cons, List.sum_nil]; decide) ?_
  rw [show lv_args 0 [va_rf x0, .int x1, va_rf x2] = [(0, va_rf x0), (1, .int x1), (2, va_rf x2)] from (by simp only [lv_args, rf_cat, cat_i, cat_l]; try rfl)]
  obtain ⟨D2, rfl⟩ : ∃ d, D = d + 1 := ⟨D - 1, by omega⟩
  unfold La_give at hE
  refine r_aload_n (t := x2) 2 rfl rfl rfl ?_
  refine r_iconst 0 rfl ci_0 ?_
  refine r_aload_n (t := x0) 0 rfl rfl rfl ?_
  refine r_iload_n 1 rfl rfl rfl ?_
  obtain ⟨a_1, ha2, hE⟩ := bnE hE
  obtain ⟨hk3, hE⟩ := ckE hE
  obtain ⟨v4, h5, hq6, hE⟩ := bdE hE
  refine r_callVX (rest := [.int 0, va_rf x2]) (i := 3) (len := 1) (hc := (Le_give_ok g hst N _ _ _ _ _ hq6 D2 (by omega))) (as := [.int x1]) rfl pm_Le_give lw_L_7 im_Le_give sl_Le_give ha2 rfl rfl (rcOK hk3 rfl) (by simp only [List.map_cons, List.map_nil, rf_cat, cat_i, cat_l, List.sum_cons, List.sum_nil]; decide) rfl (by decide) cwx (Or.inl ⟨_, rfl, rfl, rfl⟩) (by decide) (fun v0 hv0 => ?_) (fun hv0 => ?_)
  · cases v4 with
    | none => exact nomatch hv0
    | some x7 =>
      cases hv0
      refine r_i2l rfl ?_
      obtain ⟨a_8, ha9, hE⟩ := bnE hE
      obtain ⟨hk10, hE⟩ := ckE hE
      obtain ⟨hi11, hE⟩ := ckE hE
      obtain ⟨h12, he13, hE⟩ := ltE hE
      refine r_last rfl ha9 hk10 hi11 he13 ?_
      refine r_goto (tgt := 15) rfl (by decide) ?_
      refine r_iconst 0 rfl ci_0 ?_
      cases hE
      exact r_ret rfl (Or.inl ⟨rfl, _, _, rfl, rfl, rfl, rfl⟩)
  · cases v4 with
    | some _ => exact nomatch hv0
    | none =>
      refine r_iconst 1 rfl ci_1 ?_
      cases hE
      exact r_ret rfl (Or.inl ⟨rfl, _, _, rfl, rfl, rfl, rfl⟩)
def La_judged (N : Nat) (x0 : Option Nat) (x1 : Int32) (x2 : Option Nat) (h : PH) : Option (Int32 × PH) :=
  (x0).bind fun a_1 =>
  ck ((hK h a_1).1 = 10) <|
  bd (Le_judged N a_1 x1 h) fun v4 h5 =>
  match v4 with
  | some x7 =>
    (x2).bind fun a_8 =>
    ck ((hK h5 a_8).1 = 23) <|
    ck (inb 0 (hK h5 a_8).2 = true) <|
    lt0 (wJ h5 a_8 (ix 0) (Int32.toInt64 x7)) fun h12 =>
    some (0, h12)
  | none =>
    some (1, h5)
set_option maxRecDepth 20000 in
theorem La_judged_ok (g : GT) (hst : (gl g).stackTraces = false) (N : Nat) (x0 : Option Nat) (x1 : Int32) (x2 : Option Nat) (h : PH) (v : Int32) (h' : PH) (hE : La_judged N x0 x1 x2 h = some (v, h')) (D : Nat) (hD : 9 ≤ D) : WCalls g D pLa_judged (0, 9, 12, 13) [va_rf x0, .int x1, va_rf x2] h (oI v) h' := by
  refine WCalls.of cok_La_judged ht_La_judged pl_La_judged (fun ad => by rw [lg_len, sL_cat]; simp only [List.map_cons, List.map_nil, rf_cat, cat_i, cat_l, List.sum_cons, List.sum_nil]; decide) ?_
  rw [show lv_args 0 [va_rf x0, .int x1, va_rf x2] = [(0, va_rf x0), (1, .int x1), (2, va_rf x2)] from (by simp only [lv_args, rf_cat, cat_i, cat_l]; try rfl)]
  obtain ⟨D2, rfl⟩ : ∃ d, D = d + 1 := ⟨D - 1, by omega⟩
  unfold La_judged at hE
  refine r_aload_n (t := x2) 2 rfl rfl rfl ?_
  refine r_iconst 0 rfl ci_0 ?_
  refine r_aload_n (t := x0) 0 rfl rfl rfl ?_
  refine r_iload_n 1 rfl rfl rfl ?_
  obtain ⟨a_1, ha2, hE⟩ := bnE hE
  obtain ⟨hk3, hE⟩ := ckE hE
  obtain ⟨v4, h5, hq6, hE⟩ := bdE hE
  refine r_callVX (rest := [.int 0, va_rf x2]) (i := 3) (len := 1) (hc := (Le_judged_ok g hst N _ _ _ _ _ hq6 D2 (by omega))) (as := [.int x1]) rfl pm_Le_judged lw_L_15 im_Le_judged sl_Le_judged ha2 rfl rfl (rcOK hk3 rfl) (by simp only [List.map_cons, List.map_nil, rf_cat, cat_i, cat_l, List.sum_cons, List.sum_nil]; decide) rfl (by decide) cwx (Or.inl ⟨_, rfl, rfl, rfl⟩) (by decide) (fun v0 hv0 => ?_) (fun hv0 => ?_)
  · cases v4 with
    | none => exact nomatch hv0
    | some x7 =>
      cases hv0
      refine r_i2l rfl ?_
      obtain ⟨a_8, ha9, hE⟩ := bnE hE
      obtain ⟨hk10, hE⟩ := ckE hE
      obtain ⟨hi11, hE⟩ := ckE hE
      obtain ⟨h12, he13, hE⟩ := ltE hE
      refine r_last rfl ha9 hk10 hi11 he13 ?_
      refine r_goto (tgt := 15) rfl (by decide) ?_
      refine r_iconst 0 rfl ci_0 ?_
      cases hE
      exact r_ret rfl (Or.inl ⟨rfl, _, _, rfl, rfl, rfl, rfl⟩)
  · cases v4 with
    | some _ => exact nomatch hv0
    | none =>
      refine r_iconst 1 rfl ci_1 ?_
      cases hE
      exact r_ret rfl (Or.inl ⟨rfl, _, _, rfl, rfl, rfl, rfl⟩)
def La_value (N : Nat) (x0 : Option Nat) (x1 : Int32) (x2 : Int32) (x3 : Int32) (x4 : Int32) (x5 : Option Nat) (h : PH) : Option (Int32 × PH) :=
  (x0).bind fun a_1 =>
  ck ((hK h a_1).1 = 10) <|
  bd (Le_value N a_1 x1 x2 x3 x4 h) fun v4 h5 =>
  match v4 with
  | some x7 =>
    (x5).bind fun a_8 =>
    ck ((hK h5 a_8).1 = 23) <|
    ck (inb 0 (hK h5 a_8).2 = true) <|
    lt0 (wJ h5 a_8 (ix 0) (Int32.toInt64 x7)) fun h12 =>
    some (0, h12)
  | none =>
    some (1, h5)
set_option maxRecDepth 20000 in
theorem La_value_ok (g : GT) (hst : (gl g).stackTraces = false) (N : Nat) (x0 : Option Nat) (x1 : Int32) (x2 : Int32) (x3 : Int32) (x4 : Int32) (x5 : Option Nat) (h : PH) (v : Int32) (h' : PH) (hE : La_value N x0 x1 x2 x3 x4 x5 h = some (v, h')) (D : Nat) (hD : 9 ≤ D) : WCalls g D pLa_value (0, 14, 17, 13) [va_rf x0, .int x1, .int x2, .int x3, .int x4, va_rf x5] h (oI v) h' := by
  refine WCalls.of cok_La_value ht_La_value pl_La_value (fun ad => by rw [lg_len, sL_cat]; simp only [List.map_cons, List.map_nil, rf_cat, cat_i, cat_l, List.sum_cons, List.sum_nil]; decide) ?_
  rw [show lv_args 0 [va_rf x0, .int x1, .int x2, .int x3, .int x4, va_rf x5] = [(0, va_rf x0), (1, .int x1), (2, .int x2), (3, .int x3), (4, .int x4), (5, va_rf x5)] from (by simp only [lv_args, rf_cat, cat_i, cat_l]; try rfl)]
  obtain ⟨D2, rfl⟩ : ∃ d, D = d + 1 := ⟨D - 1, by omega⟩
  unfold La_value at hE
  refine r_aload (t := x5) rfl rfl ?_
  refine r_iconst 0 rfl ci_0 ?_
  refine r_aload_n (t := x0) 0 rfl rfl rfl ?_
  refine r_iload_n 1 rfl rfl rfl ?_
  refine r_iload_n 2 rfl rfl rfl ?_
  refine r_iload_n 3 rfl rfl rfl ?_
  refine r_iload rfl rfl ?_
  obtain ⟨a_1, ha2, hE⟩ := bnE hE
  obtain ⟨hk3, hE⟩ := ckE hE
  obtain ⟨v4, h5, hq6, hE⟩ := bdE hE
  refine r_callVX (rest := [.int 0, va_rf x5]) (i := 6) (len := 2) (hc := (Le_value_ok g hst N _ _ _ _ _ _ _ _ hq6 D2 (by omega))) (as := [.int x1, .int x2, .int x3, .int x4]) rfl pm_Le_value lw_L_18 im_Le_value sl_Le_value ha2 rfl rfl (rcOK hk3 rfl) (by simp only [List.map_cons, List.map_nil, rf_cat, cat_i, cat_l, List.sum_cons, List.sum_nil]; decide) rfl (by decide) cwx (Or.inr ⟨rfl, rfl⟩) (by decide) (fun v0 hv0 => ?_) (fun hv0 => ?_)
  · cases v4 with
    | none => exact nomatch hv0
    | some x7 =>
      cases hv0
      refine r_i2l rfl ?_
      obtain ⟨a_8, ha9, hE⟩ := bnE hE
      obtain ⟨hk10, hE⟩ := ckE hE
      obtain ⟨hi11, hE⟩ := ckE hE
      obtain ⟨h12, he13, hE⟩ := ltE hE
      refine r_last rfl ha9 hk10 hi11 he13 ?_
      refine r_goto (tgt := 21) rfl (by decide) ?_
      refine r_iconst 0 rfl ci_0 ?_
      cases hE
      exact r_ret rfl (Or.inl ⟨rfl, _, _, rfl, rfl, rfl, rfl⟩)
  · cases v4 with
    | some _ => exact nomatch hv0
    | none =>
      refine r_iconst 1 rfl ci_1 ?_
      cases hE
      exact r_ret rfl (Or.inl ⟨rfl, _, _, rfl, rfl, rfl, rfl⟩)
def La_may (N : Nat) (x0 : Option Nat) (x1 : Int32) (x2 : Option Nat) (h : PH) : Option (Int32 × PH) :=
  (x0).bind fun a_1 =>
  ck ((hK h a_1).1 = 10) <|
  bd (Le_may N a_1 x1 h) fun v4 h5 =>
  match v4 with
  | some x7 =>
    (x2).bind fun a_8 =>
    ck ((hK h5 a_8).1 = 23) <|
    ck (inb 0 (hK h5 a_8).2 = true) <|
    lt0 (wJ h5 a_8 (ix 0) (Int32.toInt64 x7)) fun h12 =>
    some (0, h12)
  | none =>
    some (1, h5)
set_option maxRecDepth 20000 in
theorem La_may_ok (g : GT) (hst : (gl g).stackTraces = false) (N : Nat) (x0 : Option Nat) (x1 : Int32) (x2 : Option Nat) (h : PH) (v : Int32) (h' : PH) (hE : La_may N x0 x1 x2 h = some (v, h')) (D : Nat) (hD : 9 ≤ D) : WCalls g D pLa_may (0, 9, 12, 13) [va_rf x0, .int x1, va_rf x2] h (oI v) h' := by
  refine WCalls.of cok_La_may ht_La_may pl_La_may (fun ad => by rw [lg_len, sL_cat]; simp only [List.map_cons, List.map_nil, rf_cat, cat_i, cat_l, List.sum_cons, List.sum_nil]; decide) ?_
  rw [show lv_args 0 [va_rf x0, .int x1, va_rf x2] = [(0, va_rf x0), (1, .int x1), (2, va_rf x2)] from (by simp only [lv_args, rf_cat, cat_i, cat_l]; try rfl)]
  obtain ⟨D2, rfl⟩ : ∃ d, D = d + 1 := ⟨D - 1, by omega⟩
  unfold La_may at hE
  refine r_aload_n (t := x2) 2 rfl rfl rfl ?_
  refine r_iconst 0 rfl ci_0 ?_
  refine r_aload_n (t := x0) 0 rfl rfl rfl ?_
  refine r_iload_n 1 rfl rfl rfl ?_
  obtain ⟨a_1, ha2, hE⟩ := bnE hE
  obtain ⟨hk3, hE⟩ := ckE hE
  obtain ⟨v4, h5, hq6, hE⟩ := bdE hE
  refine r_callVX (rest := [.int 0, va_rf x2]) (i := 3) (len := 1) (hc := (Le_may_ok g hst N _ _ _ _ _ hq6 D2 (by omega))) (as := [.int x1]) rfl pm_Le_may lw_L_22 im_Le_may sl_Le_may ha2 rfl rfl (rcOK hk3 rfl) (by simp only [List.map_cons, List.map_nil, rf_cat, cat_i, cat_l, List.sum_cons, List.sum_nil]; decide) rfl (by decide) cwx (Or.inl ⟨_, rfl, rfl, rfl⟩) (by decide) (fun v0 hv0 => ?_) (fun hv0 => ?_)
  · cases v4 with
    | none => exact nomatch hv0
    | some x7 =>
      cases hv0
      refine r_i2l rfl ?_
      obtain ⟨a_8, ha9, hE⟩ := bnE hE
      obtain ⟨hk10, hE⟩ := ckE hE
      obtain ⟨hi11, hE⟩ := ckE hE
      obtain ⟨h12, he13, hE⟩ := ltE hE
      refine r_last rfl ha9 hk10 hi11 he13 ?_
      refine r_goto (tgt := 15) rfl (by decide) ?_
      refine r_iconst 0 rfl ci_0 ?_
      cases hE
      exact r_ret rfl (Or.inl ⟨rfl, _, _, rfl, rfl, rfl, rfl⟩)
  · cases v4 with
    | some _ => exact nomatch hv0
    | none =>
      refine r_iconst 1 rfl ci_1 ?_
      cases hE
      exact r_ret rfl (Or.inl ⟨rfl, _, _, rfl, rfl, rfl, rfl⟩)
def La_mean (N : Nat) (x0 : Option Nat) (x1 : Int32) (x2 : Option Nat) (h : PH) : Option (Int32 × PH) :=
  (x0).bind fun a_1 =>
  ck ((hK h a_1).1 = 10) <|
  bd (Le_mean N a_1 x1 h) fun v4 h5 =>
  match v4 with
  | some x7 =>
    (x2).bind fun a_8 =>
    ck ((hK h5 a_8).1 = 23) <|
    ck (inb 0 (hK h5 a_8).2 = true) <|
    lt0 (wJ h5 a_8 (ix 0) (Int32.toInt64 x7)) fun h12 =>
    some (0, h12)
  | none =>
    some (1, h5)
set_option maxRecDepth 20000 in
theorem La_mean_ok (g : GT) (hst : (gl g).stackTraces = false) (N : Nat) (x0 : Option Nat) (x1 : Int32) (x2 : Option Nat) (h : PH) (v : Int32) (h' : PH) (hE : La_mean N x0 x1 x2 h = some (v, h')) (D : Nat) (hD : 68 ≤ D) : WCalls g D pLa_mean (0, 9, 12, 13) [va_rf x0, .int x1, va_rf x2] h (oI v) h' := by
  refine WCalls.of cok_La_mean ht_La_mean pl_La_mean (fun ad => by rw [lg_len, sL_cat]; simp only [List.map_cons, List.map_nil, rf_cat, cat_i, cat_l, List.sum_cons, List.sum_nil]; decide) ?_
  rw [show lv_args 0 [va_rf x0, .int x1, va_rf x2] = [(0, va_rf x0), (1, .int x1), (2, va_rf x2)] from (by simp only [lv_args, rf_cat, cat_i, cat_l]; try rfl)]
  obtain ⟨D2, rfl⟩ : ∃ d, D = d + 1 := ⟨D - 1, by omega⟩
  unfold La_mean at hE
  refine r_aload_n (t := x2) 2 rfl rfl rfl ?_
  refine r_iconst 0 rfl ci_0 ?_
  refine r_aload_n (t := x0) 0 rfl rfl rfl ?_
  refine r_iload_n 1 rfl rfl rfl ?_
  obtain ⟨a_1, ha2, hE⟩ := bnE hE
  obtain ⟨hk3, hE⟩ := ckE hE
  obtain ⟨v4, h5, hq6, hE⟩ := bdE hE
  refine r_callVX (rest := [.int 0, va_rf x2]) (i := 3) (len := 1) (hc := (Le_mean_ok g hst N _ _ _ _ _ hq6 D2 (by omega))) (as := [.int x1]) rfl pm_Le_mean lw_L_25 im_Le_mean sl_Le_mean ha2 rfl rfl (rcOK hk3 rfl) (by simp only [List.map_cons, List.map_nil, rf_cat, cat_i, cat_l, List.sum_cons, List.sum_nil]; decide) rfl (by decide) cwx (Or.inl ⟨_, rfl, rfl, rfl⟩) (by decide) (fun v0 hv0 => ?_) (fun hv0 => ?_)
  · cases v4 with
    | none => exact nomatch hv0
    | some x7 =>
      cases hv0
      refine r_i2l rfl ?_
      obtain ⟨a_8, ha9, hE⟩ := bnE hE
      obtain ⟨hk10, hE⟩ := ckE hE
      obtain ⟨hi11, hE⟩ := ckE hE
      obtain ⟨h12, he13, hE⟩ := ltE hE
      refine r_last rfl ha9 hk10 hi11 he13 ?_
      refine r_goto (tgt := 15) rfl (by decide) ?_
      refine r_iconst 0 rfl ci_0 ?_
      cases hE
      exact r_ret rfl (Or.inl ⟨rfl, _, _, rfl, rfl, rfl, rfl⟩)
  · cases v4 with
    | some _ => exact nomatch hv0
    | none =>
      refine r_iconst 1 rfl ci_1 ?_
      cases hE
      exact r_ret rfl (Or.inl ⟨rfl, _, _, rfl, rfl, rfl, rfl⟩)
def La_left (N : Nat) (x0 : Option Nat) (x1 : Int32) (x2 : Option Nat) (h : PH) : Option (Int32 × PH) :=
  (x0).bind fun a_1 =>
  ck ((hK h a_1).1 = 10) <|
  bd (Le_left N a_1 x1 h) fun v4 h5 =>
  match v4 with
  | some x7 =>
    (x2).bind fun a_8 =>
    ck ((hK h5 a_8).1 = 23) <|
    ck (inb 0 (hK h5 a_8).2 = true) <|
    lt0 (wJ h5 a_8 (ix 0) (Int32.toInt64 x7)) fun h12 =>
    some (0, h12)
  | none =>
    some (1, h5)
set_option maxRecDepth 20000 in
theorem La_left_ok (g : GT) (hst : (gl g).stackTraces = false) (N : Nat) (x0 : Option Nat) (x1 : Int32) (x2 : Option Nat) (h : PH) (v : Int32) (h' : PH) (hE : La_left N x0 x1 x2 h = some (v, h')) (D : Nat) (hD : 68 ≤ D) : WCalls g D pLa_left (0, 9, 12, 13) [va_rf x0, .int x1, va_rf x2] h (oI v) h' := by
  refine WCalls.of cok_La_left ht_La_left pl_La_left (fun ad => by rw [lg_len, sL_cat]; simp only [List.map_cons, List.map_nil, rf_cat, cat_i, cat_l, List.sum_cons, List.sum_nil]; decide) ?_
  rw [show lv_args 0 [va_rf x0, .int x1, va_rf x2] = [(0, va_rf x0), (1, .int x1), (2, va_rf x2)] from (by simp only [lv_args, rf_cat, cat_i, cat_l]; try rfl)]
  obtain ⟨D2, rfl⟩ : ∃ d, D = d + 1 := ⟨D - 1, by omega⟩
  unfold La_left at hE
  refine r_aload_n (t := x2) 2 rfl rfl rfl ?_
  refine r_iconst 0 rfl ci_0 ?_
  refine r_aload_n (t := x0) 0 rfl rfl rfl ?_
  refine r_iload_n 1 rfl rfl rfl ?_
  obtain ⟨a_1, ha2, hE⟩ := bnE hE
  obtain ⟨hk3, hE⟩ := ckE hE
  obtain ⟨v4, h5, hq6, hE⟩ := bdE hE
  refine r_callVX (rest := [.int 0, va_rf x2]) (i := 3) (len := 1) (hc := (Le_left_ok g hst N _ _ _ _ _ hq6 D2 (by omega))) (as := [.int x1]) rfl pm_Le_left lw_L_28 im_Le_left sl_Le_left ha2 rfl rfl (rcOK hk3 rfl) (by simp only [List.map_cons, List.map_nil, rf_cat, cat_i, cat_l, List.sum_cons, List.sum_nil]; decide) rfl (by decide) cwx (Or.inl ⟨_, rfl, rfl, rfl⟩) (by decide) (fun v0 hv0 => ?_) (fun hv0 => ?_)
  · cases v4 with
    | none => exact nomatch hv0
    | some x7 =>
      cases hv0
      refine r_i2l rfl ?_
      obtain ⟨a_8, ha9, hE⟩ := bnE hE
      obtain ⟨hk10, hE⟩ := ckE hE
      obtain ⟨hi11, hE⟩ := ckE hE
      obtain ⟨h12, he13, hE⟩ := ltE hE
      refine r_last rfl ha9 hk10 hi11 he13 ?_
      refine r_goto (tgt := 15) rfl (by decide) ?_
      refine r_iconst 0 rfl ci_0 ?_
      cases hE
      exact r_ret rfl (Or.inl ⟨rfl, _, _, rfl, rfl, rfl, rfl⟩)
  · cases v4 with
    | some _ => exact nomatch hv0
    | none =>
      refine r_iconst 1 rfl ci_1 ?_
      cases hE
      exact r_ret rfl (Or.inl ⟨rfl, _, _, rfl, rfl, rfl, rfl⟩)
def La_talk (N : Nat) (x0 : Option Nat) (x1 : Option Nat) (h : PH) : Option (Int32 × PH) :=
  (x0).bind fun a_1 =>
  ck ((hK h a_1).1 = 10) <|
  bd (Le_talk N a_1 h) fun v4 h5 =>
  match v4 with
  | some x7 =>
    (x1).bind fun a_8 =>
    ck ((hK h5 a_8).1 = 23) <|
    ck (inb 0 (hK h5 a_8).2 = true) <|
    lt0 (wJ h5 a_8 (ix 0) (Int32.toInt64 x7)) fun h12 =>
    some (0, h12)
  | none =>
    some (1, h5)
set_option maxRecDepth 20000 in
theorem La_talk_ok (g : GT) (hst : (gl g).stackTraces = false) (N : Nat) (x0 : Option Nat) (x1 : Option Nat) (h : PH) (v : Int32) (h' : PH) (hE : La_talk N x0 x1 h = some (v, h')) (D : Nat) (hD : 9 ≤ D) : WCalls g D pLa_talk (0, 8, 11, 13) [va_rf x0, va_rf x1] h (oI v) h' := by
  refine WCalls.of cok_La_talk ht_La_talk pl_La_talk (fun ad => by rw [lg_len, sL_cat]; simp only [List.map_cons, List.map_nil, rf_cat, cat_i, cat_l, List.sum_cons, List.sum_nil]; decide) ?_
  rw [show lv_args 0 [va_rf x0, va_rf x1] = [(0, va_rf x0), (1, va_rf x1)] from (by simp only [lv_args, rf_cat, cat_i, cat_l]; try rfl)]
  obtain ⟨D2, rfl⟩ : ∃ d, D = d + 1 := ⟨D - 1, by omega⟩
  unfold La_talk at hE
  refine r_aload_n (t := x1) 1 rfl rfl rfl ?_
  refine r_iconst 0 rfl ci_0 ?_
  refine r_aload_n (t := x0) 0 rfl rfl rfl ?_
  obtain ⟨a_1, ha2, hE⟩ := bnE hE
  obtain ⟨hk3, hE⟩ := ckE hE
  obtain ⟨v4, h5, hq6, hE⟩ := bdE hE
  refine r_callVX (rest := [.int 0, va_rf x1]) (i := 2) (len := 1) (hc := (Le_talk_ok g hst N _ _ _ _ hq6 D2 (by omega))) (as := []) rfl pm_Le_talk lw_L_31 im_Le_talk sl_Le_talk ha2 rfl rfl (rcOK hk3 rfl) (by simp only [List.map_cons, List.map_nil, rf_cat, cat_i, cat_l, List.sum_cons, List.sum_nil]; decide) rfl (by decide) cwx (Or.inl ⟨_, rfl, rfl, rfl⟩) (by decide) (fun v0 hv0 => ?_) (fun hv0 => ?_)
  · cases v4 with
    | none => exact nomatch hv0
    | some x7 =>
      cases hv0
      refine r_i2l rfl ?_
      obtain ⟨a_8, ha9, hE⟩ := bnE hE
      obtain ⟨hk10, hE⟩ := ckE hE
      obtain ⟨hi11, hE⟩ := ckE hE
      obtain ⟨h12, he13, hE⟩ := ltE hE
      refine r_last rfl ha9 hk10 hi11 he13 ?_
      refine r_goto (tgt := 14) rfl (by decide) ?_
      refine r_iconst 0 rfl ci_0 ?_
      cases hE
      exact r_ret rfl (Or.inl ⟨rfl, _, _, rfl, rfl, rfl, rfl⟩)
  · cases v4 with
    | some _ => exact nomatch hv0
    | none =>
      refine r_iconst 1 rfl ci_1 ?_
      cases hE
      exact r_ret rfl (Or.inl ⟨rfl, _, _, rfl, rfl, rfl, rfl⟩)
def La_fence (N : Nat) (x0 : Option Nat) (x1 : Int32) (x2 : Option Nat) (h : PH) : Option (Int32 × PH) :=
  (x0).bind fun a_1 =>
  ck ((hK h a_1).1 = 10) <|
  bd (Le_fence N a_1 x1 h) fun v4 h5 =>
  match v4 with
  | some x7 =>
    (x2).bind fun a_8 =>
    ck ((hK h5 a_8).1 = 23) <|
    ck (inb 0 (hK h5 a_8).2 = true) <|
    lt0 (wJ h5 a_8 (ix 0) (Int32.toInt64 x7)) fun h12 =>
    some (0, h12)
  | none =>
    some (1, h5)
set_option maxRecDepth 20000 in
theorem La_fence_ok (g : GT) (hst : (gl g).stackTraces = false) (N : Nat) (x0 : Option Nat) (x1 : Int32) (x2 : Option Nat) (h : PH) (v : Int32) (h' : PH) (hE : La_fence N x0 x1 x2 h = some (v, h')) (D : Nat) (hD : 8 ≤ D) : WCalls g D pLa_fence (0, 9, 12, 13) [va_rf x0, .int x1, va_rf x2] h (oI v) h' := by
  refine WCalls.of cok_La_fence ht_La_fence pl_La_fence (fun ad => by rw [lg_len, sL_cat]; simp only [List.map_cons, List.map_nil, rf_cat, cat_i, cat_l, List.sum_cons, List.sum_nil]; decide) ?_
  rw [show lv_args 0 [va_rf x0, .int x1, va_rf x2] = [(0, va_rf x0), (1, .int x1), (2, va_rf x2)] from (by simp only [lv_args, rf_cat, cat_i, cat_l]; try rfl)]
  obtain ⟨D2, rfl⟩ : ∃ d, D = d + 1 := ⟨D - 1, by omega⟩
  unfold La_fence at hE
  refine r_aload_n (t := x2) 2 rfl rfl rfl ?_
  refine r_iconst 0 rfl ci_0 ?_
  refine r_aload_n (t := x0) 0 rfl rfl rfl ?_
  refine r_iload_n 1 rfl rfl rfl ?_
  obtain ⟨a_1, ha2, hE⟩ := bnE hE
  obtain ⟨hk3, hE⟩ := ckE hE
  obtain ⟨v4, h5, hq6, hE⟩ := bdE hE
  refine r_callVX (rest := [.int 0, va_rf x2]) (i := 3) (len := 1) (hc := (Le_fence_ok g hst N _ _ _ _ _ hq6 D2 (by omega))) (as := [.int x1]) rfl pm_Le_fence lw_L_35 im_Le_fence sl_Le_fence ha2 rfl rfl (rcOK hk3 rfl) (by simp only [List.map_cons, List.map_nil, rf_cat, cat_i, cat_l, List.sum_cons, List.sum_nil]; decide) rfl (by decide) cwx (Or.inl ⟨_, rfl, rfl, rfl⟩) (by decide) (fun v0 hv0 => ?_) (fun hv0 => ?_)
  · cases v4 with
    | none => exact nomatch hv0
    | some x7 =>
      cases hv0
      refine r_i2l rfl ?_
      obtain ⟨a_8, ha9, hE⟩ := bnE hE
      obtain ⟨hk10, hE⟩ := ckE hE
      obtain ⟨hi11, hE⟩ := ckE hE
      obtain ⟨h12, he13, hE⟩ := ltE hE
      refine r_last rfl ha9 hk10 hi11 he13 ?_
      refine r_goto (tgt := 15) rfl (by decide) ?_
      refine r_iconst 0 rfl ci_0 ?_
      cases hE
      exact r_ret rfl (Or.inl ⟨rfl, _, _, rfl, rfl, rfl, rfl⟩)
  · cases v4 with
    | some _ => exact nomatch hv0
    | none =>
      refine r_iconst 1 rfl ci_1 ?_
      cases hE
      exact r_ret rfl (Or.inl ⟨rfl, _, _, rfl, rfl, rfl, rfl⟩)
def La_tonight (N : Nat) (x0 : Option Nat) (x1 : Option Nat) (h : PH) : Option (Int32 × PH) :=
  (x0).bind fun a_1 =>
  ck ((hK h a_1).1 = 10) <|
  bd (Le_tonight N a_1 h) fun v4 h5 =>
  match v4 with
  | some x7 =>
    (x1).bind fun a_8 =>
    ck ((hK h5 a_8).1 = 23) <|
    ck (inb 0 (hK h5 a_8).2 = true) <|
    lt0 (wJ h5 a_8 (ix 0) (Int32.toInt64 x7)) fun h12 =>
    some (0, h12)
  | none =>
    some (1, h5)
set_option maxRecDepth 20000 in
theorem La_tonight_ok (g : GT) (hst : (gl g).stackTraces = false) (N : Nat) (x0 : Option Nat) (x1 : Option Nat) (h : PH) (v : Int32) (h' : PH) (hE : La_tonight N x0 x1 h = some (v, h')) (D : Nat) (hD : 9 ≤ D) : WCalls g D pLa_tonight (0, 8, 11, 13) [va_rf x0, va_rf x1] h (oI v) h' := by
  refine WCalls.of cok_La_tonight ht_La_tonight pl_La_tonight (fun ad => by rw [lg_len, sL_cat]; simp only [List.map_cons, List.map_nil, rf_cat, cat_i, cat_l, List.sum_cons, List.sum_nil]; decide) ?_
  rw [show lv_args 0 [va_rf x0, va_rf x1] = [(0, va_rf x0), (1, va_rf x1)] from (by simp only [lv_args, rf_cat, cat_i, cat_l]; try rfl)]
  obtain ⟨D2, rfl⟩ : ∃ d, D = d + 1 := ⟨D - 1, by omega⟩
  unfold La_tonight at hE
  refine r_aload_n (t := x1) 1 rfl rfl rfl ?_
  refine r_iconst 0 rfl ci_0 ?_
  refine r_aload_n (t := x0) 0 rfl rfl rfl ?_
  obtain ⟨a_1, ha2, hE⟩ := bnE hE
  obtain ⟨hk3, hE⟩ := ckE hE
  obtain ⟨v4, h5, hq6, hE⟩ := bdE hE
  refine r_callVX (rest := [.int 0, va_rf x1]) (i := 2) (len := 1) (hc := (Le_tonight_ok g hst N _ _ _ _ hq6 D2 (by omega))) (as := []) rfl pm_Le_tonight lw_L_38 im_Le_tonight sl_Le_tonight ha2 rfl rfl (rcOK hk3 rfl) (by simp only [List.map_cons, List.map_nil, rf_cat, cat_i, cat_l, List.sum_cons, List.sum_nil]; decide) rfl (by decide) cwx (Or.inl ⟨_, rfl, rfl, rfl⟩) (by decide) (fun v0 hv0 => ?_) (fun hv0 => ?_)
  · cases v4 with
    | none => exact nomatch hv0
    | some x7 =>
      cases hv0
      refine r_i2l rfl ?_
      obtain ⟨a_8, ha9, hE⟩ := bnE hE
      obtain ⟨hk10, hE⟩ := ckE hE
      obtain ⟨hi11, hE⟩ := ckE hE
      obtain ⟨h12, he13, hE⟩ := ltE hE
      refine r_last rfl ha9 hk10 hi11 he13 ?_
      refine r_goto (tgt := 14) rfl (by decide) ?_
      refine r_iconst 0 rfl ci_0 ?_
      cases hE
      exact r_ret rfl (Or.inl ⟨rfl, _, _, rfl, rfl, rfl, rfl⟩)
  · cases v4 with
    | some _ => exact nomatch hv0
    | none =>
      refine r_iconst 1 rfl ci_1 ?_
      cases hE
      exact r_ret rfl (Or.inl ⟨rfl, _, _, rfl, rfl, rfl, rfl⟩)
def La_law_b1441 (g : GT) (N : Nat) (self_23 : Option Nat → Option Nat → Option Nat → Option Nat → Int32 → PH → Option (Bool × PH)) (x0 : Option Nat) (x1 : Option Nat) (x2 : Option Nat) (x3 : Option Nat) (x4 : Int32) (h : PH) : Option (Bool × PH) :=
  self_23 x0 x1 x2 x3 (x4 + 7) h
set_option maxRecDepth 20000 in
theorem La_law_b1441_ok (g : GT) (hst : (gl g).stackTraces = false) (N : Nat) (D : Nat) (hD : 69 ≤ D) (self_23 : Option Nat → Option Nat → Option Nat → Option Nat → Int32 → PH → Option (Bool × PH)) (hself_23 : ∀ (x0 : Option Nat) (x1 : Option Nat) (x2 : Option Nat) (x3 : Option Nat) (x4 : Int32) (h : PH) (v : Bool) (h' : PH), self_23 x0 x1 x2 x3 x4 h = some (v, h') → Run g pLa_law D 23 [(0, va_rf x0), (1, va_rf x1), (2, va_rf x2), (3, va_rf x3), (4, .int x4)] [] h (rZ v) h') : ∀ (x0 : Option Nat) (x1 : Option Nat) (x2 : Option Nat) (x3 : Option Nat) (x4 : Int32) (h : PH) (v : Bool) (h' : PH), La_law_b1441 g N self_23 x0 x1 x2 x3 x4 h = some (v, h') → Run g pLa_law D 1441 [(0, va_rf x0), (1, va_rf x1), (2, va_rf x2), (3, va_rf x3), (4, .int x4)] [] h (rZ v) h' := by
  obtain ⟨D2, rfl⟩ : ∃ d, D = d + 1 := ⟨D - 1, by omega⟩
  intro x0 x1 x2 x3 x4 h v h' hE
  unfold La_law_b1441 at hE
  refine r_iinc _ rfl rfl (congrArg _ ci_7) (by decide) ?_
  refine r_goto (tgt := 23) rfl (by decide) ?_
  first | exact r_sb (hself_23 _ _ _ _ _ _ _ _ hE) ⟨rfl, rfl, rfl, rfl, rfl, trivial⟩ | exact r_sb (hself_23 _ _ _ _ _ _ _ _ hE) (by simp only [su1, su2, dr1_rf, dr1_in, dr1_lo, dr2_rf, dr2_in, dr2_lo]; exact ⟨rfl, rfl, rfl, rfl, rfl, trivial⟩)
def La_law_b472 (g : GT) (N : Nat) (self_23 : Option Nat → Option Nat → Option Nat → Option Nat → Int32 → PH → Option (Bool × PH)) (x0 : Option Nat) (x1 : Option Nat) (x2 : Option Nat) (x3 : Option Nat) (x4 : Int32) (h : PH) : Option (Bool × PH) :=
  La_law_b1441 g N self_23  x0 x1 x2 x3 x4 h
set_option maxRecDepth 20000 in
theorem La_law_b472_ok (g : GT) (hst : (gl g).stackTraces = false) (N : Nat) (D : Nat) (hD : 69 ≤ D) (self_23 : Option Nat → Option Nat → Option Nat → Option Nat → Int32 → PH → Option (Bool × PH)) (hself_23 : ∀ (x0 : Option Nat) (x1 : Option Nat) (x2 : Option Nat) (x3 : Option Nat) (x4 : Int32) (h : PH) (v : Bool) (h' : PH), self_23 x0 x1 x2 x3 x4 h = some (v, h') → Run g pLa_law D 23 [(0, va_rf x0), (1, va_rf x1), (2, va_rf x2), (3, va_rf x3), (4, .int x4)] [] h (rZ v) h') : ∀ (x0 : Option Nat) (x1 : Option Nat) (x2 : Option Nat) (x3 : Option Nat) (x4 : Int32) (h : PH) (v : Bool) (h' : PH), La_law_b472 g N self_23 x0 x1 x2 x3 x4 h = some (v, h') → Run g pLa_law D 472 [(0, va_rf x0), (1, va_rf x1), (2, va_rf x2), (3, va_rf x3), (4, .int x4)] [] h (rZ v) h' := by
  obtain ⟨D2, rfl⟩ : ∃ d, D = d + 1 := ⟨D - 1, by omega⟩
  intro x0 x1 x2 x3 x4 h v h' hE
  unfold La_law_b472 at hE
  refine r_goto (tgt := 1441) rfl (by decide) ?_
  first | exact r_sb (La_law_b1441_ok g hst N _ hD _ hself_23  _ _ _ _ _ _ _ _ hE) ⟨rfl, rfl, rfl, rfl, rfl, trivial⟩ | exact r_sb (La_law_b1441_ok g hst N _ hD _ hself_23  _ _ _ _ _ _ _ _ hE) (by simp only [su1, su2, dr1_rf, dr1_in, dr1_lo, dr2_rf, dr2_in, dr2_lo]; exact ⟨rfl, rfl, rfl, rfl, rfl, trivial⟩)
def La_law_b567 (g : GT) (N : Nat) (self_23 : Option Nat → Option Nat → Option Nat → Option Nat → Int32 → PH → Option (Bool × PH)) (x0 : Option Nat) (x1 : Option Nat) (x2 : Option Nat) (x3 : Option Nat) (x4 : Int32) (h : PH) : Option (Bool × PH) :=
  La_law_b1441 g N self_23  x0 x1 x2 x3 x4 h
set_option maxRecDepth 20000 in
theorem La_law_b567_ok (g : GT) (hst : (gl g).stackTraces = false) (N : Nat) (D : Nat) (hD : 69 ≤ D) (self_23 : Option Nat → Option Nat → Option Nat → Option Nat → Int32 → PH → Option (Bool × PH)) (hself_23 : ∀ (x0 : Option Nat) (x1 : Option Nat) (x2 : Option Nat) (x3 : Option Nat) (x4 : Int32) (h : PH) (v : Bool) (h' : PH), self_23 x0 x1 x2 x3 x4 h = some (v, h') → Run g pLa_law D 23 [(0, va_rf x0), (1, va_rf x1), (2, va_rf x2), (3, va_rf x3), (4, .int x4)] [] h (rZ v) h') : ∀ (x0 : Option Nat) (x1 : Option Nat) (x2 : Option Nat) (x3 : Option Nat) (x4 : Int32) (h : PH) (v : Bool) (h' : PH), La_law_b567 g N self_23 x0 x1 x2 x3 x4 h = some (v, h') → Run g pLa_law D 567 [(0, va_rf x0), (1, va_rf x1), (2, va_rf x2), (3, va_rf x3), (4, .int x4)] [] h (rZ v) h' := by
  obtain ⟨D2, rfl⟩ : ∃ d, D = d + 1 := ⟨D - 1, by omega⟩
  intro x0 x1 x2 x3 x4 h v h' hE
  unfold La_law_b567 at hE
  refine r_goto (tgt := 1441) rfl (by decide) ?_
  first | exact r_sb (La_law_b1441_ok g hst N _ hD _ hself_23  _ _ _ _ _ _ _ _ hE) ⟨rfl, rfl, rfl, rfl, rfl, trivial⟩ | exact r_sb (La_law_b1441_ok g hst N _ hD _ hself_23  _ _ _ _ _ _ _ _ hE) (by simp only [su1, su2, dr1_rf, dr1_in, dr1_lo, dr2_rf, dr2_in, dr2_lo]; exact ⟨rfl, rfl, rfl, rfl, rfl, trivial⟩)
def La_law_b675 (g : GT) (N : Nat) (self_23 : Option Nat → Option Nat → Option Nat → Option Nat → Int32 → PH → Option (Bool × PH)) (x0 : Option Nat) (x1 : Option Nat) (x2 : Option Nat) (x3 : Option Nat) (x4 : Int32) (h : PH) : Option (Bool × PH) :=
  La_law_b1441 g N self_23  x0 x1 x2 x3 x4 h
set_option maxRecDepth 20000 in
theorem La_law_b675_ok (g : GT) (hst : (gl g).stackTraces = false) (N : Nat) (D : Nat) (hD : 69 ≤ D) (self_23 : Option Nat → Option Nat → Option Nat → Option Nat → Int32 → PH → Option (Bool × PH)) (hself_23 : ∀ (x0 : Option Nat) (x1 : Option Nat) (x2 : Option Nat) (x3 : Option Nat) (x4 : Int32) (h : PH) (v : Bool) (h' : PH), self_23 x0 x1 x2 x3 x4 h = some (v, h') → Run g pLa_law D 23 [(0, va_rf x0), (1, va_rf x1), (2, va_rf x2), (3, va_rf x3), (4, .int x4)] [] h (rZ v) h') : ∀ (x0 : Option Nat) (x1 : Option Nat) (x2 : Option Nat) (x3 : Option Nat) (x4 : Int32) (h : PH) (v : Bool) (h' : PH), La_law_b675 g N self_23 x0 x1 x2 x3 x4 h = some (v, h') → Run g pLa_law D 675 [(0, va_rf x0), (1, va_rf x1), (2, va_rf x2), (3, va_rf x3), (4, .int x4)] [] h (rZ v) h' := by
  obtain ⟨D2, rfl⟩ : ∃ d, D = d + 1 := ⟨D - 1, by omega⟩
  intro x0 x1 x2 x3 x4 h v h' hE
  unfold La_law_b675 at hE
  refine r_goto (tgt := 1441) rfl (by decide) ?_
  first | exact r_sb (La_law_b1441_ok g hst N _ hD _ hself_23  _ _ _ _ _ _ _ _ hE) ⟨rfl, rfl, rfl, rfl, rfl, trivial⟩ | exact r_sb (La_law_b1441_ok g hst N _ hD _ hself_23  _ _ _ _ _ _ _ _ hE) (by simp only [su1, su2, dr1_rf, dr1_in, dr1_lo, dr2_rf, dr2_in, dr2_lo]; exact ⟨rfl, rfl, rfl, rfl, rfl, trivial⟩)
def La_law_b642 (g : GT) (N : Nat) (self_23 : Option Nat → Option Nat → Option Nat → Option Nat → Int32 → PH → Option (Bool × PH)) (s0 : Option Nat) (s1 : Int32) (s2 : Int32) (s3 : Int32) (s4 : Int32) (x0 : Option Nat) (x1 : Option Nat) (x2 : Option Nat) (x3 : Option Nat) (x4 : Int32) (x5 : Int32) (h : PH) : Option (Bool × PH) :=
  (s0).bind fun a_1 =>
  ck ((hK h a_1).1 = 11) <|
  bd (Mo_value N a_1 s1 s2 s3 s4 h) fun v4 h5 =>
  (x2).bind fun a_7 =>
  ck ((hK h5 a_7).1 = 11) <|
  bd (Mo_thrown N a_7 h5) fun v10 h11 =>
  if v10 = x5 then
    if x5 = 0 then
      (x3).bind fun a_15 =>
      ck ((hK h11 a_15).1 = 23) <|
      ck (inb 0 (hK h11 a_15).2 = true) <|
      if (lg_cmp (hJ h11 a_15 (ix 0)) (Int32.toInt64 v4)) = 0 then
        La_law_b675 g N self_23  x0 x1 x2 x3 x4 h11
      else
        some (false, h11)
    else
      La_law_b675 g N self_23  x0 x1 x2 x3 x4 h11
  else
    some (false, h11)
set_option maxRecDepth 20000 in
theorem La_law_b642_ok (g : GT) (hst : (gl g).stackTraces = false) (N : Nat) (D : Nat) (hD : 69 ≤ D) (self_23 : Option Nat → Option Nat → Option Nat → Option Nat → Int32 → PH → Option (Bool × PH)) (hself_23 : ∀ (x0 : Option Nat) (x1 : Option Nat) (x2 : Option Nat) (x3 : Option Nat) (x4 : Int32) (h : PH) (v : Bool) (h' : PH), self_23 x0 x1 x2 x3 x4 h = some (v, h') → Run g pLa_law D 23 [(0, va_rf x0), (1, va_rf x1), (2, va_rf x2), (3, va_rf x3), (4, .int x4)] [] h (rZ v) h') : ∀ (s0 : Option Nat) (s1 : Int32) (s2 : Int32) (s3 : Int32) (s4 : Int32) (x0 : Option Nat) (x1 : Option Nat) (x2 : Option Nat) (x3 : Option Nat) (x4 : Int32) (x5 : Int32) (h : PH) (v : Bool) (h' : PH), La_law_b642 g N self_23 s0 s1 s2 s3 s4 x0 x1 x2 x3 x4 x5 h = some (v, h') → Run g pLa_law D 642 [(0, va_rf x0), (1, va_rf x1), (2, va_rf x2), (3, va_rf x3), (4, .int x4), (5, .int x5)] [.int s4, .int s3, .int s2, .int s1, va_rf s0] h (rZ v) h' := by
  obtain ⟨D2, rfl⟩ : ∃ d, D = d + 1 := ⟨D - 1, by omega⟩
  intro s0 s1 s2 s3 s4 x0 x1 x2 x3 x4 x5 h v h' hE
  unfold La_law_b642 at hE
  obtain ⟨a_1, ha2, hE⟩ := bnE hE
  obtain ⟨hk3, hE⟩ := ckE hE
  obtain ⟨v4, h5, hq6, hE⟩ := bdE hE
  refine r_callV1 (rest := []) (hc := (Mo_value_ok g N _ _ _ _ _ _ _ _ hq6 D2 (by omega))) rfl pm_Mo_value lw_L_98 im_Mo_value sl_Mo_value ha2 rfl rfl (rcOK hk3 rfl) (by decide) ?_
  refine r_istore rfl (by decide) ?_
  refine r_aload_n (t := x2) 2 rfl rfl rfl ?_
  obtain ⟨a_7, ha8, hE⟩ := bnE hE
  obtain ⟨hk9, hE⟩ := ckE hE
  obtain ⟨v10, h11, hq12, hE⟩ := bdE hE
  refine r_callV1 (rest := []) (hc := (Mo_thrown_ok g N _ _ _ _ hq12 D2 (by omega))) rfl pm_Mo_thrown lw_L_76 im_Mo_thrown sl_Mo_thrown ha8 rfl rfl (rcOK hk9 rfl) (by decide) ?_
  refine r_iload rfl rfl ?_
  refine r_icmp_eq (tgt := 658) rfl (by decide) (fun hc13 => ?_) (fun hc13 => ?_)
  · have hE := ifP hc13 hE
    refine r_iload rfl rfl ?_
    refine r_if_ne (tgt := 675) rfl (by decide) (fun hc14 => ?_) (fun hc14 => ?_)
    · have hE := ifP hc14 hE
      refine r_aload_n (t := x3) 3 rfl rfl rfl ?_
      refine r_iconst 0 rfl ci_0 ?_
      obtain ⟨a_15, ha16, hE⟩ := bnE hE
      obtain ⟨hk17, hE⟩ := ckE hE
      obtain ⟨hi18, hE⟩ := ckE hE
      refine r_lald rfl ha16 hk17 hi18 ?_
      refine r_iload rfl rfl ?_
      refine r_i2l rfl ?_
      refine r_lcmp rfl ?_
      refine r_if_eq (tgt := 675) rfl (by decide) (fun hc19 => ?_) (fun hc19 => ?_)
      · have hE := ifP hc19 hE
        first | exact r_sb (La_law_b675_ok g hst N _ hD _ hself_23  _ _ _ _ _ _ _ _ hE) ⟨rfl, rfl, rfl, rfl, rfl, trivial⟩ | exact r_sb (La_law_b675_ok g hst N _ hD _ hself_23  _ _ _ _ _ _ _ _ hE) (by simp only [su1, su2, dr1_rf, dr1_in, dr1_lo, dr2_rf, dr2_in, dr2_lo]; exact ⟨rfl, rfl, rfl, rfl, rfl, trivial⟩)
      · have hE := ifN hc19 hE
        refine r_iconst 0 rfl ci_0 ?_
        cases hE
        exact r_ret rfl (Or.inl ⟨rfl, _, _, rfl, rfl, rfl, rfl⟩)
    · have hE := ifN hc14 hE
      first | exact r_sb (La_law_b675_ok g hst N _ hD _ hself_23  _ _ _ _ _ _ _ _ hE) ⟨rfl, rfl, rfl, rfl, rfl, trivial⟩ | exact r_sb (La_law_b675_ok g hst N _ hD _ hself_23  _ _ _ _ _ _ _ _ hE) (by simp only [su1, su2, dr1_rf, dr1_in, dr1_lo, dr2_rf, dr2_in, dr2_lo]; exact ⟨rfl, rfl, rfl, rfl, rfl, trivial⟩)
  · have hE := ifN hc13 hE
    refine r_iconst 0 rfl ci_0 ?_
    cases hE
    exact r_ret rfl (Or.inl ⟨rfl, _, _, rfl, rfl, rfl, rfl⟩)
def La_law_b603 (g : GT) (N : Nat) (self_23 : Option Nat → Option Nat → Option Nat → Option Nat → Int32 → PH → Option (Bool × PH)) (s0 : Option Nat) (s1 : Int32) (s2 : Int32) (s3 : Int32) (s4 : Int32) (x0 : Option Nat) (x1 : Option Nat) (x2 : Option Nat) (x3 : Option Nat) (x4 : Int32) (h : PH) : Option (Bool × PH) :=
  bd (La_value N s0 s1 s2 s3 s4 x3 h) fun v1 h2 =>
  (x0).bind fun a_4 =>
  ck ((hK h2 a_4).1 = 26) <|
  ck (inb (x4 + 1) (hK h2 a_4).2 = true) <|
  ck (inb (x4 + 2) (hK h2 a_4).2 = true) <|
  ck (inb (x4 + 3) (hK h2 a_4).2 = true) <|
  ck (inb (x4 + 4) (hK h2 a_4).2 = true) <|
  if (hI h2 a_4 (ix (x4 + 4))) = 0 then
    La_law_b642 g N self_23  x2 (hI h2 a_4 (ix (x4 + 1))) (hI h2 a_4 (ix (x4 + 2))) (hI h2 a_4 (ix (x4 + 3))) 0 x0 x1 x2 x3 x4 v1 h2
  else
    La_law_b642 g N self_23  x2 (hI h2 a_4 (ix (x4 + 1))) (hI h2 a_4 (ix (x4 + 2))) (hI h2 a_4 (ix (x4 + 3))) 1 x0 x1 x2 x3 x4 v1 h2
set_option maxRecDepth 20000 in
theorem La_law_b603_ok (g : GT) (hst : (gl g).stackTraces = false) (N : Nat) (D : Nat) (hD : 69 ≤ D) (self_23 : Option Nat → Option Nat → Option Nat → Option Nat → Int32 → PH → Option (Bool × PH)) (hself_23 : ∀ (x0 : Option Nat) (x1 : Option Nat) (x2 : Option Nat) (x3 : Option Nat) (x4 : Int32) (h : PH) (v : Bool) (h' : PH), self_23 x0 x1 x2 x3 x4 h = some (v, h') → Run g pLa_law D 23 [(0, va_rf x0), (1, va_rf x1), (2, va_rf x2), (3, va_rf x3), (4, .int x4)] [] h (rZ v) h') : ∀ (s0 : Option Nat) (s1 : Int32) (s2 : Int32) (s3 : Int32) (s4 : Int32) (x0 : Option Nat) (x1 : Option Nat) (x2 : Option Nat) (x3 : Option Nat) (x4 : Int32) (h : PH) (v : Bool) (h' : PH), La_law_b603 g N self_23 s0 s1 s2 s3 s4 x0 x1 x2 x3 x4 h = some (v, h') → Run g pLa_law D 603 [(0, va_rf x0), (1, va_rf x1), (2, va_rf x2), (3, va_rf x3), (4, .int x4)] [.int s4, .int s3, .int s2, .int s1, va_rf s0] h (rZ v) h' := by
  obtain ⟨D2, rfl⟩ : ∃ d, D = d + 1 := ⟨D - 1, by omega⟩
  intro s0 s1 s2 s3 s4 x0 x1 x2 x3 x4 h v h' hE
  unfold La_law_b603 at hE
  refine r_aload_n (t := x3) 3 rfl rfl rfl ?_
  obtain ⟨v1, h2, hq3, hE⟩ := bdE hE
  refine r_callSW1 (rest := []) (hc := (La_value_ok g hst N _ _ _ _ _ _ _ _ _ hq3 D2 (by omega))) rfl pm_La_value lw_L_95 st_La_value rfl rfl (by decide) ?_
  refine r_istore rfl (by decide) ?_
  refine r_aload_n (t := x2) 2 rfl rfl rfl ?_
  refine r_aload_n (t := x0) 0 rfl rfl rfl ?_
  refine r_iload rfl rfl ?_
  refine r_iconst 1 rfl ci_1 ?_
  refine r_iadd rfl ?_
  obtain ⟨a_4, ha5, hE⟩ := bnE hE
  obtain ⟨hk6, hE⟩ := ckE hE
  obtain ⟨hi7, hE⟩ := ckE hE
  refine r_sld rfl ha5 hk6 hi7 ?_
  refine r_aload_n (t := x0) 0 rfl rfl rfl ?_
  refine r_iload rfl rfl ?_
  refine r_iconst 2 rfl ci_2 ?_
  refine r_iadd rfl ?_
  obtain ⟨hi8, hE⟩ := ckE hE
  refine r_sld rfl ha5 hk6 hi8 ?_
  refine r_aload_n (t := x0) 0 rfl rfl rfl ?_
  refine r_iload rfl rfl ?_
  refine r_iconst 3 rfl ci_3 ?_
  refine r_iadd rfl ?_
  obtain ⟨hi9, hE⟩ := ckE hE
  refine r_sld rfl ha5 hk6 hi9 ?_
  refine r_aload_n (t := x0) 0 rfl rfl rfl ?_
  refine r_iload rfl rfl ?_
  refine r_iconst 4 rfl ci_4 ?_
  refine r_iadd rfl ?_
  obtain ⟨hi10, hE⟩ := ckE hE
  refine r_sld rfl ha5 hk6 hi10 ?_
  refine r_if_eq (tgt := 641) rfl (by decide) (fun hc11 => ?_) (fun hc11 => ?_)
  · have hE := ifP hc11 hE
    refine r_iconst 0 rfl ci_0 ?_
    first | exact r_sb (La_law_b642_ok g hst N _ hD _ hself_23  _ _ _ _ _ _ _ _ _ _ _ _ _ _ hE) ⟨rfl, rfl, rfl, rfl, rfl, rfl, trivial⟩ | exact r_sb (La_law_b642_ok g hst N _ hD _ hself_23  _ _ _ _ _ _ _ _ _ _ _ _ _ _ hE) (by simp only [su1, su2, dr1_rf, dr1_in, dr1_lo, dr2_rf, dr2_in, dr2_lo]; exact ⟨rfl, rfl, rfl, rfl, rfl, rfl, trivial⟩)
  · have hE := ifN hc11 hE
    refine r_iconst 1 rfl ci_1 ?_
    refine r_goto (tgt := 642) rfl (by decide) ?_
    first | exact r_sb (La_law_b642_ok g hst N _ hD _ hself_23  _ _ _ _ _ _ _ _ _ _ _ _ _ _ hE) ⟨rfl, rfl, rfl, rfl, rfl, rfl, trivial⟩ | exact r_sb (La_law_b642_ok g hst N _ hD _ hself_23  _ _ _ _ _ _ _ _ _ _ _ _ _ _ hE) (by simp only [su1, su2, dr1_rf, dr1_in, dr1_lo, dr2_rf, dr2_in, dr2_lo]; exact ⟨rfl, rfl, rfl, rfl, rfl, rfl, trivial⟩)
def La_law_b756 (g : GT) (N : Nat) (self_23 : Option Nat → Option Nat → Option Nat → Option Nat → Int32 → PH → Option (Bool × PH)) (x0 : Option Nat) (x1 : Option Nat) (x2 : Option Nat) (x3 : Option Nat) (x4 : Int32) (h : PH) : Option (Bool × PH) :=
  La_law_b1441 g N self_23  x0 x1 x2 x3 x4 h
set_option maxRecDepth 20000 in
theorem La_law_b756_ok (g : GT) (hst : (gl g).stackTraces = false) (N : Nat) (D : Nat) (hD : 69 ≤ D) (self_23 : Option Nat → Option Nat → Option Nat → Option Nat → Int32 → PH → Option (Bool × PH)) (hself_23 : ∀ (x0 : Option Nat) (x1 : Option Nat) (x2 : Option Nat) (x3 : Option Nat) (x4 : Int32) (h : PH) (v : Bool) (h' : PH), self_23 x0 x1 x2 x3 x4 h = some (v, h') → Run g pLa_law D 23 [(0, va_rf x0), (1, va_rf x1), (2, va_rf x2), (3, va_rf x3), (4, .int x4)] [] h (rZ v) h') : ∀ (x0 : Option Nat) (x1 : Option Nat) (x2 : Option Nat) (x3 : Option Nat) (x4 : Int32) (h : PH) (v : Bool) (h' : PH), La_law_b756 g N self_23 x0 x1 x2 x3 x4 h = some (v, h') → Run g pLa_law D 756 [(0, va_rf x0), (1, va_rf x1), (2, va_rf x2), (3, va_rf x3), (4, .int x4)] [] h (rZ v) h' := by
  obtain ⟨D2, rfl⟩ : ∃ d, D = d + 1 := ⟨D - 1, by omega⟩
  intro x0 x1 x2 x3 x4 h v h' hE
  unfold La_law_b756 at hE
  refine r_goto (tgt := 1441) rfl (by decide) ?_
  first | exact r_sb (La_law_b1441_ok g hst N _ hD _ hself_23  _ _ _ _ _ _ _ _ hE) ⟨rfl, rfl, rfl, rfl, rfl, trivial⟩ | exact r_sb (La_law_b1441_ok g hst N _ hD _ hself_23  _ _ _ _ _ _ _ _ hE) (by simp only [su1, su2, dr1_rf, dr1_in, dr1_lo, dr2_rf, dr2_in, dr2_lo]; exact ⟨rfl, rfl, rfl, rfl, rfl, trivial⟩)
def La_law_b825 (g : GT) (N : Nat) (self_23 : Option Nat → Option Nat → Option Nat → Option Nat → Int32 → PH → Option (Bool × PH)) (x0 : Option Nat) (x1 : Option Nat) (x2 : Option Nat) (x3 : Option Nat) (x4 : Int32) (h : PH) : Option (Bool × PH) :=
  La_law_b1441 g N self_23  x0 x1 x2 x3 x4 h
set_option maxRecDepth 20000 in
theorem La_law_b825_ok (g : GT) (hst : (gl g).stackTraces = false) (N : Nat) (D : Nat) (hD : 69 ≤ D) (self_23 : Option Nat → Option Nat → Option Nat → Option Nat → Int32 → PH → Option (Bool × PH)) (hself_23 : ∀ (x0 : Option Nat) (x1 : Option Nat) (x2 : Option Nat) (x3 : Option Nat) (x4 : Int32) (h : PH) (v : Bool) (h' : PH), self_23 x0 x1 x2 x3 x4 h = some (v, h') → Run g pLa_law D 23 [(0, va_rf x0), (1, va_rf x1), (2, va_rf x2), (3, va_rf x3), (4, .int x4)] [] h (rZ v) h') : ∀ (x0 : Option Nat) (x1 : Option Nat) (x2 : Option Nat) (x3 : Option Nat) (x4 : Int32) (h : PH) (v : Bool) (h' : PH), La_law_b825 g N self_23 x0 x1 x2 x3 x4 h = some (v, h') → Run g pLa_law D 825 [(0, va_rf x0), (1, va_rf x1), (2, va_rf x2), (3, va_rf x3), (4, .int x4)] [] h (rZ v) h' := by
  obtain ⟨D2, rfl⟩ : ∃ d, D = d + 1 := ⟨D - 1, by omega⟩
  intro x0 x1 x2 x3 x4 h v h' hE
  unfold La_law_b825 at hE
  refine r_goto (tgt := 1441) rfl (by decide) ?_
  first | exact r_sb (La_law_b1441_ok g hst N _ hD _ hself_23  _ _ _ _ _ _ _ _ hE) ⟨rfl, rfl, rfl, rfl, rfl, trivial⟩ | exact r_sb (La_law_b1441_ok g hst N _ hD _ hself_23  _ _ _ _ _ _ _ _ hE) (by simp only [su1, su2, dr1_rf, dr1_in, dr1_lo, dr2_rf, dr2_in, dr2_lo]; exact ⟨rfl, rfl, rfl, rfl, rfl, trivial⟩)
def La_law_b881 (g : GT) (N : Nat) (self_23 : Option Nat → Option Nat → Option Nat → Option Nat → Int32 → PH → Option (Bool × PH)) (x0 : Option Nat) (x1 : Option Nat) (x2 : Option Nat) (x3 : Option Nat) (x4 : Int32) (h : PH) : Option (Bool × PH) :=
  La_law_b1441 g N self_23  x0 x1 x2 x3 x4 h
set_option maxRecDepth 20000 in
theorem La_law_b881_ok (g : GT) (hst : (gl g).stackTraces = false) (N : Nat) (D : Nat) (hD : 69 ≤ D) (self_23 : Option Nat → Option Nat → Option Nat → Option Nat → Int32 → PH → Option (Bool × PH)) (hself_23 : ∀ (x0 : Option Nat) (x1 : Option Nat) (x2 : Option Nat) (x3 : Option Nat) (x4 : Int32) (h : PH) (v : Bool) (h' : PH), self_23 x0 x1 x2 x3 x4 h = some (v, h') → Run g pLa_law D 23 [(0, va_rf x0), (1, va_rf x1), (2, va_rf x2), (3, va_rf x3), (4, .int x4)] [] h (rZ v) h') : ∀ (x0 : Option Nat) (x1 : Option Nat) (x2 : Option Nat) (x3 : Option Nat) (x4 : Int32) (h : PH) (v : Bool) (h' : PH), La_law_b881 g N self_23 x0 x1 x2 x3 x4 h = some (v, h') → Run g pLa_law D 881 [(0, va_rf x0), (1, va_rf x1), (2, va_rf x2), (3, va_rf x3), (4, .int x4)] [] h (rZ v) h' := by
  obtain ⟨D2, rfl⟩ : ∃ d, D = d + 1 := ⟨D - 1, by omega⟩
  intro x0 x1 x2 x3 x4 h v h' hE
  unfold La_law_b881 at hE
  refine r_goto (tgt := 1441) rfl (by decide) ?_
  first | exact r_sb (La_law_b1441_ok g hst N _ hD _ hself_23  _ _ _ _ _ _ _ _ hE) ⟨rfl, rfl, rfl, rfl, rfl, trivial⟩ | exact r_sb (La_law_b1441_ok g hst N _ hD _ hself_23  _ _ _ _ _ _ _ _ hE) (by simp only [su1, su2, dr1_rf, dr1_in, dr1_lo, dr2_rf, dr2_in, dr2_lo]; exact ⟨rfl, rfl, rfl, rfl, rfl, trivial⟩)
def La_law_b1075 (g : GT) (N : Nat) (self_23 : Option Nat → Option Nat → Option Nat → Option Nat → Int32 → PH → Option (Bool × PH)) (x0 : Option Nat) (x1 : Option Nat) (x2 : Option Nat) (x3 : Option Nat) (x4 : Int32) (h : PH) : Option (Bool × PH) :=
  La_law_b1441 g N self_23  x0 x1 x2 x3 x4 h
set_option maxRecDepth 20000 in
theorem La_law_b1075_ok (g : GT) (hst : (gl g).stackTraces = false) (N : Nat) (D : Nat) (hD : 69 ≤ D) (self_23 : Option Nat → Option Nat → Option Nat → Option Nat → Int32 → PH → Option (Bool × PH)) (hself_23 : ∀ (x0 : Option Nat) (x1 : Option Nat) (x2 : Option Nat) (x3 : Option Nat) (x4 : Int32) (h : PH) (v : Bool) (h' : PH), self_23 x0 x1 x2 x3 x4 h = some (v, h') → Run g pLa_law D 23 [(0, va_rf x0), (1, va_rf x1), (2, va_rf x2), (3, va_rf x3), (4, .int x4)] [] h (rZ v) h') : ∀ (x0 : Option Nat) (x1 : Option Nat) (x2 : Option Nat) (x3 : Option Nat) (x4 : Int32) (h : PH) (v : Bool) (h' : PH), La_law_b1075 g N self_23 x0 x1 x2 x3 x4 h = some (v, h') → Run g pLa_law D 1075 [(0, va_rf x0), (1, va_rf x1), (2, va_rf x2), (3, va_rf x3), (4, .int x4)] [] h (rZ v) h' := by
  obtain ⟨D2, rfl⟩ : ∃ d, D = d + 1 := ⟨D - 1, by omega⟩
  intro x0 x1 x2 x3 x4 h v h' hE
  unfold La_law_b1075 at hE
  refine r_goto (tgt := 1441) rfl (by decide) ?_
  first | exact r_sb (La_law_b1441_ok g hst N _ hD _ hself_23  _ _ _ _ _ _ _ _ hE) ⟨rfl, rfl, rfl, rfl, rfl, trivial⟩ | exact r_sb (La_law_b1441_ok g hst N _ hD _ hself_23  _ _ _ _ _ _ _ _ hE) (by simp only [su1, su2, dr1_rf, dr1_in, dr1_lo, dr2_rf, dr2_in, dr2_lo]; exact ⟨rfl, rfl, rfl, rfl, rfl, trivial⟩)
def La_law_b1131 (g : GT) (N : Nat) (self_23 : Option Nat → Option Nat → Option Nat → Option Nat → Int32 → PH → Option (Bool × PH)) (x0 : Option Nat) (x1 : Option Nat) (x2 : Option Nat) (x3 : Option Nat) (x4 : Int32) (h : PH) : Option (Bool × PH) :=
  La_law_b1441 g N self_23  x0 x1 x2 x3 x4 h
set_option maxRecDepth 20000 in
theorem La_law_b1131_ok (g : GT) (hst : (gl g).stackTraces = false) (N : Nat) (D : Nat) (hD : 69 ≤ D) (self_23 : Option Nat → Option Nat → Option Nat → Option Nat → Int32 → PH → Option (Bool × PH)) (hself_23 : ∀ (x0 : Option Nat) (x1 : Option Nat) (x2 : Option Nat) (x3 : Option Nat) (x4 : Int32) (h : PH) (v : Bool) (h' : PH), self_23 x0 x1 x2 x3 x4 h = some (v, h') → Run g pLa_law D 23 [(0, va_rf x0), (1, va_rf x1), (2, va_rf x2), (3, va_rf x3), (4, .int x4)] [] h (rZ v) h') : ∀ (x0 : Option Nat) (x1 : Option Nat) (x2 : Option Nat) (x3 : Option Nat) (x4 : Int32) (h : PH) (v : Bool) (h' : PH), La_law_b1131 g N self_23 x0 x1 x2 x3 x4 h = some (v, h') → Run g pLa_law D 1131 [(0, va_rf x0), (1, va_rf x1), (2, va_rf x2), (3, va_rf x3), (4, .int x4)] [] h (rZ v) h' := by
  obtain ⟨D2, rfl⟩ : ∃ d, D = d + 1 := ⟨D - 1, by omega⟩
  intro x0 x1 x2 x3 x4 h v h' hE
  unfold La_law_b1131 at hE
  refine r_goto (tgt := 1441) rfl (by decide) ?_
  first | exact r_sb (La_law_b1441_ok g hst N _ hD _ hself_23  _ _ _ _ _ _ _ _ hE) ⟨rfl, rfl, rfl, rfl, rfl, trivial⟩ | exact r_sb (La_law_b1441_ok g hst N _ hD _ hself_23  _ _ _ _ _ _ _ _ hE) (by simp only [su1, su2, dr1_rf, dr1_in, dr1_lo, dr2_rf, dr2_in, dr2_lo]; exact ⟨rfl, rfl, rfl, rfl, rfl, trivial⟩)
def La_law_b1188 (g : GT) (N : Nat) (self_23 : Option Nat → Option Nat → Option Nat → Option Nat → Int32 → PH → Option (Bool × PH)) (x0 : Option Nat) (x1 : Option Nat) (x2 : Option Nat) (x3 : Option Nat) (x4 : Int32) (h : PH) : Option (Bool × PH) :=
  La_law_b1441 g N self_23  x0 x1 x2 x3 x4 h
set_option maxRecDepth 20000 in
theorem La_law_b1188_ok (g : GT) (hst : (gl g).stackTraces = false) (N : Nat) (D : Nat) (hD : 69 ≤ D) (self_23 : Option Nat → Option Nat → Option Nat → Option Nat → Int32 → PH → Option (Bool × PH)) (hself_23 : ∀ (x0 : Option Nat) (x1 : Option Nat) (x2 : Option Nat) (x3 : Option Nat) (x4 : Int32) (h : PH) (v : Bool) (h' : PH), self_23 x0 x1 x2 x3 x4 h = some (v, h') → Run g pLa_law D 23 [(0, va_rf x0), (1, va_rf x1), (2, va_rf x2), (3, va_rf x3), (4, .int x4)] [] h (rZ v) h') : ∀ (x0 : Option Nat) (x1 : Option Nat) (x2 : Option Nat) (x3 : Option Nat) (x4 : Int32) (h : PH) (v : Bool) (h' : PH), La_law_b1188 g N self_23 x0 x1 x2 x3 x4 h = some (v, h') → Run g pLa_law D 1188 [(0, va_rf x0), (1, va_rf x1), (2, va_rf x2), (3, va_rf x3), (4, .int x4)] [] h (rZ v) h' := by
  obtain ⟨D2, rfl⟩ : ∃ d, D = d + 1 := ⟨D - 1, by omega⟩
  intro x0 x1 x2 x3 x4 h v h' hE
  unfold La_law_b1188 at hE
  refine r_goto (tgt := 1441) rfl (by decide) ?_
  first | exact r_sb (La_law_b1441_ok g hst N _ hD _ hself_23  _ _ _ _ _ _ _ _ hE) ⟨rfl, rfl, rfl, rfl, rfl, trivial⟩ | exact r_sb (La_law_b1441_ok g hst N _ hD _ hself_23  _ _ _ _ _ _ _ _ hE) (by simp only [su1, su2, dr1_rf, dr1_in, dr1_lo, dr2_rf, dr2_in, dr2_lo]; exact ⟨rfl, rfl, rfl, rfl, rfl, trivial⟩)
def La_law_b1395 (g : GT) (N : Nat) (self_23 : Option Nat → Option Nat → Option Nat → Option Nat → Int32 → PH → Option (Bool × PH)) (s0 : Int32) (s1 : Option Nat) (s2 : Int32) (s3 : Int32) (x0 : Option Nat) (x1 : Option Nat) (x2 : Option Nat) (x3 : Option Nat) (x4 : Int32) (h : PH) : Option (Bool × PH) :=
  (s1).bind fun a_1 =>
  ck ((hK h a_1).1 = 11) <|
  bd (Mo_mark N a_1 s2 s3 h) fun v4 h5 =>
  if s0 = (bI v4) then
    La_law_b1441 g N self_23  x0 x1 x2 x3 x4 h5
  else
    some (false, h5)
set_option maxRecDepth 20000 in
theorem La_law_b1395_ok (g : GT) (hst : (gl g).stackTraces = false) (N : Nat) (D : Nat) (hD : 69 ≤ D) (self_23 : Option Nat → Option Nat → Option Nat → Option Nat → Int32 → PH → Option (Bool × PH)) (hself_23 : ∀ (x0 : Option Nat) (x1 : Option Nat) (x2 : Option Nat) (x3 : Option Nat) (x4 : Int32) (h : PH) (v : Bool) (h' : PH), self_23 x0 x1 x2 x3 x4 h = some (v, h') → Run g pLa_law D 23 [(0, va_rf x0), (1, va_rf x1), (2, va_rf x2), (3, va_rf x3), (4, .int x4)] [] h (rZ v) h') : ∀ (s0 : Int32) (s1 : Option Nat) (s2 : Int32) (s3 : Int32) (x0 : Option Nat) (x1 : Option Nat) (x2 : Option Nat) (x3 : Option Nat) (x4 : Int32) (h : PH) (v : Bool) (h' : PH), La_law_b1395 g N self_23 s0 s1 s2 s3 x0 x1 x2 x3 x4 h = some (v, h') → Run g pLa_law D 1395 [(0, va_rf x0), (1, va_rf x1), (2, va_rf x2), (3, va_rf x3), (4, .int x4)] [.int s3, .int s2, va_rf s1, .int s0] h (rZ v) h' := by
  obtain ⟨D2, rfl⟩ : ∃ d, D = d + 1 := ⟨D - 1, by omega⟩
  intro s0 s1 s2 s3 x0 x1 x2 x3 x4 h v h' hE
  unfold La_law_b1395 at hE
  obtain ⟨a_1, ha2, hE⟩ := bnE hE
  obtain ⟨hk3, hE⟩ := ckE hE
  obtain ⟨v4, h5, hq6, hE⟩ := bdE hE
  refine r_callV1 (rest := [.int s0]) (hc := (Mo_mark_ok g N _ _ _ _ _ _ hq6 D2 (by omega))) rfl pm_Mo_mark lw_L_171 im_Mo_mark sl_Mo_mark ha2 rfl rfl (rcOK hk3 rfl) (by simp only [List.map_cons, List.map_nil, rf_cat, cat_i, cat_l, List.sum_cons, List.sum_nil]; decide) ?_
  refine r_icmp_eq (tgt := 1441) rfl (by decide) (fun hc7 => ?_) (fun hc7 => ?_)
  · have hE := ifP hc7 hE
    first | exact r_sb (La_law_b1441_ok g hst N _ hD _ hself_23  _ _ _ _ _ _ _ _ hE) ⟨rfl, rfl, rfl, rfl, rfl, trivial⟩ | exact r_sb (La_law_b1441_ok g hst N _ hD _ hself_23  _ _ _ _ _ _ _ _ hE) (by simp only [su1, su2, dr1_rf, dr1_in, dr1_lo, dr2_rf, dr2_in, dr2_lo]; exact ⟨rfl, rfl, rfl, rfl, rfl, trivial⟩)
  · have hE := ifN hc7 hE
    refine r_iconst 0 rfl ci_0 ?_
    cases hE
    exact r_ret rfl (Or.inl ⟨rfl, _, _, rfl, rfl, rfl, rfl⟩)
def La_law_b1371 (g : GT) (N : Nat) (self_23 : Option Nat → Option Nat → Option Nat → Option Nat → Int32 → PH → Option (Bool × PH)) (s0 : Option Nat) (s1 : Int32) (s2 : Int32) (x0 : Option Nat) (x1 : Option Nat) (x2 : Option Nat) (x3 : Option Nat) (x4 : Int32) (h : PH) : Option (Bool × PH) :=
  (s0).bind fun a_1 =>
  ck ((hK h a_1).1 = 10) <|
  bd (Le_mark N a_1 s1 s2 h) fun v4 h5 =>
  (x0).bind fun a_7 =>
  ck ((hK h5 a_7).1 = 26) <|
  ck (inb (x4 + 1) (hK h5 a_7).2 = true) <|
  ck (inb (x4 + 2) (hK h5 a_7).2 = true) <|
  if (hI h5 a_7 (ix (x4 + 2))) = 0 then
    La_law_b1395 g N self_23  (bI v4) x2 (hI h5 a_7 (ix (x4 + 1))) 0 x0 x1 x2 x3 x4 h5
  else
    La_law_b1395 g N self_23  (bI v4) x2 (hI h5 a_7 (ix (x4 + 1))) 1 x0 x1 x2 x3 x4 h5
set_option maxRecDepth 20000 in
theorem La_law_b1371_ok (g : GT) (hst : (gl g).stackTraces = false) (N : Nat) (D : Nat) (hD : 69 ≤ D) (self_23 : Option Nat → Option Nat → Option Nat → Option Nat → Int32 → PH → Option (Bool × PH)) (hself_23 : ∀ (x0 : Option Nat) (x1 : Option Nat) (x2 : Option Nat) (x3 : Option Nat) (x4 : Int32) (h : PH) (v : Bool) (h' : PH), self_23 x0 x1 x2 x3 x4 h = some (v, h') → Run g pLa_law D 23 [(0, va_rf x0), (1, va_rf x1), (2, va_rf x2), (3, va_rf x3), (4, .int x4)] [] h (rZ v) h') : ∀ (s0 : Option Nat) (s1 : Int32) (s2 : Int32) (x0 : Option Nat) (x1 : Option Nat) (x2 : Option Nat) (x3 : Option Nat) (x4 : Int32) (h : PH) (v : Bool) (h' : PH), La_law_b1371 g N self_23 s0 s1 s2 x0 x1 x2 x3 x4 h = some (v, h') → Run g pLa_law D 1371 [(0, va_rf x0), (1, va_rf x1), (2, va_rf x2), (3, va_rf x3), (4, .int x4)] [.int s2, .int s1, va_rf s0] h (rZ v) h' := by
  obtain ⟨D2, rfl⟩ : ∃ d, D = d + 1 := ⟨D - 1, by omega⟩
  intro s0 s1 s2 x0 x1 x2 x3 x4 h v h' hE
  unfold La_law_b1371 at hE
  obtain ⟨a_1, ha2, hE⟩ := bnE hE
  obtain ⟨hk3, hE⟩ := ckE hE
  obtain ⟨v4, h5, hq6, hE⟩ := bdE hE
  refine r_callV1 (rest := []) (hc := (Le_mark_ok g N _ _ _ _ _ _ hq6 D2 (by omega))) rfl pm_Le_mark lw_L_167 im_Le_mark sl_Le_mark ha2 rfl rfl (rcOK hk3 rfl) (by decide) ?_
  refine r_aload_n (t := x2) 2 rfl rfl rfl ?_
  refine r_aload_n (t := x0) 0 rfl rfl rfl ?_
  refine r_iload rfl rfl ?_
  refine r_iconst 1 rfl ci_1 ?_
  refine r_iadd rfl ?_
  obtain ⟨a_7, ha8, hE⟩ := bnE hE
  obtain ⟨hk9, hE⟩ := ckE hE
  obtain ⟨hi10, hE⟩ := ckE hE
  refine r_sld rfl ha8 hk9 hi10 ?_
  refine r_aload_n (t := x0) 0 rfl rfl rfl ?_
  refine r_iload rfl rfl ?_
  refine r_iconst 2 rfl ci_2 ?_
  refine r_iadd rfl ?_
  obtain ⟨hi11, hE⟩ := ckE hE
  refine r_sld rfl ha8 hk9 hi11 ?_
  refine r_if_eq (tgt := 1394) rfl (by decide) (fun hc12 => ?_) (fun hc12 => ?_)
  · have hE := ifP hc12 hE
    refine r_iconst 0 rfl ci_0 ?_
    first | exact r_sb (La_law_b1395_ok g hst N _ hD _ hself_23  _ _ _ _ _ _ _ _ _ _ _ _ hE) ⟨rfl, rfl, rfl, rfl, rfl, trivial⟩ | exact r_sb (La_law_b1395_ok g hst N _ hD _ hself_23  _ _ _ _ _ _ _ _ _ _ _ _ hE) (by simp only [su1, su2, dr1_rf, dr1_in, dr1_lo, dr2_rf, dr2_in, dr2_lo]; exact ⟨rfl, rfl, rfl, rfl, rfl, trivial⟩)
  · have hE := ifN hc12 hE
    refine r_iconst 1 rfl ci_1 ?_
    refine r_goto (tgt := 1395) rfl (by decide) ?_
    first | exact r_sb (La_law_b1395_ok g hst N _ hD _ hself_23  _ _ _ _ _ _ _ _ _ _ _ _ hE) ⟨rfl, rfl, rfl, rfl, rfl, trivial⟩ | exact r_sb (La_law_b1395_ok g hst N _ hD _ hself_23  _ _ _ _ _ _ _ _ _ _ _ _ hE) (by simp only [su1, su2, dr1_rf, dr1_in, dr1_lo, dr2_rf, dr2_in, dr2_lo]; exact ⟨rfl, rfl, rfl, rfl, rfl, trivial⟩)
def La_law_b23 (g : GT) (N : Nat) : Nat → Option Nat → Option Nat → Option Nat → Option Nat → Int32 → PH → Option (Bool × PH)
  | 0 => fun _ _ _ _ _ _ => none
  | n + 1 => fun x0 x1 x2 x3 x4 h =>
    (x0).bind fun a_1 =>
    ck ((hK h a_1).1 = 26) <|
    if ((Int32.ofNat (hK h a_1).2) - 7) < x4 then
      some (true, h)
    else
      ck (inb x4 (hK h a_1).2 = true) <|
      if (Int32.toInt ((hI h a_1 (ix x4)) &&& 31) < 0 ∨ 31 < Int32.toInt ((hI h a_1 (ix x4)) &&& 31)) then
        La_law_b1441 g N (La_law_b23 g N n)  x0 x1 x2 x3 x4 h
      else if ((hI h a_1 (ix x4)) &&& 31) = 0 then
        ck (inb (x4 + 1) (hK h a_1).2 = true) <|
        ck (inb (x4 + 2) (hK h a_1).2 = true) <|
        ck (inb (x4 + 3) (hK h a_1).2 = true) <|
        ck (inb (x4 + 4) (hK h a_1).2 = true) <|
        ck (inb (x4 + 5) (hK h a_1).2 = true) <|
        ck (inb (x4 + 6) (hK h a_1).2 = true) <|
        (x1).bind fun a_14 =>
        ck ((hK h a_14).1 = 10) <|
        bd (Le_feed N a_14 (((Int32.toInt64 (hI h a_1 (ix (x4 + 1)))) <<< (Int32.toInt64 32 &&& 63)) ||| ((Int32.toInt64 (hI h a_1 (ix (x4 + 2)))) &&& 4294967295)) (((Int32.toInt64 (hI h a_1 (ix (x4 + 3)))) <<< (Int32.toInt64 32 &&& 63)) ||| ((Int32.toInt64 (hI h a_1 (ix (x4 + 4)))) &&& 4294967295)) (((Int32.toInt64 (hI h a_1 (ix (x4 + 5)))) <<< (Int32.toInt64 32 &&& 63)) ||| ((Int32.toInt64 (hI h a_1 (ix (x4 + 6)))) &&& 4294967295)) h) fun v17 h18 =>
        ck ((hK h18 a_1).1 = 26) <|
        ck (inb (x4 + 1) (hK h18 a_1).2 = true) <|
        ck (inb (x4 + 2) (hK h18 a_1).2 = true) <|
        ck (inb (x4 + 3) (hK h18 a_1).2 = true) <|
        ck (inb (x4 + 4) (hK h18 a_1).2 = true) <|
        ck (inb (x4 + 5) (hK h18 a_1).2 = true) <|
        ck (inb (x4 + 6) (hK h18 a_1).2 = true) <|
        (x2).bind fun a_27 =>
        ck ((hK h18 a_27).1 = 11) <|
        bd (Mo_feed N a_27 (((Int32.toInt64 (hI h18 a_1 (ix (x4 + 1)))) <<< (Int32.toInt64 32 &&& 63)) ||| ((Int32.toInt64 (hI h18 a_1 (ix (x4 + 2)))) &&& 4294967295)) (((Int32.toInt64 (hI h18 a_1 (ix (x4 + 3)))) <<< (Int32.toInt64 32 &&& 63)) ||| ((Int32.toInt64 (hI h18 a_1 (ix (x4 + 4)))) &&& 4294967295)) (((Int32.toInt64 (hI h18 a_1 (ix (x4 + 5)))) <<< (Int32.toInt64 32 &&& 63)) ||| ((Int32.toInt64 (hI h18 a_1 (ix (x4 + 6)))) &&& 4294967295)) h18) fun v30 h31 =>
        if v17 = v30 then
          La_law_b1441 g N (La_law_b23 g N n)  x0 x1 x2 x3 x4 h31
        else
          some (false, h31)
      else if ((hI h a_1 (ix x4)) &&& 31) = 1 then
        (x1).bind fun a_35 =>
        ck ((hK h a_35).1 = 10) <|
        bd (Le_house N a_35 h) fun v38 h39 =>
        (x2).bind fun a_41 =>
        ck ((hK h39 a_41).1 = 11) <|
        bd (Mo_house N a_41 h39) fun v44 h45 =>
        if v38 = v44 then
          La_law_b1441 g N (La_law_b23 g N n)  x0 x1 x2 x3 x4 h45
        else
          some (false, h45)
      else if ((hI h a_1 (ix x4)) &&& 31) = 2 then
        (x1).bind fun a_49 =>
        ck ((hK h a_49).1 = 10) <|
        bd (Le_evening N a_49 h) fun v52 h53 =>
        (x2).bind fun a_55 =>
        ck ((hK h53 a_55).1 = 11) <|
        bd (Mo_evening N a_55 h53) fun v58 h59 =>
        if v52 = v58 then
          La_law_b1441 g N (La_law_b23 g N n)  x0 x1 x2 x3 x4 h59
        else
          some (false, h59)
      else if ((hI h a_1 (ix x4)) &&& 31) = 3 then
        ck (inb (x4 + 1) (hK h a_1).2 = true) <|
        ck (inb (x4 + 2) (hK h a_1).2 = true) <|
        (x1).bind fun a_65 =>
        ck ((hK h a_65).1 = 10) <|
        bd (Le_calls N a_65 (hI h a_1 (ix (x4 + 1))) (hI h a_1 (ix (x4 + 2))) h) fun v68 h69 =>
        ck ((hK h69 a_1).1 = 26) <|
        ck (inb (x4 + 1) (hK h69 a_1).2 = true) <|
        ck (inb (x4 + 2) (hK h69 a_1).2 = true) <|
        (x2).bind fun a_74 =>
        ck ((hK h69 a_74).1 = 11) <|
        bd (Mo_calls N a_74 (hI h69 a_1 (ix (x4 + 1))) (hI h69 a_1 (ix (x4 + 2))) h69) fun v77 h78 =>
        if v68 = v77 then
          La_law_b1441 g N (La_law_b23 g N n)  x0 x1 x2 x3 x4 h78
        else
          some (false, h78)
      else if ((hI h a_1 (ix x4)) &&& 31) = 4 then
        ck (inb (x4 + 1) (hK h a_1).2 = true) <|
        (x1).bind fun a_83 =>
        ck ((hK h a_83).1 = 10) <|
        bd (Le_come N a_83 (hI h a_1 (ix (x4 + 1))) h) fun v86 h87 =>
        ck ((hK h87 a_1).1 = 26) <|
        ck (inb (x4 + 1) (hK h87 a_1).2 = true) <|
        (x2).bind fun a_91 =>
        ck ((hK h87 a_91).1 = 11) <|
        bd (Mo_come N a_91 (hI h87 a_1 (ix (x4 + 1))) h87) fun v94 h95 =>
        if (bI v86) = (bI v94) then
          La_law_b1441 g N (La_law_b23 g N n)  x0 x1 x2 x3 x4 h95
        else
          some (false, h95)
      else if ((hI h a_1 (ix x4)) &&& 31) = 5 then
        ck (inb (x4 + 1) (hK h a_1).2 = true) <|
        bd (La_give N x1 (hI h a_1 (ix (x4 + 1))) x3 h) fun v100 h101 =>
        ck ((hK h101 a_1).1 = 26) <|
        ck (inb (x4 + 1) (hK h101 a_1).2 = true) <|
        (x2).bind fun a_105 =>
        ck ((hK h101 a_105).1 = 11) <|
        bd (Mo_give N a_105 (hI h101 a_1 (ix (x4 + 1))) h101) fun v108 h109 =>
        ck ((hK h109 a_105).1 = 11) <|
        bd (Mo_thrown N a_105 h109) fun v112 h113 =>
        if v112 = v100 then
          if v100 = 0 then
            (x3).bind fun a_117 =>
            ck ((hK h113 a_117).1 = 23) <|
            ck (inb 0 (hK h113 a_117).2 = true) <|
            if (lg_cmp (hJ h113 a_117 (ix 0)) (Int32.toInt64 v108)) = 0 then
              La_law_b472 g N (La_law_b23 g N n)  x0 x1 x2 x3 x4 h113
            else
              some (false, h113)
          else
            La_law_b472 g N (La_law_b23 g N n)  x0 x1 x2 x3 x4 h113
        else
          some (false, h113)
      else if ((hI h a_1 (ix x4)) &&& 31) = 6 then
        (x1).bind fun a_123 =>
        ck ((hK h a_123).1 = 10) <|
        bd (Le_quarter N a_123 h) fun v126 h127 =>
        (x2).bind fun a_129 =>
        ck ((hK h127 a_129).1 = 11) <|
        bd (Mo_quarter N a_129 h127) fun v132 h133 =>
        if v126 = v132 then
          La_law_b1441 g N (La_law_b23 g N n)  x0 x1 x2 x3 x4 h133
        else
          some (false, h133)
      else if ((hI h a_1 (ix x4)) &&& 31) = 7 then
        (x1).bind fun a_137 =>
        ck ((hK h a_137).1 = 10) <|
        bd (Le_off N a_137 h) fun v140 h141 =>
        (x2).bind fun a_143 =>
        ck ((hK h141 a_143).1 = 11) <|
        bd (Mo_off N a_143 h141) fun v146 h147 =>
        if (bI v140) = (bI v146) then
          La_law_b1441 g N (La_law_b23 g N n)  x0 x1 x2 x3 x4 h147
        else
          some (false, h147)
      else if ((hI h a_1 (ix x4)) &&& 31) = 8 then
        (x1).bind fun a_151 =>
        ck ((hK h a_151).1 = 10) <|
        bd (Le_undo N a_151 h) fun v154 h155 =>
        (x2).bind fun a_157 =>
        ck ((hK h155 a_157).1 = 11) <|
        bd (Mo_undo N a_157 h155) fun v160 h161 =>
        if (bI v154) = (bI v160) then
          La_law_b1441 g N (La_law_b23 g N n)  x0 x1 x2 x3 x4 h161
        else
          some (false, h161)
      else if ((hI h a_1 (ix x4)) &&& 31) = 9 then
        ck (inb (x4 + 1) (hK h a_1).2 = true) <|
        bd (La_judged N x1 (hI h a_1 (ix (x4 + 1))) x3 h) fun v166 h167 =>
        ck ((hK h167 a_1).1 = 26) <|
        ck (inb (x4 + 1) (hK h167 a_1).2 = true) <|
        (x2).bind fun a_171 =>
        ck ((hK h167 a_171).1 = 11) <|
        bd (Mo_judged N a_171 (hI h167 a_1 (ix (x4 + 1))) h167) fun v174 h175 =>
        ck ((hK h175 a_171).1 = 11) <|
        bd (Mo_thrown N a_171 h175) fun v178 h179 =>
        if v178 = v166 then
          if v166 = 0 then
            (x3).bind fun a_183 =>
            ck ((hK h179 a_183).1 = 23) <|
            ck (inb 0 (hK h179 a_183).2 = true) <|
            if (lg_cmp (hJ h179 a_183 (ix 0)) (Int32.toInt64 v174)) = 0 then
              La_law_b567 g N (La_law_b23 g N n)  x0 x1 x2 x3 x4 h179
            else
              some (false, h179)
          else
            La_law_b567 g N (La_law_b23 g N n)  x0 x1 x2 x3 x4 h179
        else
          some (false, h179)
      else if ((hI h a_1 (ix x4)) &&& 31) = 10 then
        ck (inb (x4 + 1) (hK h a_1).2 = true) <|
        ck (inb (x4 + 2) (hK h a_1).2 = true) <|
        ck (inb (x4 + 3) (hK h a_1).2 = true) <|
        ck (inb (x4 + 4) (hK h a_1).2 = true) <|
        if (hI h a_1 (ix (x4 + 4))) = 0 then
          La_law_b603 g N (La_law_b23 g N n)  x1 (hI h a_1 (ix (x4 + 1))) (hI h a_1 (ix (x4 + 2))) (hI h a_1 (ix (x4 + 3))) 0 x0 x1 x2 x3 x4 h
        else
          La_law_b603 g N (La_law_b23 g N n)  x1 (hI h a_1 (ix (x4 + 1))) (hI h a_1 (ix (x4 + 2))) (hI h a_1 (ix (x4 + 3))) 1 x0 x1 x2 x3 x4 h
      else if ((hI h a_1 (ix x4)) &&& 31) = 11 then
        ck (inb (x4 + 1) (hK h a_1).2 = true) <|
        (x1).bind fun a_196 =>
        ck ((hK h a_196).1 = 10) <|
        bd (Le_best N a_196 (hI h a_1 (ix (x4 + 1))) h) fun v199 h200 =>
        ck ((hK h200 a_1).1 = 26) <|
        ck (inb (x4 + 1) (hK h200 a_1).2 = true) <|
        (x2).bind fun a_204 =>
        ck ((hK h200 a_204).1 = 11) <|
        bd (Mo_best N a_204 (hI h200 a_1 (ix (x4 + 1))) h200) fun v207 h208 =>
        if v199 = v207 then
          La_law_b1441 g N (La_law_b23 g N n)  x0 x1 x2 x3 x4 h208
        else
          some (false, h208)
      else if ((hI h a_1 (ix x4)) &&& 31) = 12 then
        ck (inb (x4 + 1) (hK h a_1).2 = true) <|
        bd (La_may N x1 (hI h a_1 (ix (x4 + 1))) x3 h) fun v213 h214 =>
        ck ((hK h214 a_1).1 = 26) <|
        ck (inb (x4 + 1) (hK h214 a_1).2 = true) <|
        (x2).bind fun a_218 =>
        ck ((hK h214 a_218).1 = 11) <|
        bd (Mo_may N a_218 (hI h214 a_1 (ix (x4 + 1))) h214) fun v221 h222 =>
        ck ((hK h222 a_218).1 = 11) <|
        bd (Mo_thrown N a_218 h222) fun v225 h226 =>
        if v225 = v213 then
          if v213 = 0 then
            (x3).bind fun a_230 =>
            ck ((hK h226 a_230).1 = 23) <|
            ck (inb 0 (hK h226 a_230).2 = true) <|
            if (lg_cmp (hJ h226 a_230 (ix 0)) (Int32.toInt64 v221)) = 0 then
              La_law_b756 g N (La_law_b23 g N n)  x0 x1 x2 x3 x4 h226
            else
              some (false, h226)
          else
            La_law_b756 g N (La_law_b23 g N n)  x0 x1 x2 x3 x4 h226
        else
          some (false, h226)
      else if ((hI h a_1 (ix x4)) &&& 31) = 13 then
        (x1).bind fun a_236 =>
        ck ((hK h a_236).1 = 10) <|
        bd (Le_stay N a_236 h) fun v239 h240 =>
        (x2).bind fun a_242 =>
        ck ((hK h240 a_242).1 = 11) <|
        bd (Mo_stay N a_242 h240) fun v245 h246 =>
        if v239 = v245 then
          La_law_b1441 g N (La_law_b23 g N n)  x0 x1 x2 x3 x4 h246
        else
          some (false, h246)
      else if ((hI h a_1 (ix x4)) &&& 31) = 14 then
        ck (inb (x4 + 1) (hK h a_1).2 = true) <|
        bd (La_mean N x1 (hI h a_1 (ix (x4 + 1))) x3 h) fun v251 h252 =>
        ck ((hK h252 a_1).1 = 26) <|
        ck (inb (x4 + 1) (hK h252 a_1).2 = true) <|
        (x2).bind fun a_256 =>
        ck ((hK h252 a_256).1 = 11) <|
        bd (Mo_mean N a_256 (hI h252 a_1 (ix (x4 + 1))) h252) fun v259 h260 =>
        ck ((hK h260 a_256).1 = 11) <|
        bd (Mo_thrown N a_256 h260) fun v263 h264 =>
        if v263 = v251 then
          if v251 = 0 then
            (x3).bind fun a_268 =>
            ck ((hK h264 a_268).1 = 23) <|
            ck (inb 0 (hK h264 a_268).2 = true) <|
            if (lg_cmp (hJ h264 a_268 (ix 0)) (Int32.toInt64 v259)) = 0 then
              La_law_b825 g N (La_law_b23 g N n)  x0 x1 x2 x3 x4 h264
            else
              some (false, h264)
          else
            La_law_b825 g N (La_law_b23 g N n)  x0 x1 x2 x3 x4 h264
        else
          some (false, h264)
      else if ((hI h a_1 (ix x4)) &&& 31) = 15 then
        ck (inb (x4 + 1) (hK h a_1).2 = true) <|
        bd (La_left N x1 (hI h a_1 (ix (x4 + 1))) x3 h) fun v275 h276 =>
        ck ((hK h276 a_1).1 = 26) <|
        ck (inb (x4 + 1) (hK h276 a_1).2 = true) <|
        (x2).bind fun a_280 =>
        ck ((hK h276 a_280).1 = 11) <|
        bd (Mo_left N a_280 (hI h276 a_1 (ix (x4 + 1))) h276) fun v283 h284 =>
        ck ((hK h284 a_280).1 = 11) <|
        bd (Mo_thrown N a_280 h284) fun v287 h288 =>
        if v287 = v275 then
          if v275 = 0 then
            (x3).bind fun a_292 =>
            ck ((hK h288 a_292).1 = 23) <|
            ck (inb 0 (hK h288 a_292).2 = true) <|
            if (lg_cmp (hJ h288 a_292 (ix 0)) (Int32.toInt64 v283)) = 0 then
              La_law_b881 g N (La_law_b23 g N n)  x0 x1 x2 x3 x4 h288
            else
              some (false, h288)
          else
            La_law_b881 g N (La_law_b23 g N n)  x0 x1 x2 x3 x4 h288
        else
          some (false, h288)
      else if ((hI h a_1 (ix x4)) &&& 31) = 16 then
        ck (inb (x4 + 1) (hK h a_1).2 = true) <|
        (x1).bind fun a_299 =>
        ck ((hK h a_299).1 = 10) <|
        bd (Le_close N a_299 (hI h a_1 (ix (x4 + 1))) h) fun v302 h303 =>
        ck ((hK h303 a_1).1 = 26) <|
        ck (inb (x4 + 1) (hK h303 a_1).2 = true) <|
        (x2).bind fun a_307 =>
        ck ((hK h303 a_307).1 = 11) <|
        bd (Mo_close N a_307 (hI h303 a_1 (ix (x4 + 1))) h303) fun v310 h311 =>
        if v302 = v310 then
          La_law_b1441 g N (La_law_b23 g N n)  x0 x1 x2 x3 x4 h311
        else
          some (false, h311)
      else if ((hI h a_1 (ix x4)) &&& 31) = 17 then
        ck (inb (x4 + 1) (hK h a_1).2 = true) <|
        (x1).bind fun a_316 =>
        ck ((hK h a_316).1 = 10) <|
        bd (Le_surely N a_316 (hI h a_1 (ix (x4 + 1))) h) fun v319 h320 =>
        ck ((hK h320 a_1).1 = 26) <|
        ck (inb (x4 + 1) (hK h320 a_1).2 = true) <|
        (x2).bind fun a_324 =>
        ck ((hK h320 a_324).1 = 11) <|
        bd (Mo_surely N a_324 (hI h320 a_1 (ix (x4 + 1))) h320) fun v327 h328 =>
        if v319 = v327 then
          La_law_b1441 g N (La_law_b23 g N n)  x0 x1 x2 x3 x4 h328
        else
          some (false, h328)
      else if ((hI h a_1 (ix x4)) &&& 31) = 18 then
        ck (inb (x4 + 1) (hK h a_1).2 = true) <|
        (x1).bind fun a_333 =>
        ck ((hK h a_333).1 = 10) <|
        bd (Le_most N a_333 (hI h a_1 (ix (x4 + 1))) h) fun v336 h337 =>
        ck ((hK h337 a_1).1 = 26) <|
        ck (inb (x4 + 1) (hK h337 a_1).2 = true) <|
        (x2).bind fun a_341 =>
        ck ((hK h337 a_341).1 = 11) <|
        bd (Mo_most N a_341 (hI h337 a_1 (ix (x4 + 1))) h337) fun v344 h345 =>
        if v336 = v344 then
          La_law_b1441 g N (La_law_b23 g N n)  x0 x1 x2 x3 x4 h345
        else
          some (false, h345)
      else if ((hI h a_1 (ix x4)) &&& 31) = 19 then
        ck (inb (x4 + 1) (hK h a_1).2 = true) <|
        ck (inb (x4 + 2) (hK h a_1).2 = true) <|
        (x1).bind fun a_351 =>
        ck ((hK h a_351).1 = 10) <|
        bd (Le_enough N a_351 (hI h a_1 (ix (x4 + 1))) (hI h a_1 (ix (x4 + 2))) h) fun v354 h355 =>
        ck ((hK h355 a_1).1 = 26) <|
        ck (inb (x4 + 1) (hK h355 a_1).2 = true) <|
        ck (inb (x4 + 2) (hK h355 a_1).2 = true) <|
        (x2).bind fun a_360 =>
        ck ((hK h355 a_360).1 = 11) <|
        bd (Mo_enough N a_360 (hI h355 a_1 (ix (x4 + 1))) (hI h355 a_1 (ix (x4 + 2))) h355) fun v363 h364 =>
        if v354 = v363 then
          La_law_b1441 g N (La_law_b23 g N n)  x0 x1 x2 x3 x4 h364
        else
          some (false, h364)
      else if ((hI h a_1 (ix x4)) &&& 31) = 20 then
        ck (inb (x4 + 1) (hK h a_1).2 = true) <|
        (x1).bind fun a_369 =>
        ck ((hK h a_369).1 = 10) <|
        bd (Le_peak N a_369 (hI h a_1 (ix (x4 + 1))) h) fun v372 h373 =>
        ck ((hK h373 a_1).1 = 26) <|
        ck (inb (x4 + 1) (hK h373 a_1).2 = true) <|
        (x2).bind fun a_377 =>
        ck ((hK h373 a_377).1 = 11) <|
        bd (Mo_peak N a_377 (hI h373 a_1 (ix (x4 + 1))) h373) fun v380 h381 =>
        if v372 = v380 then
          La_law_b1441 g N (La_law_b23 g N n)  x0 x1 x2 x3 x4 h381
        else
          some (false, h381)
      else if ((hI h a_1 (ix x4)) &&& 31) = 21 then
        (x1).bind fun a_385 =>
        ck ((hK h a_385).1 = 10) <|
        bd (Le_habits N a_385 h) fun v388 h389 =>
        (x2).bind fun a_391 =>
        ck ((hK h389 a_391).1 = 11) <|
        bd (Mo_habits N a_391 h389) fun v394 h395 =>
        if v388 = v394 then
          La_law_b1441 g N (La_law_b23 g N n)  x0 x1 x2 x3 x4 h395
        else
          some (false, h395)
      else if ((hI h a_1 (ix x4)) &&& 31) = 22 then
        bd (La_talk N x1 x3 h) fun v399 h400 =>
        (x2).bind fun a_402 =>
        ck ((hK h400 a_402).1 = 11) <|
        bd (Mo_talk N a_402 h400) fun v405 h406 =>
        ck ((hK h406 a_402).1 = 11) <|
        bd (Mo_thrown N a_402 h406) fun v409 h410 =>
        if v409 = v399 then
          if v399 = 0 then
            (x3).bind fun a_414 =>
            ck ((hK h410 a_414).1 = 23) <|
            ck (inb 0 (hK h410 a_414).2 = true) <|
            if (lg_cmp (hJ h410 a_414 (ix 0)) (Int32.toInt64 v405)) = 0 then
              La_law_b1075 g N (La_law_b23 g N n)  x0 x1 x2 x3 x4 h410
            else
              some (false, h410)
          else
            La_law_b1075 g N (La_law_b23 g N n)  x0 x1 x2 x3 x4 h410
        else
          some (false, h410)
      else if ((hI h a_1 (ix x4)) &&& 31) = 23 then
        ck (inb (x4 + 1) (hK h a_1).2 = true) <|
        bd (La_fence N x1 (hI h a_1 (ix (x4 + 1))) x3 h) fun v421 h422 =>
        ck ((hK h422 a_1).1 = 26) <|
        ck (inb (x4 + 1) (hK h422 a_1).2 = true) <|
        (x2).bind fun a_426 =>
        ck ((hK h422 a_426).1 = 11) <|
        bd (Mo_fence N a_426 (hI h422 a_1 (ix (x4 + 1))) h422) fun v429 h430 =>
        ck ((hK h430 a_426).1 = 11) <|
        bd (Mo_thrown N a_426 h430) fun v433 h434 =>
        if v433 = v421 then
          if v421 = 0 then
            (x3).bind fun a_438 =>
            ck ((hK h434 a_438).1 = 23) <|
            ck (inb 0 (hK h434 a_438).2 = true) <|
            if (lg_cmp (hJ h434 a_438 (ix 0)) (Int32.toInt64 v429)) = 0 then
              La_law_b1131 g N (La_law_b23 g N n)  x0 x1 x2 x3 x4 h434
            else
              some (false, h434)
          else
            La_law_b1131 g N (La_law_b23 g N n)  x0 x1 x2 x3 x4 h434
        else
          some (false, h434)
      else if ((hI h a_1 (ix x4)) &&& 31) = 24 then
        (x1).bind fun a_444 =>
        ck ((hK h a_444).1 = 10) <|
        bd (Le_rains N a_444 h) fun v447 h448 =>
        (x2).bind fun a_450 =>
        ck ((hK h448 a_450).1 = 11) <|
        bd (Mo_rains N a_450 h448) fun v453 h454 =>
        if v447 = v453 then
          La_law_b1441 g N (La_law_b23 g N n)  x0 x1 x2 x3 x4 h454
        else
          some (false, h454)
      else if ((hI h a_1 (ix x4)) &&& 31) = 25 then
        bd (La_tonight N x1 x3 h) fun v458 h459 =>
        (x2).bind fun a_461 =>
        ck ((hK h459 a_461).1 = 11) <|
        bd (Mo_tonight N a_461 h459) fun v464 h465 =>
        ck ((hK h465 a_461).1 = 11) <|
        bd (Mo_thrown N a_461 h465) fun v468 h469 =>
        if v468 = v458 then
          if v458 = 0 then
            (x3).bind fun a_473 =>
            ck ((hK h469 a_473).1 = 23) <|
            ck (inb 0 (hK h469 a_473).2 = true) <|
            if (lg_cmp (hJ h469 a_473 (ix 0)) (Int32.toInt64 v464)) = 0 then
              La_law_b1188 g N (La_law_b23 g N n)  x0 x1 x2 x3 x4 h469
            else
              some (false, h469)
          else
            La_law_b1188 g N (La_law_b23 g N n)  x0 x1 x2 x3 x4 h469
        else
          some (false, h469)
      else if ((hI h a_1 (ix x4)) &&& 31) = 26 then
        ck (inb (x4 + 1) (hK h a_1).2 = true) <|
        ck (inb (x4 + 2) (hK h a_1).2 = true) <|
        ck (inb (x4 + 3) (hK h a_1).2 = true) <|
        ck (inb (x4 + 4) (hK h a_1).2 = true) <|
        (x1).bind fun a_483 =>
        ck ((hK h a_483).1 = 10) <|
        bd (Le_read N a_483 (hI h a_1 (ix (x4 + 1))) (hI h a_1 (ix (x4 + 2))) (hI h a_1 (ix (x4 + 3))) (hI h a_1 (ix (x4 + 4))) h) fun v486 h487 =>
        ck ((hK h487 a_1).1 = 26) <|
        ck (inb (x4 + 1) (hK h487 a_1).2 = true) <|
        ck (inb (x4 + 2) (hK h487 a_1).2 = true) <|
        ck (inb (x4 + 3) (hK h487 a_1).2 = true) <|
        ck (inb (x4 + 4) (hK h487 a_1).2 = true) <|
        (x2).bind fun a_494 =>
        ck ((hK h487 a_494).1 = 11) <|
        bd (Mo_read N a_494 (hI h487 a_1 (ix (x4 + 1))) (hI h487 a_1 (ix (x4 + 2))) (hI h487 a_1 (ix (x4 + 3))) (hI h487 a_1 (ix (x4 + 4))) h487) fun v497 h498 =>
        if v486 = v497 then
          La_law_b1441 g N (La_law_b23 g N n)  x0 x1 x2 x3 x4 h498
        else
          some (false, h498)
      else if ((hI h a_1 (ix x4)) &&& 31) = 27 then
        ck (inb (x4 + 1) (hK h a_1).2 = true) <|
        ck (inb (x4 + 2) (hK h a_1).2 = true) <|
        (x1).bind fun a_504 =>
        ck ((hK h a_504).1 = 10) <|
        bd (Le_sheets N a_504 (hI h a_1 (ix (x4 + 1))) (hI h a_1 (ix (x4 + 2))) h) fun v507 h508 =>
        ck ((hK h508 a_1).1 = 26) <|
        ck (inb (x4 + 1) (hK h508 a_1).2 = true) <|
        ck (inb (x4 + 2) (hK h508 a_1).2 = true) <|
        (x2).bind fun a_513 =>
        ck ((hK h508 a_513).1 = 11) <|
        bd (Mo_sheets N a_513 (hI h508 a_1 (ix (x4 + 1))) (hI h508 a_1 (ix (x4 + 2))) h508) fun v516 h517 =>
        if v507 = v516 then
          La_law_b1441 g N (La_law_b23 g N n)  x0 x1 x2 x3 x4 h517
        else
          some (false, h517)
      else if ((hI h a_1 (ix x4)) &&& 31) = 28 then
        ck (inb (x4 + 1) (hK h a_1).2 = true) <|
        ck (inb (x4 + 2) (hK h a_1).2 = true) <|
        ck (inb (x4 + 3) (hK h a_1).2 = true) <|
        ck (inb (x4 + 4) (hK h a_1).2 = true) <|
        (x1).bind fun a_525 =>
        ck ((hK h a_525).1 = 10) <|
        bd (Le_years N a_525 (hI h a_1 (ix (x4 + 1))) (hI h a_1 (ix (x4 + 2))) (hI h a_1 (ix (x4 + 3))) (hI h a_1 (ix (x4 + 4))) h) fun v528 h529 =>
        ck ((hK h529 a_1).1 = 26) <|
        ck (inb (x4 + 1) (hK h529 a_1).2 = true) <|
        ck (inb (x4 + 2) (hK h529 a_1).2 = true) <|
        ck (inb (x4 + 3) (hK h529 a_1).2 = true) <|
        ck (inb (x4 + 4) (hK h529 a_1).2 = true) <|
        (x2).bind fun a_536 =>
        ck ((hK h529 a_536).1 = 11) <|
        bd (Mo_years N a_536 (hI h529 a_1 (ix (x4 + 1))) (hI h529 a_1 (ix (x4 + 2))) (hI h529 a_1 (ix (x4 + 3))) (hI h529 a_1 (ix (x4 + 4))) h529) fun v539 h540 =>
        if v528 = v539 then
          La_law_b1441 g N (La_law_b23 g N n)  x0 x1 x2 x3 x4 h540
        else
          some (false, h540)
      else if ((hI h a_1 (ix x4)) &&& 31) = 29 then
        ck (inb (x4 + 1) (hK h a_1).2 = true) <|
        ck (inb (x4 + 2) (hK h a_1).2 = true) <|
        if (hI h a_1 (ix (x4 + 2))) = 0 then
          La_law_b1371 g N (La_law_b23 g N n)  x1 (hI h a_1 (ix (x4 + 1))) 0 x0 x1 x2 x3 x4 h
        else
          La_law_b1371 g N (La_law_b23 g N n)  x1 (hI h a_1 (ix (x4 + 1))) 1 x0 x1 x2 x3 x4 h
      else if ((hI h a_1 (ix x4)) &&& 31) = 30 then
        (x1).bind fun a_548 =>
        ck ((hK h a_548).1 = 10) <|
        bd (Le_score N a_548 h) fun v551 h552 =>
        (x2).bind fun a_554 =>
        ck ((hK h552 a_554).1 = 11) <|
        bd (Mo_score N a_554 h552) fun v557 h558 =>
        if v551 = v557 then
          La_law_b1441 g N (La_law_b23 g N n)  x0 x1 x2 x3 x4 h558
        else
          some (false, h558)
      else if ((hI h a_1 (ix x4)) &&& 31) = 31 then
        ck (inb (x4 + 1) (hK h a_1).2 = true) <|
        (x1).bind fun a_563 =>
        ck ((hK h a_563).1 = 10) <|
        bd (Le_count N a_563 (hI h a_1 (ix (x4 + 1))) h) fun v566 h567 =>
        ck ((hK h567 a_1).1 = 26) <|
        ck (inb (x4 + 1) (hK h567 a_1).2 = true) <|
        (x2).bind fun a_571 =>
        ck ((hK h567 a_571).1 = 11) <|
        bd (Mo_count N a_571 (hI h567 a_1 (ix (x4 + 1))) h567) fun v574 h575 =>
        if v566 = v574 then
          La_law_b1441 g N (La_law_b23 g N n)  x0 x1 x2 x3 x4 h575
        else
          some (false, h575)
      else none
set_option maxRecDepth 20000 in
theorem La_law_b23_ok (g : GT) (hst : (gl g).stackTraces = false) (N : Nat) (D : Nat) (hD : 69 ≤ D) : ∀ (n : Nat) (x0 : Option Nat) (x1 : Option Nat) (x2 : Option Nat) (x3 : Option Nat) (x4 : Int32) (h : PH) (v : Bool) (h' : PH), La_law_b23 g N n x0 x1 x2 x3 x4 h = some (v, h') → Run g pLa_law D 23 [(0, va_rf x0), (1, va_rf x1), (2, va_rf x2), (3, va_rf x3), (4, .int x4)] [] h (rZ v) h' := by
  obtain ⟨D2, rfl⟩ : ∃ d, D = d + 1 := ⟨D - 1, by omega⟩
  intro n
  induction n with
  | zero => exact fun _ _ _ _ _ _ _ _ hE => nomatch (show none = some _ from hE)
  | succ n ih =>
    intro x0 x1 x2 x3 x4 h v h' hE
    unfold La_law_b23 at hE
    refine r_iload rfl rfl ?_
    refine r_aload_n (t := x0) 0 rfl rfl rfl ?_
    obtain ⟨a_1, ha2, hE⟩ := bnE hE
    obtain ⟨hk3, hE⟩ := ckE hE
    refine r_slen rfl ha2 hk3 ?_
    refine r_bipush 7 rfl cb_7 ?_
    refine r_isub rfl ?_
    refine r_icmp_gt (tgt := 1447) rfl (by decide) (fun hc4 => ?_) (fun hc4 => ?_)
    · have hE := ifP hc4 hE
      refine r_iconst 1 rfl ci_1 ?_
      cases hE
      exact r_ret rfl (Or.inl ⟨rfl, _, _, rfl, rfl, rfl, rfl⟩)
    · have hE := ifN hc4 hE
      refine r_aload_n (t := x0) 0 rfl rfl rfl ?_
      refine r_iload rfl rfl ?_
      obtain ⟨hi5, hE⟩ := ckE hE
      refine r_sld rfl ha2 hk3 hi5 ?_
      refine r_bipush 31 rfl cb_31 ?_
      refine r_iand rfl ?_
      rcases Decidable.em (Int32.toInt ((hI h a_1 (ix x4)) &&& 31) < 0 ∨ 31 < Int32.toInt ((hI h a_1 (ix x4)) &&& 31)) with hc6 | hc6
      · have hE := ifP hc6 hE
        refine r_tabOut (tgt := 1441) rfl hc6 (by decide) ?_
        first | exact r_sb (La_law_b1441_ok g hst N _ hD _ ih  _ _ _ _ _ _ _ _ hE) ⟨rfl, rfl, rfl, rfl, rfl, trivial⟩ | exact r_sb (La_law_b1441_ok g hst N _ hD _ ih  _ _ _ _ _ _ _ _ hE) (by simp only [su1, su2, dr1_rf, dr1_in, dr1_lo, dr2_rf, dr2_in, dr2_lo]; exact ⟨rfl, rfl, rfl, rfl, rfl, trivial⟩)
      · have hE := ifN hc6 hE
        rcases Decidable.em (((hI h a_1 (ix x4)) &&& 31) = 0) with hx7 | hx7
        · have hE := ifP hx7 hE
          refine r_tabIn (tgt := 184) 0 rfl hc6 (by rw [hx7]; decide +kernel) rfl (by decide) ?_
          refine r_aload_n (t := x1) 1 rfl rfl rfl ?_
          refine r_aload_n (t := x0) 0 rfl rfl rfl ?_
          refine r_iload rfl rfl ?_
          refine r_iconst 1 rfl ci_1 ?_
          refine r_iadd rfl ?_
          obtain ⟨hi8, hE⟩ := ckE hE
          refine r_sld rfl ha2 hk3 hi8 ?_
          refine r_i2l rfl ?_
          refine r_bipush 32 rfl cb_32 ?_
          refine r_lshl rfl ?_
          refine r_aload_n (t := x0) 0 rfl rfl rfl ?_
          refine r_iload rfl rfl ?_
          refine r_iconst 2 rfl ci_2 ?_
          refine r_iadd rfl ?_
          obtain ⟨hi9, hE⟩ := ckE hE
          refine r_sld rfl ha2 hk3 hi9 ?_
          refine r_i2l rfl ?_
          refine r_ldc2 rfl kc_L_45 ?_
          refine r_land rfl ?_
          refine r_lor rfl ?_
          refine r_aload_n (t := x0) 0 rfl rfl rfl ?_
          refine r_iload rfl rfl ?_
          refine r_iconst 3 rfl ci_3 ?_
          refine r_iadd rfl ?_
          obtain ⟨hi10, hE⟩ := ckE hE
          refine r_sld rfl ha2 hk3 hi10 ?_
          refine r_i2l rfl ?_
          refine r_bipush 32 rfl cb_32 ?_
          refine r_lshl rfl ?_
          refine r_aload_n (t := x0) 0 rfl rfl rfl ?_
          refine r_iload rfl rfl ?_
          refine r_iconst 4 rfl ci_4 ?_
          refine r_iadd rfl ?_
          obtain ⟨hi11, hE⟩ := ckE hE
          refine r_sld rfl ha2 hk3 hi11 ?_
          refine r_i2l rfl ?_
          refine r_ldc2 rfl kc_L_45 ?_
          refine r_land rfl ?_
          refine r_lor rfl ?_
          refine r_aload_n (t := x0) 0 rfl rfl rfl ?_
          refine r_iload rfl rfl ?_
          refine r_iconst 5 rfl ci_5 ?_
          refine r_iadd rfl ?_
          obtain ⟨hi12, hE⟩ := ckE hE
          refine r_sld rfl ha2 hk3 hi12 ?_
          refine r_i2l rfl ?_
          refine r_bipush 32 rfl cb_32 ?_
          refine r_lshl rfl ?_
          refine r_aload_n (t := x0) 0 rfl rfl rfl ?_
          refine r_iload rfl rfl ?_
          refine r_bipush 6 rfl cb_6 ?_
          refine r_iadd rfl ?_
          obtain ⟨hi13, hE⟩ := ckE hE
          refine r_sld rfl ha2 hk3 hi13 ?_
          refine r_i2l rfl ?_
          refine r_ldc2 rfl kc_L_45 ?_
          refine r_land rfl ?_
          refine r_lor rfl ?_
          obtain ⟨a_14, ha15, hE⟩ := bnE hE
          obtain ⟨hk16, hE⟩ := ckE hE
          obtain ⟨v17, h18, hq19, hE⟩ := bdE hE
          refine r_callV1 (rest := []) (hc := (Le_feed_ok g N _ _ _ _ _ _ _ hq19 D2 (by omega))) rfl pm_Le_feed lw_L_47 im_Le_feed sl_Le_feed ha15 rfl rfl (rcOK hk16 rfl) (by decide) ?_
          refine r_aload_n (t := x2) 2 rfl rfl rfl ?_
          refine r_aload_n (t := x0) 0 rfl rfl rfl ?_
          refine r_iload rfl rfl ?_
          refine r_iconst 1 rfl ci_1 ?_
          refine r_iadd rfl ?_
          obtain ⟨hk20, hE⟩ := ckE hE
          obtain ⟨hi21, hE⟩ := ckE hE
          refine r_sld rfl ha2 hk20 hi21 ?_
          refine r_i2l rfl ?_
          refine r_bipush 32 rfl cb_32 ?_
          refine r_lshl rfl ?_
          refine r_aload_n (t := x0) 0 rfl rfl rfl ?_
          refine r_iload rfl rfl ?_
          refine r_iconst 2 rfl ci_2 ?_
          refine r_iadd rfl ?_
          obtain ⟨hi22, hE⟩ := ckE hE
          refine r_sld rfl ha2 hk20 hi22 ?_
          refine r_i2l rfl ?_
          refine r_ldc2 rfl kc_L_45 ?_
          refine r_land rfl ?_
          refine r_lor rfl ?_
          refine r_aload_n (t := x0) 0 rfl rfl rfl ?_
          refine r_iload rfl rfl ?_
          refine r_iconst 3 rfl ci_3 ?_
          refine r_iadd rfl ?_
          obtain ⟨hi23, hE⟩ := ckE hE
          refine r_sld rfl ha2 hk20 hi23 ?_
          refine r_i2l rfl ?_
          refine r_bipush 32 rfl cb_32 ?_
          refine r_lshl rfl ?_
          refine r_aload_n (t := x0) 0 rfl rfl rfl ?_
          refine r_iload rfl rfl ?_
          refine r_iconst 4 rfl ci_4 ?_
          refine r_iadd rfl ?_
          obtain ⟨hi24, hE⟩ := ckE hE
          refine r_sld rfl ha2 hk20 hi24 ?_
          refine r_i2l rfl ?_
          refine r_ldc2 rfl kc_L_45 ?_
          refine r_land rfl ?_
          refine r_lor rfl ?_
          refine r_aload_n (t := x0) 0 rfl rfl rfl ?_
          refine r_iload rfl rfl ?_
          refine r_iconst 5 rfl ci_5 ?_
          refine r_iadd rfl ?_
          obtain ⟨hi25, hE⟩ := ckE hE
          refine r_sld rfl ha2 hk20 hi25 ?_
          refine r_i2l rfl ?_
          refine r_bipush 32 rfl cb_32 ?_
          refine r_lshl rfl ?_
          refine r_aload_n (t := x0) 0 rfl rfl rfl ?_
          refine r_iload rfl rfl ?_
          refine r_bipush 6 rfl cb_6 ?_
          refine r_iadd rfl ?_
          obtain ⟨hi26, hE⟩ := ckE hE
          refine r_sld rfl ha2 hk20 hi26 ?_
          refine r_i2l rfl ?_
          refine r_ldc2 rfl kc_L_45 ?_
          refine r_land rfl ?_
          refine r_lor rfl ?_
          obtain ⟨a_27, ha28, hE⟩ := bnE hE
          obtain ⟨hk29, hE⟩ := ckE hE
          obtain ⟨v30, h31, hq32, hE⟩ := bdE hE
          refine r_callV1 (rest := [.int v17]) (hc := (Mo_feed_ok g N _ _ _ _ _ _ _ hq32 D2 (by omega))) rfl pm_Mo_feed lw_L_51 im_Mo_feed sl_Mo_feed ha28 rfl rfl (rcOK hk29 rfl) (by simp only [List.map_cons, List.map_nil, rf_cat, cat_i, cat_l, List.sum_cons, List.sum_nil]; decide) ?_
          refine r_icmp_eq (tgt := 1441) rfl (by decide) (fun hc33 => ?_) (fun hc33 => ?_)
          · have hE := ifP hc33 hE
            first | exact r_sb (La_law_b1441_ok g hst N _ hD _ ih  _ _ _ _ _ _ _ _ hE) ⟨rfl, rfl, rfl, rfl, rfl, trivial⟩ | exact r_sb (La_law_b1441_ok g hst N _ hD _ ih  _ _ _ _ _ _ _ _ hE) (by simp only [su1, su2, dr1_rf, dr1_in, dr1_lo, dr2_rf, dr2_in, dr2_lo]; exact ⟨rfl, rfl, rfl, rfl, rfl, trivial⟩)
          · have hE := ifN hc33 hE
            refine r_iconst 0 rfl ci_0 ?_
            cases hE
            exact r_ret rfl (Or.inl ⟨rfl, _, _, rfl, rfl, rfl, rfl⟩)
        have hE := ifN hx7 hE
        rcases Decidable.em (((hI h a_1 (ix x4)) &&& 31) = 1) with hx34 | hx34
        · have hE := ifP hx34 hE
          refine r_tabIn (tgt := 331) 1 rfl hc6 (by rw [hx34]; decide +kernel) rfl (by decide) ?_
          refine r_aload_n (t := x1) 1 rfl rfl rfl ?_
          obtain ⟨a_35, ha36, hE⟩ := bnE hE
          obtain ⟨hk37, hE⟩ := ckE hE
          obtain ⟨v38, h39, hq40, hE⟩ := bdE hE
          refine r_callV1 (rest := []) (hc := (Le_house_ok g N _ _ _ _ hq40 D2 (by omega))) rfl pm_Le_house lw_L_52 im_Le_house sl_Le_house ha36 rfl rfl (rcOK hk37 rfl) (by decide) ?_
          refine r_aload_n (t := x2) 2 rfl rfl rfl ?_
          obtain ⟨a_41, ha42, hE⟩ := bnE hE
          obtain ⟨hk43, hE⟩ := ckE hE
          obtain ⟨v44, h45, hq46, hE⟩ := bdE hE
          refine r_callV1 (rest := [.int v38]) (hc := (Mo_house_ok g N _ _ _ _ hq46 D2 (by omega))) rfl pm_Mo_house lw_L_55 im_Mo_house sl_Mo_house ha42 rfl rfl (rcOK hk43 rfl) (by simp only [List.map_cons, List.map_nil, rf_cat, cat_i, cat_l, List.sum_cons, List.sum_nil]; decide) ?_
          refine r_icmp_eq (tgt := 1441) rfl (by decide) (fun hc47 => ?_) (fun hc47 => ?_)
          · have hE := ifP hc47 hE
            first | exact r_sb (La_law_b1441_ok g hst N _ hD _ ih  _ _ _ _ _ _ _ _ hE) ⟨rfl, rfl, rfl, rfl, rfl, trivial⟩ | exact r_sb (La_law_b1441_ok g hst N _ hD _ ih  _ _ _ _ _ _ _ _ hE) (by simp only [su1, su2, dr1_rf, dr1_in, dr1_lo, dr2_rf, dr2_in, dr2_lo]; exact ⟨rfl, rfl, rfl, rfl, rfl, trivial⟩)
          · have hE := ifN hc47 hE
            refine r_iconst 0 rfl ci_0 ?_
            cases hE
            exact r_ret rfl (Or.inl ⟨rfl, _, _, rfl, rfl, rfl, rfl⟩)
        have hE := ifN hx34 hE
        rcases Decidable.em (((hI h a_1 (ix x4)) &&& 31) = 2) with hx48 | hx48
        · have hE := ifP hx48 hE
          refine r_tabIn (tgt := 344) 2 rfl hc6 (by rw [hx48]; decide +kernel) rfl (by decide) ?_
          refine r_aload_n (t := x1) 1 rfl rfl rfl ?_
          obtain ⟨a_49, ha50, hE⟩ := bnE hE
          obtain ⟨hk51, hE⟩ := ckE hE
          obtain ⟨v52, h53, hq54, hE⟩ := bdE hE
          refine r_callV1 (rest := []) (hc := (Le_evening_ok g N _ _ _ _ hq54 D2 (by omega))) rfl pm_Le_evening lw_L_56 im_Le_evening sl_Le_evening ha50 rfl rfl (rcOK hk51 rfl) (by decide) ?_
          refine r_aload_n (t := x2) 2 rfl rfl rfl ?_
          obtain ⟨a_55, ha56, hE⟩ := bnE hE
          obtain ⟨hk57, hE⟩ := ckE hE
          obtain ⟨v58, h59, hq60, hE⟩ := bdE hE
          refine r_callV1 (rest := [.int v52]) (hc := (Mo_evening_ok g N _ _ _ _ hq60 D2 (by omega))) rfl pm_Mo_evening lw_L_59 im_Mo_evening sl_Mo_evening ha56 rfl rfl (rcOK hk57 rfl) (by simp only [List.map_cons, List.map_nil, rf_cat, cat_i, cat_l, List.sum_cons, List.sum_nil]; decide) ?_
          refine r_icmp_eq (tgt := 1441) rfl (by decide) (fun hc61 => ?_) (fun hc61 => ?_)
          · have hE := ifP hc61 hE
            first | exact r_sb (La_law_b1441_ok g hst N _ hD _ ih  _ _ _ _ _ _ _ _ hE) ⟨rfl, rfl, rfl, rfl, rfl, trivial⟩ | exact r_sb (La_law_b1441_ok g hst N _ hD _ ih  _ _ _ _ _ _ _ _ hE) (by simp only [su1, su2, dr1_rf, dr1_in, dr1_lo, dr2_rf, dr2_in, dr2_lo]; exact ⟨rfl, rfl, rfl, rfl, rfl, trivial⟩)
          · have hE := ifN hc61 hE
            refine r_iconst 0 rfl ci_0 ?_
            cases hE
            exact r_ret rfl (Or.inl ⟨rfl, _, _, rfl, rfl, rfl, rfl⟩)
        have hE := ifN hx48 hE
        rcases Decidable.em (((hI h a_1 (ix x4)) &&& 31) = 3) with hx62 | hx62
        · have hE := ifP hx62 hE
          refine r_tabIn (tgt := 357) 3 rfl hc6 (by rw [hx62]; decide +kernel) rfl (by decide) ?_
          refine r_aload_n (t := x1) 1 rfl rfl rfl ?_
          refine r_aload_n (t := x0) 0 rfl rfl rfl ?_
          refine r_iload rfl rfl ?_
          refine r_iconst 1 rfl ci_1 ?_
          refine r_iadd rfl ?_
          obtain ⟨hi63, hE⟩ := ckE hE
          refine r_sld rfl ha2 hk3 hi63 ?_
          refine r_aload_n (t := x0) 0 rfl rfl rfl ?_
          refine r_iload rfl rfl ?_
          refine r_iconst 2 rfl ci_2 ?_
          refine r_iadd rfl ?_
          obtain ⟨hi64, hE⟩ := ckE hE
          refine r_sld rfl ha2 hk3 hi64 ?_
          obtain ⟨a_65, ha66, hE⟩ := bnE hE
          obtain ⟨hk67, hE⟩ := ckE hE
          obtain ⟨v68, h69, hq70, hE⟩ := bdE hE
          refine r_callV1 (rest := []) (hc := (Le_calls_ok g N _ _ _ _ _ _ hq70 D2 (by omega))) rfl pm_Le_calls lw_L_60 im_Le_calls sl_Le_calls ha66 rfl rfl (rcOK hk67 rfl) (by decide) ?_
          refine r_aload_n (t := x2) 2 rfl rfl rfl ?_
          refine r_aload_n (t := x0) 0 rfl rfl rfl ?_
          refine r_iload rfl rfl ?_
          refine r_iconst 1 rfl ci_1 ?_
          refine r_iadd rfl ?_
          obtain ⟨hk71, hE⟩ := ckE hE
          obtain ⟨hi72, hE⟩ := ckE hE
          refine r_sld rfl ha2 hk71 hi72 ?_
          refine r_aload_n (t := x0) 0 rfl rfl rfl ?_
          refine r_iload rfl rfl ?_
          refine r_iconst 2 rfl ci_2 ?_
          refine r_iadd rfl ?_
          obtain ⟨hi73, hE⟩ := ckE hE
          refine r_sld rfl ha2 hk71 hi73 ?_
          obtain ⟨a_74, ha75, hE⟩ := bnE hE
          obtain ⟨hk76, hE⟩ := ckE hE
          obtain ⟨v77, h78, hq79, hE⟩ := bdE hE
          refine r_callV1 (rest := [.int v68]) (hc := (Mo_calls_ok g N _ _ _ _ _ _ hq79 D2 (by omega))) rfl pm_Mo_calls lw_L_64 im_Mo_calls sl_Mo_calls ha75 rfl rfl (rcOK hk76 rfl) (by simp only [List.map_cons, List.map_nil, rf_cat, cat_i, cat_l, List.sum_cons, List.sum_nil]; decide) ?_
          refine r_icmp_eq (tgt := 1441) rfl (by decide) (fun hc80 => ?_) (fun hc80 => ?_)
          · have hE := ifP hc80 hE
            first | exact r_sb (La_law_b1441_ok g hst N _ hD _ ih  _ _ _ _ _ _ _ _ hE) ⟨rfl, rfl, rfl, rfl, rfl, trivial⟩ | exact r_sb (La_law_b1441_ok g hst N _ hD _ ih  _ _ _ _ _ _ _ _ hE) (by simp only [su1, su2, dr1_rf, dr1_in, dr1_lo, dr2_rf, dr2_in, dr2_lo]; exact ⟨rfl, rfl, rfl, rfl, rfl, trivial⟩)
          · have hE := ifN hc80 hE
            refine r_iconst 0 rfl ci_0 ?_
            cases hE
            exact r_ret rfl (Or.inl ⟨rfl, _, _, rfl, rfl, rfl, rfl⟩)
        have hE := ifN hx62 hE
        rcases Decidable.em (((hI h a_1 (ix x4)) &&& 31) = 4) with hx81 | hx81
        · have hE := ifP hx81 hE
          refine r_tabIn (tgt := 394) 4 rfl hc6 (by rw [hx81]; decide +kernel) rfl (by decide) ?_
          refine r_aload_n (t := x1) 1 rfl rfl rfl ?_
          refine r_aload_n (t := x0) 0 rfl rfl rfl ?_
          refine r_iload rfl rfl ?_
          refine r_iconst 1 rfl ci_1 ?_
          refine r_iadd rfl ?_
          obtain ⟨hi82, hE⟩ := ckE hE
          refine r_sld rfl ha2 hk3 hi82 ?_
          obtain ⟨a_83, ha84, hE⟩ := bnE hE
          obtain ⟨hk85, hE⟩ := ckE hE
          obtain ⟨v86, h87, hq88, hE⟩ := bdE hE
          refine r_callV1 (rest := []) (hc := (Le_come_ok g N _ _ _ _ _ hq88 D2 (by omega))) rfl pm_Le_come lw_L_65 im_Le_come sl_Le_come ha84 rfl rfl (rcOK hk85 rfl) (by decide) ?_
          refine r_aload_n (t := x2) 2 rfl rfl rfl ?_
          refine r_aload_n (t := x0) 0 rfl rfl rfl ?_
          refine r_iload rfl rfl ?_
          refine r_iconst 1 rfl ci_1 ?_
          refine r_iadd rfl ?_
          obtain ⟨hk89, hE⟩ := ckE hE
          obtain ⟨hi90, hE⟩ := ckE hE
          refine r_sld rfl ha2 hk89 hi90 ?_
          obtain ⟨a_91, ha92, hE⟩ := bnE hE
          obtain ⟨hk93, hE⟩ := ckE hE
          obtain ⟨v94, h95, hq96, hE⟩ := bdE hE
          refine r_callV1 (rest := [.int (bI v86)]) (hc := (Mo_come_ok g N _ _ _ _ _ hq96 D2 (by omega))) rfl pm_Mo_come lw_L_69 im_Mo_come sl_Mo_come ha92 rfl rfl (rcOK hk93 rfl) (by simp only [List.map_cons, List.map_nil, rf_cat, cat_i, cat_l, List.sum_cons, List.sum_nil]; decide) ?_
          refine r_icmp_eq (tgt := 1441) rfl (by decide) (fun hc97 => ?_) (fun hc97 => ?_)
          · have hE := ifP hc97 hE
            first | exact r_sb (La_law_b1441_ok g hst N _ hD _ ih  _ _ _ _ _ _ _ _ hE) ⟨rfl, rfl, rfl, rfl, rfl, trivial⟩ | exact r_sb (La_law_b1441_ok g hst N _ hD _ ih  _ _ _ _ _ _ _ _ hE) (by simp only [su1, su2, dr1_rf, dr1_in, dr1_lo, dr2_rf, dr2_in, dr2_lo]; exact ⟨rfl, rfl, rfl, rfl, rfl, trivial⟩)
          · have hE := ifN hc97 hE
            refine r_iconst 0 rfl ci_0 ?_
            cases hE
            exact r_ret rfl (Or.inl ⟨rfl, _, _, rfl, rfl, rfl, rfl⟩)
        have hE := ifN hx81 hE
        rcases Decidable.em (((hI h a_1 (ix x4)) &&& 31) = 5) with hx98 | hx98
        · have hE := ifP hx98 hE
          refine r_tabIn (tgt := 419) 5 rfl hc6 (by rw [hx98]; decide +kernel) rfl (by decide) ?_
          refine r_aload_n (t := x1) 1 rfl rfl rfl ?_
          refine r_aload_n (t := x0) 0 rfl rfl rfl ?_
          refine r_iload rfl rfl ?_
          refine r_iconst 1 rfl ci_1 ?_
          refine r_iadd rfl ?_
          obtain ⟨hi99, hE⟩ := ckE hE
          refine r_sld rfl ha2 hk3 hi99 ?_
          refine r_aload_n (t := x3) 3 rfl rfl rfl ?_
          obtain ⟨v100, h101, hq102, hE⟩ := bdE hE
          refine r_callSW1 (rest := []) (hc := (La_give_ok g hst N _ _ _ _ _ _ hq102 D2 (by omega))) rfl pm_La_give lw_L_70 st_La_give rfl rfl (by decide) ?_
          refine r_istore rfl (by decide) ?_
          refine r_aload_n (t := x2) 2 rfl rfl rfl ?_
          refine r_aload_n (t := x0) 0 rfl rfl rfl ?_
          refine r_iload rfl rfl ?_
          refine r_iconst 1 rfl ci_1 ?_
          refine r_iadd rfl ?_
          obtain ⟨hk103, hE⟩ := ckE hE
          obtain ⟨hi104, hE⟩ := ckE hE
          refine r_sld rfl ha2 hk103 hi104 ?_
          obtain ⟨a_105, ha106, hE⟩ := bnE hE
          obtain ⟨hk107, hE⟩ := ckE hE
          obtain ⟨v108, h109, hq110, hE⟩ := bdE hE
          refine r_callV1 (rest := []) (hc := (Mo_give_ok g N _ _ _ _ _ hq110 D2 (by omega))) rfl pm_Mo_give lw_L_75 im_Mo_give sl_Mo_give ha106 rfl rfl (rcOK hk107 rfl) (by decide) ?_
          refine r_istore rfl (by decide) ?_
          refine r_aload_n (t := x2) 2 rfl rfl rfl ?_
          obtain ⟨hk111, hE⟩ := ckE hE
          obtain ⟨v112, h113, hq114, hE⟩ := bdE hE
          refine r_callV1 (rest := []) (hc := (Mo_thrown_ok g N _ _ _ _ hq114 D2 (by omega))) rfl pm_Mo_thrown lw_L_76 im_Mo_thrown sl_Mo_thrown ha106 rfl rfl (rcOK hk111 rfl) (by decide) ?_
          refine r_iload rfl rfl ?_
          refine r_icmp_eq (tgt := 455) rfl (by decide) (fun hc115 => ?_) (fun hc115 => ?_)
          · have hE := ifP hc115 hE
            refine r_iload rfl rfl ?_
            refine r_if_ne (tgt := 472) rfl (by decide) (fun hc116 => ?_) (fun hc116 => ?_)
            · have hE := ifP hc116 hE
              refine r_aload_n (t := x3) 3 rfl rfl rfl ?_
              refine r_iconst 0 rfl ci_0 ?_
              obtain ⟨a_117, ha118, hE⟩ := bnE hE
              obtain ⟨hk119, hE⟩ := ckE hE
              obtain ⟨hi120, hE⟩ := ckE hE
              refine r_lald rfl ha118 hk119 hi120 ?_
              refine r_iload rfl rfl ?_
              refine r_i2l rfl ?_
              refine r_lcmp rfl ?_
              refine r_if_eq (tgt := 472) rfl (by decide) (fun hc121 => ?_) (fun hc121 => ?_)
              · have hE := ifP hc121 hE
                first | exact r_sb (La_law_b472_ok g hst N _ hD _ ih  _ _ _ _ _ _ _ _ hE) ⟨rfl, rfl, rfl, rfl, rfl, trivial⟩ | exact r_sb (La_law_b472_ok g hst N _ hD _ ih  _ _ _ _ _ _ _ _ hE) (by simp only [su1, su2, dr1_rf, dr1_in, dr1_lo, dr2_rf, dr2_in, dr2_lo]; exact ⟨rfl, rfl, rfl, rfl, rfl, trivial⟩)
              · have hE := ifN hc121 hE
                refine r_iconst 0 rfl ci_0 ?_
                cases hE
                exact r_ret rfl (Or.inl ⟨rfl, _, _, rfl, rfl, rfl, rfl⟩)
            · have hE := ifN hc116 hE
              first | exact r_sb (La_law_b472_ok g hst N _ hD _ ih  _ _ _ _ _ _ _ _ hE) ⟨rfl, rfl, rfl, rfl, rfl, trivial⟩ | exact r_sb (La_law_b472_ok g hst N _ hD _ ih  _ _ _ _ _ _ _ _ hE) (by simp only [su1, su2, dr1_rf, dr1_in, dr1_lo, dr2_rf, dr2_in, dr2_lo]; exact ⟨rfl, rfl, rfl, rfl, rfl, trivial⟩)
          · have hE := ifN hc115 hE
            refine r_iconst 0 rfl ci_0 ?_
            cases hE
            exact r_ret rfl (Or.inl ⟨rfl, _, _, rfl, rfl, rfl, rfl⟩)
        have hE := ifN hx98 hE
        rcases Decidable.em (((hI h a_1 (ix x4)) &&& 31) = 6) with hx122 | hx122
        · have hE := ifP hx122 hE
          refine r_tabIn (tgt := 475) 6 rfl hc6 (by rw [hx122]; decide +kernel) rfl (by decide) ?_
          refine r_aload_n (t := x1) 1 rfl rfl rfl ?_
          obtain ⟨a_123, ha124, hE⟩ := bnE hE
          obtain ⟨hk125, hE⟩ := ckE hE
          obtain ⟨v126, h127, hq128, hE⟩ := bdE hE
          refine r_callV1 (rest := []) (hc := (Le_quarter_ok g N _ _ _ _ hq128 D2 (by omega))) rfl pm_Le_quarter lw_L_79 im_Le_quarter sl_Le_quarter ha124 rfl rfl (rcOK hk125 rfl) (by decide) ?_
          refine r_aload_n (t := x2) 2 rfl rfl rfl ?_
          obtain ⟨a_129, ha130, hE⟩ := bnE hE
          obtain ⟨hk131, hE⟩ := ckE hE
          obtain ⟨v132, h133, hq134, hE⟩ := bdE hE
          refine r_callV1 (rest := [.int v126]) (hc := (Mo_quarter_ok g N _ _ _ _ hq134 D2 (by omega))) rfl pm_Mo_quarter lw_L_82 im_Mo_quarter sl_Mo_quarter ha130 rfl rfl (rcOK hk131 rfl) (by simp only [List.map_cons, List.map_nil, rf_cat, cat_i, cat_l, List.sum_cons, List.sum_nil]; decide) ?_
          refine r_icmp_eq (tgt := 1441) rfl (by decide) (fun hc135 => ?_) (fun hc135 => ?_)
          · have hE := ifP hc135 hE
            first | exact r_sb (La_law_b1441_ok g hst N _ hD _ ih  _ _ _ _ _ _ _ _ hE) ⟨rfl, rfl, rfl, rfl, rfl, trivial⟩ | exact r_sb (La_law_b1441_ok g hst N _ hD _ ih  _ _ _ _ _ _ _ _ hE) (by simp only [su1, su2, dr1_rf, dr1_in, dr1_lo, dr2_rf, dr2_in, dr2_lo]; exact ⟨rfl, rfl, rfl, rfl, rfl, trivial⟩)
          · have hE := ifN hc135 hE
            refine r_iconst 0 rfl ci_0 ?_
            cases hE
            exact r_ret rfl (Or.inl ⟨rfl, _, _, rfl, rfl, rfl, rfl⟩)
        have hE := ifN hx122 hE
        rcases Decidable.em (((hI h a_1 (ix x4)) &&& 31) = 7) with hx136 | hx136
        · have hE := ifP hx136 hE
          refine r_tabIn (tgt := 488) 7 rfl hc6 (by rw [hx136]; decide +kernel) rfl (by decide) ?_
          refine r_aload_n (t := x1) 1 rfl rfl rfl ?_
          obtain ⟨a_137, ha138, hE⟩ := bnE hE
          obtain ⟨hk139, hE⟩ := ckE hE
          obtain ⟨v140, h141, hq142, hE⟩ := bdE hE
          refine r_callV1 (rest := []) (hc := (Le_off_ok g N _ _ _ _ hq142 D2 (by omega))) rfl pm_Le_off lw_L_83 im_Le_off sl_Le_off ha138 rfl rfl (rcOK hk139 rfl) (by decide) ?_
          refine r_aload_n (t := x2) 2 rfl rfl rfl ?_
          obtain ⟨a_143, ha144, hE⟩ := bnE hE
          obtain ⟨hk145, hE⟩ := ckE hE
          obtain ⟨v146, h147, hq148, hE⟩ := bdE hE
          refine r_callV1 (rest := [.int (bI v140)]) (hc := (Mo_off_ok g N _ _ _ _ hq148 D2 (by omega))) rfl pm_Mo_off lw_L_87 im_Mo_off sl_Mo_off ha144 rfl rfl (rcOK hk145 rfl) (by simp only [List.map_cons, List.map_nil, rf_cat, cat_i, cat_l, List.sum_cons, List.sum_nil]; decide) ?_
          refine r_icmp_eq (tgt := 1441) rfl (by decide) (fun hc149 => ?_) (fun hc149 => ?_)
          · have hE := ifP hc149 hE
            first | exact r_sb (La_law_b1441_ok g hst N _ hD _ ih  _ _ _ _ _ _ _ _ hE) ⟨rfl, rfl, rfl, rfl, rfl, trivial⟩ | exact r_sb (La_law_b1441_ok g hst N _ hD _ ih  _ _ _ _ _ _ _ _ hE) (by simp only [su1, su2, dr1_rf, dr1_in, dr1_lo, dr2_rf, dr2_in, dr2_lo]; exact ⟨rfl, rfl, rfl, rfl, rfl, trivial⟩)
          · have hE := ifN hc149 hE
            refine r_iconst 0 rfl ci_0 ?_
            cases hE
            exact r_ret rfl (Or.inl ⟨rfl, _, _, rfl, rfl, rfl, rfl⟩)
        have hE := ifN hx136 hE
        rcases Decidable.em (((hI h a_1 (ix x4)) &&& 31) = 8) with hx150 | hx150
        · have hE := ifP hx150 hE
          refine r_tabIn (tgt := 501) 8 rfl hc6 (by rw [hx150]; decide +kernel) rfl (by decide) ?_
          refine r_aload_n (t := x1) 1 rfl rfl rfl ?_
          obtain ⟨a_151, ha152, hE⟩ := bnE hE
          obtain ⟨hk153, hE⟩ := ckE hE
          obtain ⟨v154, h155, hq156, hE⟩ := bdE hE
          refine r_callV1 (rest := []) (hc := (Le_undo_ok g N _ _ _ _ hq156 D2 (by omega))) rfl pm_Le_undo lw_L_88 im_Le_undo sl_Le_undo ha152 rfl rfl (rcOK hk153 rfl) (by decide) ?_
          refine r_aload_n (t := x2) 2 rfl rfl rfl ?_
          obtain ⟨a_157, ha158, hE⟩ := bnE hE
          obtain ⟨hk159, hE⟩ := ckE hE
          obtain ⟨v160, h161, hq162, hE⟩ := bdE hE
          refine r_callV1 (rest := [.int (bI v154)]) (hc := (Mo_undo_ok g N _ _ _ _ hq162 D2 (by omega))) rfl pm_Mo_undo lw_L_91 im_Mo_undo sl_Mo_undo ha158 rfl rfl (rcOK hk159 rfl) (by simp only [List.map_cons, List.map_nil, rf_cat, cat_i, cat_l, List.sum_cons, List.sum_nil]; decide) ?_
          refine r_icmp_eq (tgt := 1441) rfl (by decide) (fun hc163 => ?_) (fun hc163 => ?_)
          · have hE := ifP hc163 hE
            first | exact r_sb (La_law_b1441_ok g hst N _ hD _ ih  _ _ _ _ _ _ _ _ hE) ⟨rfl, rfl, rfl, rfl, rfl, trivial⟩ | exact r_sb (La_law_b1441_ok g hst N _ hD _ ih  _ _ _ _ _ _ _ _ hE) (by simp only [su1, su2, dr1_rf, dr1_in, dr1_lo, dr2_rf, dr2_in, dr2_lo]; exact ⟨rfl, rfl, rfl, rfl, rfl, trivial⟩)
          · have hE := ifN hc163 hE
            refine r_iconst 0 rfl ci_0 ?_
            cases hE
            exact r_ret rfl (Or.inl ⟨rfl, _, _, rfl, rfl, rfl, rfl⟩)
        have hE := ifN hx150 hE
        rcases Decidable.em (((hI h a_1 (ix x4)) &&& 31) = 9) with hx164 | hx164
        · have hE := ifP hx164 hE
          refine r_tabIn (tgt := 514) 9 rfl hc6 (by rw [hx164]; decide +kernel) rfl (by decide) ?_
          refine r_aload_n (t := x1) 1 rfl rfl rfl ?_
          refine r_aload_n (t := x0) 0 rfl rfl rfl ?_
          refine r_iload rfl rfl ?_
          refine r_iconst 1 rfl ci_1 ?_
          refine r_iadd rfl ?_
          obtain ⟨hi165, hE⟩ := ckE hE
          refine r_sld rfl ha2 hk3 hi165 ?_
          refine r_aload_n (t := x3) 3 rfl rfl rfl ?_
          obtain ⟨v166, h167, hq168, hE⟩ := bdE hE
          refine r_callSW1 (rest := []) (hc := (La_judged_ok g hst N _ _ _ _ _ _ hq168 D2 (by omega))) rfl pm_La_judged lw_L_92 st_La_judged rfl rfl (by decide) ?_
          refine r_istore rfl (by decide) ?_
          refine r_aload_n (t := x2) 2 rfl rfl rfl ?_
          refine r_aload_n (t := x0) 0 rfl rfl rfl ?_
          refine r_iload rfl rfl ?_
          refine r_iconst 1 rfl ci_1 ?_
          refine r_iadd rfl ?_
          obtain ⟨hk169, hE⟩ := ckE hE
          obtain ⟨hi170, hE⟩ := ckE hE
          refine r_sld rfl ha2 hk169 hi170 ?_
          obtain ⟨a_171, ha172, hE⟩ := bnE hE
          obtain ⟨hk173, hE⟩ := ckE hE
          obtain ⟨v174, h175, hq176, hE⟩ := bdE hE
          refine r_callV1 (rest := []) (hc := (Mo_judged_ok g N _ _ _ _ _ hq176 D2 (by omega))) rfl pm_Mo_judged lw_L_94 im_Mo_judged sl_Mo_judged ha172 rfl rfl (rcOK hk173 rfl) (by decide) ?_
          refine r_istore rfl (by decide) ?_
          refine r_aload_n (t := x2) 2 rfl rfl rfl ?_
          obtain ⟨hk177, hE⟩ := ckE hE
          obtain ⟨v178, h179, hq180, hE⟩ := bdE hE
          refine r_callV1 (rest := []) (hc := (Mo_thrown_ok g N _ _ _ _ hq180 D2 (by omega))) rfl pm_Mo_thrown lw_L_76 im_Mo_thrown sl_Mo_thrown ha172 rfl rfl (rcOK hk177 rfl) (by decide) ?_
          refine r_iload rfl rfl ?_
          refine r_icmp_eq (tgt := 550) rfl (by decide) (fun hc181 => ?_) (fun hc181 => ?_)
          · have hE := ifP hc181 hE
            refine r_iload rfl rfl ?_
            refine r_if_ne (tgt := 567) rfl (by decide) (fun hc182 => ?_) (fun hc182 => ?_)
            · have hE := ifP hc182 hE
              refine r_aload_n (t := x3) 3 rfl rfl rfl ?_
              refine r_iconst 0 rfl ci_0 ?_
              obtain ⟨a_183, ha184, hE⟩ := bnE hE
              obtain ⟨hk185, hE⟩ := ckE hE
              obtain ⟨hi186, hE⟩ := ckE hE
              refine r_lald rfl ha184 hk185 hi186 ?_
              refine r_iload rfl rfl ?_
              refine r_i2l rfl ?_
              refine r_lcmp rfl ?_
              refine r_if_eq (tgt := 567) rfl (by decide) (fun hc187 => ?_) (fun hc187 => ?_)
              · have hE := ifP hc187 hE
                first | exact r_sb (La_law_b567_ok g hst N _ hD _ ih  _ _ _ _ _ _ _ _ hE) ⟨rfl, rfl, rfl, rfl, rfl, trivial⟩ | exact r_sb (La_law_b567_ok g hst N _ hD _ ih  _ _ _ _ _ _ _ _ hE) (by simp only [su1, su2, dr1_rf, dr1_in, dr1_lo, dr2_rf, dr2_in, dr2_lo]; exact ⟨rfl, rfl, rfl, rfl, rfl, trivial⟩)
              · have hE := ifN hc187 hE
                refine r_iconst 0 rfl ci_0 ?_
                cases hE
                exact r_ret rfl (Or.inl ⟨rfl, _, _, rfl, rfl, rfl, rfl⟩)
            · have hE := ifN hc182 hE
              first | exact r_sb (La_law_b567_ok g hst N _ hD _ ih  _ _ _ _ _ _ _ _ hE) ⟨rfl, rfl, rfl, rfl, rfl, trivial⟩ | exact r_sb (La_law_b567_ok g hst N _ hD _ ih  _ _ _ _ _ _ _ _ hE) (by simp only [su1, su2, dr1_rf, dr1_in, dr1_lo, dr2_rf, dr2_in, dr2_lo]; exact ⟨rfl, rfl, rfl, rfl, rfl, trivial⟩)
          · have hE := ifN hc181 hE
            refine r_iconst 0 rfl ci_0 ?_
            cases hE
            exact r_ret rfl (Or.inl ⟨rfl, _, _, rfl, rfl, rfl, rfl⟩)
        have hE := ifN hx164 hE
        rcases Decidable.em (((hI h a_1 (ix x4)) &&& 31) = 10) with hx188 | hx188
        · have hE := ifP hx188 hE
          refine r_tabIn (tgt := 570) 10 rfl hc6 (by rw [hx188]; decide +kernel) rfl (by decide) ?_
          refine r_aload_n (t := x1) 1 rfl rfl rfl ?_
          refine r_aload_n (t := x0) 0 rfl rfl rfl ?_
          refine r_iload rfl rfl ?_
          refine r_iconst 1 rfl ci_1 ?_
          refine r_iadd rfl ?_
          obtain ⟨hi189, hE⟩ := ckE hE
          refine r_sld rfl ha2 hk3 hi189 ?_
          refine r_aload_n (t := x0) 0 rfl rfl rfl ?_
          refine r_iload rfl rfl ?_
          refine r_iconst 2 rfl ci_2 ?_
          refine r_iadd rfl ?_
          obtain ⟨hi190, hE⟩ := ckE hE
          refine r_sld rfl ha2 hk3 hi190 ?_
          refine r_aload_n (t := x0) 0 rfl rfl rfl ?_
          refine r_iload rfl rfl ?_
          refine r_iconst 3 rfl ci_3 ?_
          refine r_iadd rfl ?_
          obtain ⟨hi191, hE⟩ := ckE hE
          refine r_sld rfl ha2 hk3 hi191 ?_
          refine r_aload_n (t := x0) 0 rfl rfl rfl ?_
          refine r_iload rfl rfl ?_
          refine r_iconst 4 rfl ci_4 ?_
          refine r_iadd rfl ?_
          obtain ⟨hi192, hE⟩ := ckE hE
          refine r_sld rfl ha2 hk3 hi192 ?_
          refine r_if_eq (tgt := 602) rfl (by decide) (fun hc193 => ?_) (fun hc193 => ?_)
          · have hE := ifP hc193 hE
            refine r_iconst 0 rfl ci_0 ?_
            first | exact r_sb (La_law_b603_ok g hst N _ hD _ ih  _ _ _ _ _ _ _ _ _ _ _ _ _ hE) ⟨rfl, rfl, rfl, rfl, rfl, trivial⟩ | exact r_sb (La_law_b603_ok g hst N _ hD _ ih  _ _ _ _ _ _ _ _ _ _ _ _ _ hE) (by simp only [su1, su2, dr1_rf, dr1_in, dr1_lo, dr2_rf, dr2_in, dr2_lo]; exact ⟨rfl, rfl, rfl, rfl, rfl, trivial⟩)
          · have hE := ifN hc193 hE
            refine r_iconst 1 rfl ci_1 ?_
            refine r_goto (tgt := 603) rfl (by decide) ?_
            first | exact r_sb (La_law_b603_ok g hst N _ hD _ ih  _ _ _ _ _ _ _ _ _ _ _ _ _ hE) ⟨rfl, rfl, rfl, rfl, rfl, trivial⟩ | exact r_sb (La_law_b603_ok g hst N _ hD _ ih  _ _ _ _ _ _ _ _ _ _ _ _ _ hE) (by simp only [su1, su2, dr1_rf, dr1_in, dr1_lo, dr2_rf, dr2_in, dr2_lo]; exact ⟨rfl, rfl, rfl, rfl, rfl, trivial⟩)
        have hE := ifN hx188 hE
        rcases Decidable.em (((hI h a_1 (ix x4)) &&& 31) = 11) with hx194 | hx194
        · have hE := ifP hx194 hE
          refine r_tabIn (tgt := 678) 11 rfl hc6 (by rw [hx194]; decide +kernel) rfl (by decide) ?_
          refine r_aload_n (t := x1) 1 rfl rfl rfl ?_
          refine r_aload_n (t := x0) 0 rfl rfl rfl ?_
          refine r_iload rfl rfl ?_
          refine r_iconst 1 rfl ci_1 ?_
          refine r_iadd rfl ?_
          obtain ⟨hi195, hE⟩ := ckE hE
          refine r_sld rfl ha2 hk3 hi195 ?_
          obtain ⟨a_196, ha197, hE⟩ := bnE hE
          obtain ⟨hk198, hE⟩ := ckE hE
          obtain ⟨v199, h200, hq201, hE⟩ := bdE hE
          refine r_callV1 (rest := []) (hc := (Le_best_ok g N _ _ _ _ _ hq201 D2 (by omega))) rfl pm_Le_best lw_L_99 im_Le_best sl_Le_best ha197 rfl rfl (rcOK hk198 rfl) (by decide) ?_
          refine r_aload_n (t := x2) 2 rfl rfl rfl ?_
          refine r_aload_n (t := x0) 0 rfl rfl rfl ?_
          refine r_iload rfl rfl ?_
          refine r_iconst 1 rfl ci_1 ?_
          refine r_iadd rfl ?_
          obtain ⟨hk202, hE⟩ := ckE hE
          obtain ⟨hi203, hE⟩ := ckE hE
          refine r_sld rfl ha2 hk202 hi203 ?_
          obtain ⟨a_204, ha205, hE⟩ := bnE hE
          obtain ⟨hk206, hE⟩ := ckE hE
          obtain ⟨v207, h208, hq209, hE⟩ := bdE hE
          refine r_callV1 (rest := [.int v199]) (hc := (Mo_best_ok g N _ _ _ _ _ hq209 D2 (by omega))) rfl pm_Mo_best lw_L_102 im_Mo_best sl_Mo_best ha205 rfl rfl (rcOK hk206 rfl) (by simp only [List.map_cons, List.map_nil, rf_cat, cat_i, cat_l, List.sum_cons, List.sum_nil]; decide) ?_
          refine r_icmp_eq (tgt := 1441) rfl (by decide) (fun hc210 => ?_) (fun hc210 => ?_)
          · have hE := ifP hc210 hE
            first | exact r_sb (La_law_b1441_ok g hst N _ hD _ ih  _ _ _ _ _ _ _ _ hE) ⟨rfl, rfl, rfl, rfl, rfl, trivial⟩ | exact r_sb (La_law_b1441_ok g hst N _ hD _ ih  _ _ _ _ _ _ _ _ hE) (by simp only [su1, su2, dr1_rf, dr1_in, dr1_lo, dr2_rf, dr2_in, dr2_lo]; exact ⟨rfl, rfl, rfl, rfl, rfl, trivial⟩)
          · have hE := ifN hc210 hE
            refine r_iconst 0 rfl ci_0 ?_
            cases hE
            exact r_ret rfl (Or.inl ⟨rfl, _, _, rfl, rfl, rfl, rfl⟩)
        have hE := ifN hx194 hE
        rcases Decidable.em (((hI h a_1 (ix x4)) &&& 31) = 12) with hx211 | hx211
        · have hE := ifP hx211 hE
          refine r_tabIn (tgt := 703) 12 rfl hc6 (by rw [hx211]; decide +kernel) rfl (by decide) ?_
          refine r_aload_n (t := x1) 1 rfl rfl rfl ?_
          refine r_aload_n (t := x0) 0 rfl rfl rfl ?_
          refine r_iload rfl rfl ?_
          refine r_iconst 1 rfl ci_1 ?_
          refine r_iadd rfl ?_
          obtain ⟨hi212, hE⟩ := ckE hE
          refine r_sld rfl ha2 hk3 hi212 ?_
          refine r_aload_n (t := x3) 3 rfl rfl rfl ?_
          obtain ⟨v213, h214, hq215, hE⟩ := bdE hE
          refine r_callSW1 (rest := []) (hc := (La_may_ok g hst N _ _ _ _ _ _ hq215 D2 (by omega))) rfl pm_La_may lw_L_103 st_La_may rfl rfl (by decide) ?_
          refine r_istore rfl (by decide) ?_
          refine r_aload_n (t := x2) 2 rfl rfl rfl ?_
          refine r_aload_n (t := x0) 0 rfl rfl rfl ?_
          refine r_iload rfl rfl ?_
          refine r_iconst 1 rfl ci_1 ?_
          refine r_iadd rfl ?_
          obtain ⟨hk216, hE⟩ := ckE hE
          obtain ⟨hi217, hE⟩ := ckE hE
          refine r_sld rfl ha2 hk216 hi217 ?_
          obtain ⟨a_218, ha219, hE⟩ := bnE hE
          obtain ⟨hk220, hE⟩ := ckE hE
          obtain ⟨v221, h222, hq223, hE⟩ := bdE hE
          refine r_callV1 (rest := []) (hc := (Mo_may_ok g N _ _ _ _ _ hq223 D2 (by omega))) rfl pm_Mo_may lw_L_105 im_Mo_may sl_Mo_may ha219 rfl rfl (rcOK hk220 rfl) (by decide) ?_
          refine r_istore rfl (by decide) ?_
          refine r_aload_n (t := x2) 2 rfl rfl rfl ?_
          obtain ⟨hk224, hE⟩ := ckE hE
          obtain ⟨v225, h226, hq227, hE⟩ := bdE hE
          refine r_callV1 (rest := []) (hc := (Mo_thrown_ok g N _ _ _ _ hq227 D2 (by omega))) rfl pm_Mo_thrown lw_L_76 im_Mo_thrown sl_Mo_thrown ha219 rfl rfl (rcOK hk224 rfl) (by decide) ?_
          refine r_iload rfl rfl ?_
          refine r_icmp_eq (tgt := 739) rfl (by decide) (fun hc228 => ?_) (fun hc228 => ?_)
          · have hE := ifP hc228 hE
            refine r_iload rfl rfl ?_
            refine r_if_ne (tgt := 756) rfl (by decide) (fun hc229 => ?_) (fun hc229 => ?_)
            · have hE := ifP hc229 hE
              refine r_aload_n (t := x3) 3 rfl rfl rfl ?_
              refine r_iconst 0 rfl ci_0 ?_
              obtain ⟨a_230, ha231, hE⟩ := bnE hE
              obtain ⟨hk232, hE⟩ := ckE hE
              obtain ⟨hi233, hE⟩ := ckE hE
              refine r_lald rfl ha231 hk232 hi233 ?_
              refine r_iload rfl rfl ?_
              refine r_i2l rfl ?_
              refine r_lcmp rfl ?_
              refine r_if_eq (tgt := 756) rfl (by decide) (fun hc234 => ?_) (fun hc234 => ?_)
              · have hE := ifP hc234 hE
                first | exact r_sb (La_law_b756_ok g hst N _ hD _ ih  _ _ _ _ _ _ _ _ hE) ⟨rfl, rfl, rfl, rfl, rfl, trivial⟩ | exact r_sb (La_law_b756_ok g hst N _ hD _ ih  _ _ _ _ _ _ _ _ hE) (by simp only [su1, su2, dr1_rf, dr1_in, dr1_lo, dr2_rf, dr2_in, dr2_lo]; exact ⟨rfl, rfl, rfl, rfl, rfl, trivial⟩)
              · have hE := ifN hc234 hE
                refine r_iconst 0 rfl ci_0 ?_
                cases hE
                exact r_ret rfl (Or.inl ⟨rfl, _, _, rfl, rfl, rfl, rfl⟩)
            · have hE := ifN hc229 hE
              first | exact r_sb (La_law_b756_ok g hst N _ hD _ ih  _ _ _ _ _ _ _ _ hE) ⟨rfl, rfl, rfl, rfl, rfl, trivial⟩ | exact r_sb (La_law_b756_ok g hst N _ hD _ ih  _ _ _ _ _ _ _ _ hE) (by simp only [su1, su2, dr1_rf, dr1_in, dr1_lo, dr2_rf, dr2_in, dr2_lo]; exact ⟨rfl, rfl, rfl, rfl, rfl, trivial⟩)
          · have hE := ifN hc228 hE
            refine r_iconst 0 rfl ci_0 ?_
            cases hE
            exact r_ret rfl (Or.inl ⟨rfl, _, _, rfl, rfl, rfl, rfl⟩)
        have hE := ifN hx211 hE
        rcases Decidable.em (((hI h a_1 (ix x4)) &&& 31) = 13) with hx235 | hx235
        · have hE := ifP hx235 hE
          refine r_tabIn (tgt := 759) 13 rfl hc6 (by rw [hx235]; decide +kernel) rfl (by decide) ?_
          refine r_aload_n (t := x1) 1 rfl rfl rfl ?_
          obtain ⟨a_236, ha237, hE⟩ := bnE hE
          obtain ⟨hk238, hE⟩ := ckE hE
          obtain ⟨v239, h240, hq241, hE⟩ := bdE hE
          refine r_callV1 (rest := []) (hc := (Le_stay_ok g N _ _ _ _ hq241 D2 (by omega))) rfl pm_Le_stay lw_L_106 im_Le_stay sl_Le_stay ha237 rfl rfl (rcOK hk238 rfl) (by decide) ?_
          refine r_aload_n (t := x2) 2 rfl rfl rfl ?_
          obtain ⟨a_242, ha243, hE⟩ := bnE hE
          obtain ⟨hk244, hE⟩ := ckE hE
          obtain ⟨v245, h246, hq247, hE⟩ := bdE hE
          refine r_callV1 (rest := [.int v239]) (hc := (Mo_stay_ok g N _ _ _ _ hq247 D2 (by omega))) rfl pm_Mo_stay lw_L_109 im_Mo_stay sl_Mo_stay ha243 rfl rfl (rcOK hk244 rfl) (by simp only [List.map_cons, List.map_nil, rf_cat, cat_i, cat_l, List.sum_cons, List.sum_nil]; decide) ?_
          refine r_icmp_eq (tgt := 1441) rfl (by decide) (fun hc248 => ?_) (fun hc248 => ?_)
          · have hE := ifP hc248 hE
            first | exact r_sb (La_law_b1441_ok g hst N _ hD _ ih  _ _ _ _ _ _ _ _ hE) ⟨rfl, rfl, rfl, rfl, rfl, trivial⟩ | exact r_sb (La_law_b1441_ok g hst N _ hD _ ih  _ _ _ _ _ _ _ _ hE) (by simp only [su1, su2, dr1_rf, dr1_in, dr1_lo, dr2_rf, dr2_in, dr2_lo]; exact ⟨rfl, rfl, rfl, rfl, rfl, trivial⟩)
          · have hE := ifN hc248 hE
            refine r_iconst 0 rfl ci_0 ?_
            cases hE
            exact r_ret rfl (Or.inl ⟨rfl, _, _, rfl, rfl, rfl, rfl⟩)
        have hE := ifN hx235 hE
        rcases Decidable.em (((hI h a_1 (ix x4)) &&& 31) = 14) with hx249 | hx249
        · have hE := ifP hx249 hE
          refine r_tabIn (tgt := 772) 14 rfl hc6 (by rw [hx249]; decide +kernel) rfl (by decide) ?_
          refine r_aload_n (t := x1) 1 rfl rfl rfl ?_
          refine r_aload_n (t := x0) 0 rfl rfl rfl ?_
          refine r_iload rfl rfl ?_
          refine r_iconst 1 rfl ci_1 ?_
          refine r_iadd rfl ?_
          obtain ⟨hi250, hE⟩ := ckE hE
          refine r_sld rfl ha2 hk3 hi250 ?_
          refine r_aload_n (t := x3) 3 rfl rfl rfl ?_
          obtain ⟨v251, h252, hq253, hE⟩ := bdE hE
          refine r_callSW1 (rest := []) (hc := (La_mean_ok g hst N _ _ _ _ _ _ hq253 D2 (by omega))) rfl pm_La_mean lw_L_110 st_La_mean rfl rfl (by decide) ?_
          refine r_istore rfl (by decide) ?_
          refine r_aload_n (t := x2) 2 rfl rfl rfl ?_
          refine r_aload_n (t := x0) 0 rfl rfl rfl ?_
          refine r_iload rfl rfl ?_
          refine r_iconst 1 rfl ci_1 ?_
          refine r_iadd rfl ?_
          obtain ⟨hk254, hE⟩ := ckE hE
          obtain ⟨hi255, hE⟩ := ckE hE
          refine r_sld rfl ha2 hk254 hi255 ?_
          obtain ⟨a_256, ha257, hE⟩ := bnE hE
          obtain ⟨hk258, hE⟩ := ckE hE
          obtain ⟨v259, h260, hq261, hE⟩ := bdE hE
          refine r_callV1 (rest := []) (hc := (Mo_mean_ok g N _ _ _ _ _ hq261 D2 (by omega))) rfl pm_Mo_mean lw_L_112 im_Mo_mean sl_Mo_mean ha257 rfl rfl (rcOK hk258 rfl) (by decide) ?_
          refine r_istore rfl (by decide) ?_
          refine r_aload_n (t := x2) 2 rfl rfl rfl ?_
          obtain ⟨hk262, hE⟩ := ckE hE
          obtain ⟨v263, h264, hq265, hE⟩ := bdE hE
          refine r_callV1 (rest := []) (hc := (Mo_thrown_ok g N _ _ _ _ hq265 D2 (by omega))) rfl pm_Mo_thrown lw_L_76 im_Mo_thrown sl_Mo_thrown ha257 rfl rfl (rcOK hk262 rfl) (by decide) ?_
          refine r_iload rfl rfl ?_
          refine r_icmp_eq (tgt := 808) rfl (by decide) (fun hc266 => ?_) (fun hc266 => ?_)
          · have hE := ifP hc266 hE
            refine r_iload rfl rfl ?_
            refine r_if_ne (tgt := 825) rfl (by decide) (fun hc267 => ?_) (fun hc267 => ?_)
            · have hE := ifP hc267 hE
              refine r_aload_n (t := x3) 3 rfl rfl rfl ?_
              refine r_iconst 0 rfl ci_0 ?_
              obtain ⟨a_268, ha269, hE⟩ := bnE hE
              obtain ⟨hk270, hE⟩ := ckE hE
              obtain ⟨hi271, hE⟩ := ckE hE
              refine r_lald rfl ha269 hk270 hi271 ?_
              refine r_iload rfl rfl ?_
              refine r_i2l rfl ?_
              refine r_lcmp rfl ?_
              refine r_if_eq (tgt := 825) rfl (by decide) (fun hc272 => ?_) (fun hc272 => ?_)
              · have hE := ifP hc272 hE
                first | exact r_sb (La_law_b825_ok g hst N _ hD _ ih  _ _ _ _ _ _ _ _ hE) ⟨rfl, rfl, rfl, rfl, rfl, trivial⟩ | exact r_sb (La_law_b825_ok g hst N _ hD _ ih  _ _ _ _ _ _ _ _ hE) (by simp only [su1, su2, dr1_rf, dr1_in, dr1_lo, dr2_rf, dr2_in, dr2_lo]; exact ⟨rfl, rfl, rfl, rfl, rfl, trivial⟩)
              · have hE := ifN hc272 hE
                refine r_iconst 0 rfl ci_0 ?_
                cases hE
                exact r_ret rfl (Or.inl ⟨rfl, _, _, rfl, rfl, rfl, rfl⟩)
            · have hE := ifN hc267 hE
              first | exact r_sb (La_law_b825_ok g hst N _ hD _ ih  _ _ _ _ _ _ _ _ hE) ⟨rfl, rfl, rfl, rfl, rfl, trivial⟩ | exact r_sb (La_law_b825_ok g hst N _ hD _ ih  _ _ _ _ _ _ _ _ hE) (by simp only [su1, su2, dr1_rf, dr1_in, dr1_lo, dr2_rf, dr2_in, dr2_lo]; exact ⟨rfl, rfl, rfl, rfl, rfl, trivial⟩)
          · have hE := ifN hc266 hE
            refine r_iconst 0 rfl ci_0 ?_
            cases hE
            exact r_ret rfl (Or.inl ⟨rfl, _, _, rfl, rfl, rfl, rfl⟩)
        have hE := ifN hx249 hE
        rcases Decidable.em (((hI h a_1 (ix x4)) &&& 31) = 15) with hx273 | hx273
        · have hE := ifP hx273 hE
          refine r_tabIn (tgt := 828) 15 rfl hc6 (by rw [hx273]; decide +kernel) rfl (by decide) ?_
          refine r_aload_n (t := x1) 1 rfl rfl rfl ?_
          refine r_aload_n (t := x0) 0 rfl rfl rfl ?_
          refine r_iload rfl rfl ?_
          refine r_iconst 1 rfl ci_1 ?_
          refine r_iadd rfl ?_
          obtain ⟨hi274, hE⟩ := ckE hE
          refine r_sld rfl ha2 hk3 hi274 ?_
          refine r_aload_n (t := x3) 3 rfl rfl rfl ?_
          obtain ⟨v275, h276, hq277, hE⟩ := bdE hE
          refine r_callSW1 (rest := []) (hc := (La_left_ok g hst N _ _ _ _ _ _ hq277 D2 (by omega))) rfl pm_La_left lw_L_113 st_La_left rfl rfl (by decide) ?_
          refine r_istore rfl (by decide) ?_
          refine r_aload_n (t := x2) 2 rfl rfl rfl ?_
          refine r_aload_n (t := x0) 0 rfl rfl rfl ?_
          refine r_iload rfl rfl ?_
          refine r_iconst 1 rfl ci_1 ?_
          refine r_iadd rfl ?_
          obtain ⟨hk278, hE⟩ := ckE hE
          obtain ⟨hi279, hE⟩ := ckE hE
          refine r_sld rfl ha2 hk278 hi279 ?_
          obtain ⟨a_280, ha281, hE⟩ := bnE hE
          obtain ⟨hk282, hE⟩ := ckE hE
          obtain ⟨v283, h284, hq285, hE⟩ := bdE hE
          refine r_callV1 (rest := []) (hc := (Mo_left_ok g N _ _ _ _ _ hq285 D2 (by omega))) rfl pm_Mo_left lw_L_115 im_Mo_left sl_Mo_left ha281 rfl rfl (rcOK hk282 rfl) (by decide) ?_
          refine r_istore rfl (by decide) ?_
          refine r_aload_n (t := x2) 2 rfl rfl rfl ?_
          obtain ⟨hk286, hE⟩ := ckE hE
          obtain ⟨v287, h288, hq289, hE⟩ := bdE hE
          refine r_callV1 (rest := []) (hc := (Mo_thrown_ok g N _ _ _ _ hq289 D2 (by omega))) rfl pm_Mo_thrown lw_L_76 im_Mo_thrown sl_Mo_thrown ha281 rfl rfl (rcOK hk286 rfl) (by decide) ?_
          refine r_iload rfl rfl ?_
          refine r_icmp_eq (tgt := 864) rfl (by decide) (fun hc290 => ?_) (fun hc290 => ?_)
          · have hE := ifP hc290 hE
            refine r_iload rfl rfl ?_
            refine r_if_ne (tgt := 881) rfl (by decide) (fun hc291 => ?_) (fun hc291 => ?_)
            · have hE := ifP hc291 hE
              refine r_aload_n (t := x3) 3 rfl rfl rfl ?_
              refine r_iconst 0 rfl ci_0 ?_
              obtain ⟨a_292, ha293, hE⟩ := bnE hE
              obtain ⟨hk294, hE⟩ := ckE hE
              obtain ⟨hi295, hE⟩ := ckE hE
              refine r_lald rfl ha293 hk294 hi295 ?_
              refine r_iload rfl rfl ?_
              refine r_i2l rfl ?_
              refine r_lcmp rfl ?_
              refine r_if_eq (tgt := 881) rfl (by decide) (fun hc296 => ?_) (fun hc296 => ?_)
              · have hE := ifP hc296 hE
                first | exact r_sb (La_law_b881_ok g hst N _ hD _ ih  _ _ _ _ _ _ _ _ hE) ⟨rfl, rfl, rfl, rfl, rfl, trivial⟩ | exact r_sb (La_law_b881_ok g hst N _ hD _ ih  _ _ _ _ _ _ _ _ hE) (by simp only [su1, su2, dr1_rf, dr1_in, dr1_lo, dr2_rf, dr2_in, dr2_lo]; exact ⟨rfl, rfl, rfl, rfl, rfl, trivial⟩)
              · have hE := ifN hc296 hE
                refine r_iconst 0 rfl ci_0 ?_
                cases hE
                exact r_ret rfl (Or.inl ⟨rfl, _, _, rfl, rfl, rfl, rfl⟩)
            · have hE := ifN hc291 hE
              first | exact r_sb (La_law_b881_ok g hst N _ hD _ ih  _ _ _ _ _ _ _ _ hE) ⟨rfl, rfl, rfl, rfl, rfl, trivial⟩ | exact r_sb (La_law_b881_ok g hst N _ hD _ ih  _ _ _ _ _ _ _ _ hE) (by simp only [su1, su2, dr1_rf, dr1_in, dr1_lo, dr2_rf, dr2_in, dr2_lo]; exact ⟨rfl, rfl, rfl, rfl, rfl, trivial⟩)
          · have hE := ifN hc290 hE
            refine r_iconst 0 rfl ci_0 ?_
            cases hE
            exact r_ret rfl (Or.inl ⟨rfl, _, _, rfl, rfl, rfl, rfl⟩)
        have hE := ifN hx273 hE
        rcases Decidable.em (((hI h a_1 (ix x4)) &&& 31) = 16) with hx297 | hx297
        · have hE := ifP hx297 hE
          refine r_tabIn (tgt := 884) 16 rfl hc6 (by rw [hx297]; decide +kernel) rfl (by decide) ?_
          refine r_aload_n (t := x1) 1 rfl rfl rfl ?_
          refine r_aload_n (t := x0) 0 rfl rfl rfl ?_
          refine r_iload rfl rfl ?_
          refine r_iconst 1 rfl ci_1 ?_
          refine r_iadd rfl ?_
          obtain ⟨hi298, hE⟩ := ckE hE
          refine r_sld rfl ha2 hk3 hi298 ?_
          obtain ⟨a_299, ha300, hE⟩ := bnE hE
          obtain ⟨hk301, hE⟩ := ckE hE
          obtain ⟨v302, h303, hq304, hE⟩ := bdE hE
          refine r_callV1 (rest := []) (hc := (Le_close_ok g N _ _ _ _ _ hq304 D2 (by omega))) rfl pm_Le_close lw_L_116 im_Le_close sl_Le_close ha300 rfl rfl (rcOK hk301 rfl) (by decide) ?_
          refine r_aload_n (t := x2) 2 rfl rfl rfl ?_
          refine r_aload_n (t := x0) 0 rfl rfl rfl ?_
          refine r_iload rfl rfl ?_
          refine r_iconst 1 rfl ci_1 ?_
          refine r_iadd rfl ?_
          obtain ⟨hk305, hE⟩ := ckE hE
          obtain ⟨hi306, hE⟩ := ckE hE
          refine r_sld rfl ha2 hk305 hi306 ?_
          obtain ⟨a_307, ha308, hE⟩ := bnE hE
          obtain ⟨hk309, hE⟩ := ckE hE
          obtain ⟨v310, h311, hq312, hE⟩ := bdE hE
          refine r_callV1 (rest := [.int v302]) (hc := (Mo_close_ok g N _ _ _ _ _ hq312 D2 (by omega))) rfl pm_Mo_close lw_L_119 im_Mo_close sl_Mo_close ha308 rfl rfl (rcOK hk309 rfl) (by simp only [List.map_cons, List.map_nil, rf_cat, cat_i, cat_l, List.sum_cons, List.sum_nil]; decide) ?_
          refine r_icmp_eq (tgt := 1441) rfl (by decide) (fun hc313 => ?_) (fun hc313 => ?_)
          · have hE := ifP hc313 hE
            first | exact r_sb (La_law_b1441_ok g hst N _ hD _ ih  _ _ _ _ _ _ _ _ hE) ⟨rfl, rfl, rfl, rfl, rfl, trivial⟩ | exact r_sb (La_law_b1441_ok g hst N _ hD _ ih  _ _ _ _ _ _ _ _ hE) (by simp only [su1, su2, dr1_rf, dr1_in, dr1_lo, dr2_rf, dr2_in, dr2_lo]; exact ⟨rfl, rfl, rfl, rfl, rfl, trivial⟩)
          · have hE := ifN hc313 hE
            refine r_iconst 0 rfl ci_0 ?_
            cases hE
            exact r_ret rfl (Or.inl ⟨rfl, _, _, rfl, rfl, rfl, rfl⟩)
        have hE := ifN hx297 hE
        rcases Decidable.em (((hI h a_1 (ix x4)) &&& 31) = 17) with hx314 | hx314
        · have hE := ifP hx314 hE
          refine r_tabIn (tgt := 909) 17 rfl hc6 (by rw [hx314]; decide +kernel) rfl (by decide) ?_
          refine r_aload_n (t := x1) 1 rfl rfl rfl ?_
          refine r_aload_n (t := x0) 0 rfl rfl rfl ?_
          refine r_iload rfl rfl ?_
          refine r_iconst 1 rfl ci_1 ?_
          refine r_iadd rfl ?_
          obtain ⟨hi315, hE⟩ := ckE hE
          refine r_sld rfl ha2 hk3 hi315 ?_
          obtain ⟨a_316, ha317, hE⟩ := bnE hE
          obtain ⟨hk318, hE⟩ := ckE hE
          obtain ⟨v319, h320, hq321, hE⟩ := bdE hE
          refine r_callV1 (rest := []) (hc := (Le_surely_ok g N _ _ _ _ _ hq321 D2 (by omega))) rfl pm_Le_surely lw_L_120 im_Le_surely sl_Le_surely ha317 rfl rfl (rcOK hk318 rfl) (by decide) ?_
          refine r_aload_n (t := x2) 2 rfl rfl rfl ?_
          refine r_aload_n (t := x0) 0 rfl rfl rfl ?_
          refine r_iload rfl rfl ?_
          refine r_iconst 1 rfl ci_1 ?_
          refine r_iadd rfl ?_
          obtain ⟨hk322, hE⟩ := ckE hE
          obtain ⟨hi323, hE⟩ := ckE hE
          refine r_sld rfl ha2 hk322 hi323 ?_
          obtain ⟨a_324, ha325, hE⟩ := bnE hE
          obtain ⟨hk326, hE⟩ := ckE hE
          obtain ⟨v327, h328, hq329, hE⟩ := bdE hE
          refine r_callV1 (rest := [.int v319]) (hc := (Mo_surely_ok g N _ _ _ _ _ hq329 D2 (by omega))) rfl pm_Mo_surely lw_L_123 im_Mo_surely sl_Mo_surely ha325 rfl rfl (rcOK hk326 rfl) (by simp only [List.map_cons, List.map_nil, rf_cat, cat_i, cat_l, List.sum_cons, List.sum_nil]; decide) ?_
          refine r_icmp_eq (tgt := 1441) rfl (by decide) (fun hc330 => ?_) (fun hc330 => ?_)
          · have hE := ifP hc330 hE
            first | exact r_sb (La_law_b1441_ok g hst N _ hD _ ih  _ _ _ _ _ _ _ _ hE) ⟨rfl, rfl, rfl, rfl, rfl, trivial⟩ | exact r_sb (La_law_b1441_ok g hst N _ hD _ ih  _ _ _ _ _ _ _ _ hE) (by simp only [su1, su2, dr1_rf, dr1_in, dr1_lo, dr2_rf, dr2_in, dr2_lo]; exact ⟨rfl, rfl, rfl, rfl, rfl, trivial⟩)
          · have hE := ifN hc330 hE
            refine r_iconst 0 rfl ci_0 ?_
            cases hE
            exact r_ret rfl (Or.inl ⟨rfl, _, _, rfl, rfl, rfl, rfl⟩)
        have hE := ifN hx314 hE
        rcases Decidable.em (((hI h a_1 (ix x4)) &&& 31) = 18) with hx331 | hx331
        · have hE := ifP hx331 hE
          refine r_tabIn (tgt := 934) 18 rfl hc6 (by rw [hx331]; decide +kernel) rfl (by decide) ?_
          refine r_aload_n (t := x1) 1 rfl rfl rfl ?_
          refine r_aload_n (t := x0) 0 rfl rfl rfl ?_
          refine r_iload rfl rfl ?_
          refine r_iconst 1 rfl ci_1 ?_
          refine r_iadd rfl ?_
          obtain ⟨hi332, hE⟩ := ckE hE
          refine r_sld rfl ha2 hk3 hi332 ?_
          obtain ⟨a_333, ha334, hE⟩ := bnE hE
          obtain ⟨hk335, hE⟩ := ckE hE
          obtain ⟨v336, h337, hq338, hE⟩ := bdE hE
          refine r_callV1 (rest := []) (hc := (Le_most_ok g N _ _ _ _ _ hq338 D2 (by omega))) rfl pm_Le_most lw_L_124 im_Le_most sl_Le_most ha334 rfl rfl (rcOK hk335 rfl) (by decide) ?_
          refine r_aload_n (t := x2) 2 rfl rfl rfl ?_
          refine r_aload_n (t := x0) 0 rfl rfl rfl ?_
          refine r_iload rfl rfl ?_
          refine r_iconst 1 rfl ci_1 ?_
          refine r_iadd rfl ?_
          obtain ⟨hk339, hE⟩ := ckE hE
          obtain ⟨hi340, hE⟩ := ckE hE
          refine r_sld rfl ha2 hk339 hi340 ?_
          obtain ⟨a_341, ha342, hE⟩ := bnE hE
          obtain ⟨hk343, hE⟩ := ckE hE
          obtain ⟨v344, h345, hq346, hE⟩ := bdE hE
          refine r_callV1 (rest := [.int v336]) (hc := (Mo_most_ok g N _ _ _ _ _ hq346 D2 (by omega))) rfl pm_Mo_most lw_L_127 im_Mo_most sl_Mo_most ha342 rfl rfl (rcOK hk343 rfl) (by simp only [List.map_cons, List.map_nil, rf_cat, cat_i, cat_l, List.sum_cons, List.sum_nil]; decide) ?_
          refine r_icmp_eq (tgt := 1441) rfl (by decide) (fun hc347 => ?_) (fun hc347 => ?_)
          · have hE := ifP hc347 hE
            first | exact r_sb (La_law_b1441_ok g hst N _ hD _ ih  _ _ _ _ _ _ _ _ hE) ⟨rfl, rfl, rfl, rfl, rfl, trivial⟩ | exact r_sb (La_law_b1441_ok g hst N _ hD _ ih  _ _ _ _ _ _ _ _ hE) (by simp only [su1, su2, dr1_rf, dr1_in, dr1_lo, dr2_rf, dr2_in, dr2_lo]; exact ⟨rfl, rfl, rfl, rfl, rfl, trivial⟩)
          · have hE := ifN hc347 hE
            refine r_iconst 0 rfl ci_0 ?_
            cases hE
            exact r_ret rfl (Or.inl ⟨rfl, _, _, rfl, rfl, rfl, rfl⟩)
        have hE := ifN hx331 hE
        rcases Decidable.em (((hI h a_1 (ix x4)) &&& 31) = 19) with hx348 | hx348
        · have hE := ifP hx348 hE
          refine r_tabIn (tgt := 959) 19 rfl hc6 (by rw [hx348]; decide +kernel) rfl (by decide) ?_
          refine r_aload_n (t := x1) 1 rfl rfl rfl ?_
          refine r_aload_n (t := x0) 0 rfl rfl rfl ?_
          refine r_iload rfl rfl ?_
          refine r_iconst 1 rfl ci_1 ?_
          refine r_iadd rfl ?_
          obtain ⟨hi349, hE⟩ := ckE hE
          refine r_sld rfl ha2 hk3 hi349 ?_
          refine r_aload_n (t := x0) 0 rfl rfl rfl ?_
          refine r_iload rfl rfl ?_
          refine r_iconst 2 rfl ci_2 ?_
          refine r_iadd rfl ?_
          obtain ⟨hi350, hE⟩ := ckE hE
          refine r_sld rfl ha2 hk3 hi350 ?_
          obtain ⟨a_351, ha352, hE⟩ := bnE hE
          obtain ⟨hk353, hE⟩ := ckE hE
          obtain ⟨v354, h355, hq356, hE⟩ := bdE hE
          refine r_callV1 (rest := []) (hc := (Le_enough_ok g N _ _ _ _ _ _ hq356 D2 (by omega))) rfl pm_Le_enough lw_L_128 im_Le_enough sl_Le_enough ha352 rfl rfl (rcOK hk353 rfl) (by decide) ?_
          refine r_aload_n (t := x2) 2 rfl rfl rfl ?_
          refine r_aload_n (t := x0) 0 rfl rfl rfl ?_
          refine r_iload rfl rfl ?_
          refine r_iconst 1 rfl ci_1 ?_
          refine r_iadd rfl ?_
          obtain ⟨hk357, hE⟩ := ckE hE
          obtain ⟨hi358, hE⟩ := ckE hE
          refine r_sld rfl ha2 hk357 hi358 ?_
          refine r_aload_n (t := x0) 0 rfl rfl rfl ?_
          refine r_iload rfl rfl ?_
          refine r_iconst 2 rfl ci_2 ?_
          refine r_iadd rfl ?_
          obtain ⟨hi359, hE⟩ := ckE hE
          refine r_sld rfl ha2 hk357 hi359 ?_
          obtain ⟨a_360, ha361, hE⟩ := bnE hE
          obtain ⟨hk362, hE⟩ := ckE hE
          obtain ⟨v363, h364, hq365, hE⟩ := bdE hE
          refine r_callV1 (rest := [.int v354]) (hc := (Mo_enough_ok g N _ _ _ _ _ _ hq365 D2 (by omega))) rfl pm_Mo_enough lw_L_131 im_Mo_enough sl_Mo_enough ha361 rfl rfl (rcOK hk362 rfl) (by simp only [List.map_cons, List.map_nil, rf_cat, cat_i, cat_l, List.sum_cons, List.sum_nil]; decide) ?_
          refine r_icmp_eq (tgt := 1441) rfl (by decide) (fun hc366 => ?_) (fun hc366 => ?_)
          · have hE := ifP hc366 hE
            first | exact r_sb (La_law_b1441_ok g hst N _ hD _ ih  _ _ _ _ _ _ _ _ hE) ⟨rfl, rfl, rfl, rfl, rfl, trivial⟩ | exact r_sb (La_law_b1441_ok g hst N _ hD _ ih  _ _ _ _ _ _ _ _ hE) (by simp only [su1, su2, dr1_rf, dr1_in, dr1_lo, dr2_rf, dr2_in, dr2_lo]; exact ⟨rfl, rfl, rfl, rfl, rfl, trivial⟩)
          · have hE := ifN hc366 hE
            refine r_iconst 0 rfl ci_0 ?_
            cases hE
            exact r_ret rfl (Or.inl ⟨rfl, _, _, rfl, rfl, rfl, rfl⟩)
        have hE := ifN hx348 hE
        rcases Decidable.em (((hI h a_1 (ix x4)) &&& 31) = 20) with hx367 | hx367
        · have hE := ifP hx367 hE
          refine r_tabIn (tgt := 996) 20 rfl hc6 (by rw [hx367]; decide +kernel) rfl (by decide) ?_
          refine r_aload_n (t := x1) 1 rfl rfl rfl ?_
          refine r_aload_n (t := x0) 0 rfl rfl rfl ?_
          refine r_iload rfl rfl ?_
          refine r_iconst 1 rfl ci_1 ?_
          refine r_iadd rfl ?_
          obtain ⟨hi368, hE⟩ := ckE hE
          refine r_sld rfl ha2 hk3 hi368 ?_
          obtain ⟨a_369, ha370, hE⟩ := bnE hE
          obtain ⟨hk371, hE⟩ := ckE hE
          obtain ⟨v372, h373, hq374, hE⟩ := bdE hE
          refine r_callV1 (rest := []) (hc := (Le_peak_ok g N _ _ _ _ _ hq374 D2 (by omega))) rfl pm_Le_peak lw_L_132 im_Le_peak sl_Le_peak ha370 rfl rfl (rcOK hk371 rfl) (by decide) ?_
          refine r_aload_n (t := x2) 2 rfl rfl rfl ?_
          refine r_aload_n (t := x0) 0 rfl rfl rfl ?_
          refine r_iload rfl rfl ?_
          refine r_iconst 1 rfl ci_1 ?_
          refine r_iadd rfl ?_
          obtain ⟨hk375, hE⟩ := ckE hE
          obtain ⟨hi376, hE⟩ := ckE hE
          refine r_sld rfl ha2 hk375 hi376 ?_
          obtain ⟨a_377, ha378, hE⟩ := bnE hE
          obtain ⟨hk379, hE⟩ := ckE hE
          obtain ⟨v380, h381, hq382, hE⟩ := bdE hE
          refine r_callV1 (rest := [.int v372]) (hc := (Mo_peak_ok g N _ _ _ _ _ hq382 D2 (by omega))) rfl pm_Mo_peak lw_L_135 im_Mo_peak sl_Mo_peak ha378 rfl rfl (rcOK hk379 rfl) (by simp only [List.map_cons, List.map_nil, rf_cat, cat_i, cat_l, List.sum_cons, List.sum_nil]; decide) ?_
          refine r_icmp_eq (tgt := 1441) rfl (by decide) (fun hc383 => ?_) (fun hc383 => ?_)
          · have hE := ifP hc383 hE
            first | exact r_sb (La_law_b1441_ok g hst N _ hD _ ih  _ _ _ _ _ _ _ _ hE) ⟨rfl, rfl, rfl, rfl, rfl, trivial⟩ | exact r_sb (La_law_b1441_ok g hst N _ hD _ ih  _ _ _ _ _ _ _ _ hE) (by simp only [su1, su2, dr1_rf, dr1_in, dr1_lo, dr2_rf, dr2_in, dr2_lo]; exact ⟨rfl, rfl, rfl, rfl, rfl, trivial⟩)
          · have hE := ifN hc383 hE
            refine r_iconst 0 rfl ci_0 ?_
            cases hE
            exact r_ret rfl (Or.inl ⟨rfl, _, _, rfl, rfl, rfl, rfl⟩)
        have hE := ifN hx367 hE
        rcases Decidable.em (((hI h a_1 (ix x4)) &&& 31) = 21) with hx384 | hx384
        · have hE := ifP hx384 hE
          refine r_tabIn (tgt := 1021) 21 rfl hc6 (by rw [hx384]; decide +kernel) rfl (by decide) ?_
          refine r_aload_n (t := x1) 1 rfl rfl rfl ?_
          obtain ⟨a_385, ha386, hE⟩ := bnE hE
          obtain ⟨hk387, hE⟩ := ckE hE
          obtain ⟨v388, h389, hq390, hE⟩ := bdE hE
          refine r_callV1 (rest := []) (hc := (Le_habits_ok g N _ _ _ _ hq390 D2 (by omega))) rfl pm_Le_habits lw_L_136 im_Le_habits sl_Le_habits ha386 rfl rfl (rcOK hk387 rfl) (by decide) ?_
          refine r_aload_n (t := x2) 2 rfl rfl rfl ?_
          obtain ⟨a_391, ha392, hE⟩ := bnE hE
          obtain ⟨hk393, hE⟩ := ckE hE
          obtain ⟨v394, h395, hq396, hE⟩ := bdE hE
          refine r_callV1 (rest := [.int v388]) (hc := (Mo_habits_ok g N _ _ _ _ hq396 D2 (by omega))) rfl pm_Mo_habits lw_L_139 im_Mo_habits sl_Mo_habits ha392 rfl rfl (rcOK hk393 rfl) (by simp only [List.map_cons, List.map_nil, rf_cat, cat_i, cat_l, List.sum_cons, List.sum_nil]; decide) ?_
          refine r_icmp_eq (tgt := 1441) rfl (by decide) (fun hc397 => ?_) (fun hc397 => ?_)
          · have hE := ifP hc397 hE
            first | exact r_sb (La_law_b1441_ok g hst N _ hD _ ih  _ _ _ _ _ _ _ _ hE) ⟨rfl, rfl, rfl, rfl, rfl, trivial⟩ | exact r_sb (La_law_b1441_ok g hst N _ hD _ ih  _ _ _ _ _ _ _ _ hE) (by simp only [su1, su2, dr1_rf, dr1_in, dr1_lo, dr2_rf, dr2_in, dr2_lo]; exact ⟨rfl, rfl, rfl, rfl, rfl, trivial⟩)
          · have hE := ifN hc397 hE
            refine r_iconst 0 rfl ci_0 ?_
            cases hE
            exact r_ret rfl (Or.inl ⟨rfl, _, _, rfl, rfl, rfl, rfl⟩)
        have hE := ifN hx384 hE
        rcases Decidable.em (((hI h a_1 (ix x4)) &&& 31) = 22) with hx398 | hx398
        · have hE := ifP hx398 hE
          refine r_tabIn (tgt := 1034) 22 rfl hc6 (by rw [hx398]; decide +kernel) rfl (by decide) ?_
          refine r_aload_n (t := x1) 1 rfl rfl rfl ?_
          refine r_aload_n (t := x3) 3 rfl rfl rfl ?_
          obtain ⟨v399, h400, hq401, hE⟩ := bdE hE
          refine r_callSW1 (rest := []) (hc := (La_talk_ok g hst N _ _ _ _ _ hq401 D2 (by omega))) rfl pm_La_talk lw_L_140 st_La_talk rfl rfl (by decide) ?_
          refine r_istore rfl (by decide) ?_
          refine r_aload_n (t := x2) 2 rfl rfl rfl ?_
          obtain ⟨a_402, ha403, hE⟩ := bnE hE
          obtain ⟨hk404, hE⟩ := ckE hE
          obtain ⟨v405, h406, hq407, hE⟩ := bdE hE
          refine r_callV1 (rest := []) (hc := (Mo_talk_ok g N _ _ _ _ hq407 D2 (by omega))) rfl pm_Mo_talk lw_L_143 im_Mo_talk sl_Mo_talk ha403 rfl rfl (rcOK hk404 rfl) (by decide) ?_
          refine r_istore rfl (by decide) ?_
          refine r_aload_n (t := x2) 2 rfl rfl rfl ?_
          obtain ⟨hk408, hE⟩ := ckE hE
          obtain ⟨v409, h410, hq411, hE⟩ := bdE hE
          refine r_callV1 (rest := []) (hc := (Mo_thrown_ok g N _ _ _ _ hq411 D2 (by omega))) rfl pm_Mo_thrown lw_L_76 im_Mo_thrown sl_Mo_thrown ha403 rfl rfl (rcOK hk408 rfl) (by decide) ?_
          refine r_iload rfl rfl ?_
          refine r_icmp_eq (tgt := 1058) rfl (by decide) (fun hc412 => ?_) (fun hc412 => ?_)
          · have hE := ifP hc412 hE
            refine r_iload rfl rfl ?_
            refine r_if_ne (tgt := 1075) rfl (by decide) (fun hc413 => ?_) (fun hc413 => ?_)
            · have hE := ifP hc413 hE
              refine r_aload_n (t := x3) 3 rfl rfl rfl ?_
              refine r_iconst 0 rfl ci_0 ?_
              obtain ⟨a_414, ha415, hE⟩ := bnE hE
              obtain ⟨hk416, hE⟩ := ckE hE
              obtain ⟨hi417, hE⟩ := ckE hE
              refine r_lald rfl ha415 hk416 hi417 ?_
              refine r_iload rfl rfl ?_
              refine r_i2l rfl ?_
              refine r_lcmp rfl ?_
              refine r_if_eq (tgt := 1075) rfl (by decide) (fun hc418 => ?_) (fun hc418 => ?_)
              · have hE := ifP hc418 hE
                first | exact r_sb (La_law_b1075_ok g hst N _ hD _ ih  _ _ _ _ _ _ _ _ hE) ⟨rfl, rfl, rfl, rfl, rfl, trivial⟩ | exact r_sb (La_law_b1075_ok g hst N _ hD _ ih  _ _ _ _ _ _ _ _ hE) (by simp only [su1, su2, dr1_rf, dr1_in, dr1_lo, dr2_rf, dr2_in, dr2_lo]; exact ⟨rfl, rfl, rfl, rfl, rfl, trivial⟩)
              · have hE := ifN hc418 hE
                refine r_iconst 0 rfl ci_0 ?_
                cases hE
                exact r_ret rfl (Or.inl ⟨rfl, _, _, rfl, rfl, rfl, rfl⟩)
            · have hE := ifN hc413 hE
              first | exact r_sb (La_law_b1075_ok g hst N _ hD _ ih  _ _ _ _ _ _ _ _ hE) ⟨rfl, rfl, rfl, rfl, rfl, trivial⟩ | exact r_sb (La_law_b1075_ok g hst N _ hD _ ih  _ _ _ _ _ _ _ _ hE) (by simp only [su1, su2, dr1_rf, dr1_in, dr1_lo, dr2_rf, dr2_in, dr2_lo]; exact ⟨rfl, rfl, rfl, rfl, rfl, trivial⟩)
          · have hE := ifN hc412 hE
            refine r_iconst 0 rfl ci_0 ?_
            cases hE
            exact r_ret rfl (Or.inl ⟨rfl, _, _, rfl, rfl, rfl, rfl⟩)
        have hE := ifN hx398 hE
        rcases Decidable.em (((hI h a_1 (ix x4)) &&& 31) = 23) with hx419 | hx419
        · have hE := ifP hx419 hE
          refine r_tabIn (tgt := 1078) 23 rfl hc6 (by rw [hx419]; decide +kernel) rfl (by decide) ?_
          refine r_aload_n (t := x1) 1 rfl rfl rfl ?_
          refine r_aload_n (t := x0) 0 rfl rfl rfl ?_
          refine r_iload rfl rfl ?_
          refine r_iconst 1 rfl ci_1 ?_
          refine r_iadd rfl ?_
          obtain ⟨hi420, hE⟩ := ckE hE
          refine r_sld rfl ha2 hk3 hi420 ?_
          refine r_aload_n (t := x3) 3 rfl rfl rfl ?_
          obtain ⟨v421, h422, hq423, hE⟩ := bdE hE
          refine r_callSW1 (rest := []) (hc := (La_fence_ok g hst N _ _ _ _ _ _ hq423 D2 (by omega))) rfl pm_La_fence lw_L_144 st_La_fence rfl rfl (by decide) ?_
          refine r_istore rfl (by decide) ?_
          refine r_aload_n (t := x2) 2 rfl rfl rfl ?_
          refine r_aload_n (t := x0) 0 rfl rfl rfl ?_
          refine r_iload rfl rfl ?_
          refine r_iconst 1 rfl ci_1 ?_
          refine r_iadd rfl ?_
          obtain ⟨hk424, hE⟩ := ckE hE
          obtain ⟨hi425, hE⟩ := ckE hE
          refine r_sld rfl ha2 hk424 hi425 ?_
          obtain ⟨a_426, ha427, hE⟩ := bnE hE
          obtain ⟨hk428, hE⟩ := ckE hE
          obtain ⟨v429, h430, hq431, hE⟩ := bdE hE
          refine r_callV1 (rest := []) (hc := (Mo_fence_ok g N _ _ _ _ _ hq431 D2 (by omega))) rfl pm_Mo_fence lw_L_146 im_Mo_fence sl_Mo_fence ha427 rfl rfl (rcOK hk428 rfl) (by decide) ?_
          refine r_istore rfl (by decide) ?_
          refine r_aload_n (t := x2) 2 rfl rfl rfl ?_
          obtain ⟨hk432, hE⟩ := ckE hE
          obtain ⟨v433, h434, hq435, hE⟩ := bdE hE
          refine r_callV1 (rest := []) (hc := (Mo_thrown_ok g N _ _ _ _ hq435 D2 (by omega))) rfl pm_Mo_thrown lw_L_76 im_Mo_thrown sl_Mo_thrown ha427 rfl rfl (rcOK hk432 rfl) (by decide) ?_
          refine r_iload rfl rfl ?_
          refine r_icmp_eq (tgt := 1114) rfl (by decide) (fun hc436 => ?_) (fun hc436 => ?_)
          · have hE := ifP hc436 hE
            refine r_iload rfl rfl ?_
            refine r_if_ne (tgt := 1131) rfl (by decide) (fun hc437 => ?_) (fun hc437 => ?_)
            · have hE := ifP hc437 hE
              refine r_aload_n (t := x3) 3 rfl rfl rfl ?_
              refine r_iconst 0 rfl ci_0 ?_
              obtain ⟨a_438, ha439, hE⟩ := bnE hE
              obtain ⟨hk440, hE⟩ := ckE hE
              obtain ⟨hi441, hE⟩ := ckE hE
              refine r_lald rfl ha439 hk440 hi441 ?_
              refine r_iload rfl rfl ?_
              refine r_i2l rfl ?_
              refine r_lcmp rfl ?_
              refine r_if_eq (tgt := 1131) rfl (by decide) (fun hc442 => ?_) (fun hc442 => ?_)
              · have hE := ifP hc442 hE
                first | exact r_sb (La_law_b1131_ok g hst N _ hD _ ih  _ _ _ _ _ _ _ _ hE) ⟨rfl, rfl, rfl, rfl, rfl, trivial⟩ | exact r_sb (La_law_b1131_ok g hst N _ hD _ ih  _ _ _ _ _ _ _ _ hE) (by simp only [su1, su2, dr1_rf, dr1_in, dr1_lo, dr2_rf, dr2_in, dr2_lo]; exact ⟨rfl, rfl, rfl, rfl, rfl, trivial⟩)
              · have hE := ifN hc442 hE
                refine r_iconst 0 rfl ci_0 ?_
                cases hE
                exact r_ret rfl (Or.inl ⟨rfl, _, _, rfl, rfl, rfl, rfl⟩)
            · have hE := ifN hc437 hE
              first | exact r_sb (La_law_b1131_ok g hst N _ hD _ ih  _ _ _ _ _ _ _ _ hE) ⟨rfl, rfl, rfl, rfl, rfl, trivial⟩ | exact r_sb (La_law_b1131_ok g hst N _ hD _ ih  _ _ _ _ _ _ _ _ hE) (by simp only [su1, su2, dr1_rf, dr1_in, dr1_lo, dr2_rf, dr2_in, dr2_lo]; exact ⟨rfl, rfl, rfl, rfl, rfl, trivial⟩)
          · have hE := ifN hc436 hE
            refine r_iconst 0 rfl ci_0 ?_
            cases hE
            exact r_ret rfl (Or.inl ⟨rfl, _, _, rfl, rfl, rfl, rfl⟩)
        have hE := ifN hx419 hE
        rcases Decidable.em (((hI h a_1 (ix x4)) &&& 31) = 24) with hx443 | hx443
        · have hE := ifP hx443 hE
          refine r_tabIn (tgt := 1134) 24 rfl hc6 (by rw [hx443]; decide +kernel) rfl (by decide) ?_
          refine r_aload_n (t := x1) 1 rfl rfl rfl ?_
          obtain ⟨a_444, ha445, hE⟩ := bnE hE
          obtain ⟨hk446, hE⟩ := ckE hE
          obtain ⟨v447, h448, hq449, hE⟩ := bdE hE
          refine r_callV1 (rest := []) (hc := (Le_rains_ok g N _ _ _ _ hq449 D2 (by omega))) rfl pm_Le_rains lw_L_147 im_Le_rains sl_Le_rains ha445 rfl rfl (rcOK hk446 rfl) (by decide) ?_
          refine r_aload_n (t := x2) 2 rfl rfl rfl ?_
          obtain ⟨a_450, ha451, hE⟩ := bnE hE
          obtain ⟨hk452, hE⟩ := ckE hE
          obtain ⟨v453, h454, hq455, hE⟩ := bdE hE
          refine r_callV1 (rest := [.int v447]) (hc := (Mo_rains_ok g N _ _ _ _ hq455 D2 (by omega))) rfl pm_Mo_rains lw_L_150 im_Mo_rains sl_Mo_rains ha451 rfl rfl (rcOK hk452 rfl) (by simp only [List.map_cons, List.map_nil, rf_cat, cat_i, cat_l, List.sum_cons, List.sum_nil]; decide) ?_
          refine r_icmp_eq (tgt := 1441) rfl (by decide) (fun hc456 => ?_) (fun hc456 => ?_)
          · have hE := ifP hc456 hE
            first | exact r_sb (La_law_b1441_ok g hst N _ hD _ ih  _ _ _ _ _ _ _ _ hE) ⟨rfl, rfl, rfl, rfl, rfl, trivial⟩ | exact r_sb (La_law_b1441_ok g hst N _ hD _ ih  _ _ _ _ _ _ _ _ hE) (by simp only [su1, su2, dr1_rf, dr1_in, dr1_lo, dr2_rf, dr2_in, dr2_lo]; exact ⟨rfl, rfl, rfl, rfl, rfl, trivial⟩)
          · have hE := ifN hc456 hE
            refine r_iconst 0 rfl ci_0 ?_
            cases hE
            exact r_ret rfl (Or.inl ⟨rfl, _, _, rfl, rfl, rfl, rfl⟩)
        have hE := ifN hx443 hE
        rcases Decidable.em (((hI h a_1 (ix x4)) &&& 31) = 25) with hx457 | hx457
        · have hE := ifP hx457 hE
          refine r_tabIn (tgt := 1147) 25 rfl hc6 (by rw [hx457]; decide +kernel) rfl (by decide) ?_
          refine r_aload_n (t := x1) 1 rfl rfl rfl ?_
          refine r_aload_n (t := x3) 3 rfl rfl rfl ?_
          obtain ⟨v458, h459, hq460, hE⟩ := bdE hE
          refine r_callSW1 (rest := []) (hc := (La_tonight_ok g hst N _ _ _ _ _ hq460 D2 (by omega))) rfl pm_La_tonight lw_L_151 st_La_tonight rfl rfl (by decide) ?_
          refine r_istore rfl (by decide) ?_
          refine r_aload_n (t := x2) 2 rfl rfl rfl ?_
          obtain ⟨a_461, ha462, hE⟩ := bnE hE
          obtain ⟨hk463, hE⟩ := ckE hE
          obtain ⟨v464, h465, hq466, hE⟩ := bdE hE
          refine r_callV1 (rest := []) (hc := (Mo_tonight_ok g N _ _ _ _ hq466 D2 (by omega))) rfl pm_Mo_tonight lw_L_153 im_Mo_tonight sl_Mo_tonight ha462 rfl rfl (rcOK hk463 rfl) (by decide) ?_
          refine r_istore rfl (by decide) ?_
          refine r_aload_n (t := x2) 2 rfl rfl rfl ?_
          obtain ⟨hk467, hE⟩ := ckE hE
          obtain ⟨v468, h469, hq470, hE⟩ := bdE hE
          refine r_callV1 (rest := []) (hc := (Mo_thrown_ok g N _ _ _ _ hq470 D2 (by omega))) rfl pm_Mo_thrown lw_L_76 im_Mo_thrown sl_Mo_thrown ha462 rfl rfl (rcOK hk467 rfl) (by decide) ?_
          refine r_iload rfl rfl ?_
          refine r_icmp_eq (tgt := 1171) rfl (by decide) (fun hc471 => ?_) (fun hc471 => ?_)
          · have hE := ifP hc471 hE
            refine r_iload rfl rfl ?_
            refine r_if_ne (tgt := 1188) rfl (by decide) (fun hc472 => ?_) (fun hc472 => ?_)
            · have hE := ifP hc472 hE
              refine r_aload_n (t := x3) 3 rfl rfl rfl ?_
              refine r_iconst 0 rfl ci_0 ?_
              obtain ⟨a_473, ha474, hE⟩ := bnE hE
              obtain ⟨hk475, hE⟩ := ckE hE
              obtain ⟨hi476, hE⟩ := ckE hE
              refine r_lald rfl ha474 hk475 hi476 ?_
              refine r_iload rfl rfl ?_
              refine r_i2l rfl ?_
              refine r_lcmp rfl ?_
              refine r_if_eq (tgt := 1188) rfl (by decide) (fun hc477 => ?_) (fun hc477 => ?_)
              · have hE := ifP hc477 hE
                first | exact r_sb (La_law_b1188_ok g hst N _ hD _ ih  _ _ _ _ _ _ _ _ hE) ⟨rfl, rfl, rfl, rfl, rfl, trivial⟩ | exact r_sb (La_law_b1188_ok g hst N _ hD _ ih  _ _ _ _ _ _ _ _ hE) (by simp only [su1, su2, dr1_rf, dr1_in, dr1_lo, dr2_rf, dr2_in, dr2_lo]; exact ⟨rfl, rfl, rfl, rfl, rfl, trivial⟩)
              · have hE := ifN hc477 hE
                refine r_iconst 0 rfl ci_0 ?_
                cases hE
                exact r_ret rfl (Or.inl ⟨rfl, _, _, rfl, rfl, rfl, rfl⟩)
            · have hE := ifN hc472 hE
              first | exact r_sb (La_law_b1188_ok g hst N _ hD _ ih  _ _ _ _ _ _ _ _ hE) ⟨rfl, rfl, rfl, rfl, rfl, trivial⟩ | exact r_sb (La_law_b1188_ok g hst N _ hD _ ih  _ _ _ _ _ _ _ _ hE) (by simp only [su1, su2, dr1_rf, dr1_in, dr1_lo, dr2_rf, dr2_in, dr2_lo]; exact ⟨rfl, rfl, rfl, rfl, rfl, trivial⟩)
          · have hE := ifN hc471 hE
            refine r_iconst 0 rfl ci_0 ?_
            cases hE
            exact r_ret rfl (Or.inl ⟨rfl, _, _, rfl, rfl, rfl, rfl⟩)
        have hE := ifN hx457 hE
        rcases Decidable.em (((hI h a_1 (ix x4)) &&& 31) = 26) with hx478 | hx478
        · have hE := ifP hx478 hE
          refine r_tabIn (tgt := 1191) 26 rfl hc6 (by rw [hx478]; decide +kernel) rfl (by decide) ?_
          refine r_aload_n (t := x1) 1 rfl rfl rfl ?_
          refine r_aload_n (t := x0) 0 rfl rfl rfl ?_
          refine r_iload rfl rfl ?_
          refine r_iconst 1 rfl ci_1 ?_
          refine r_iadd rfl ?_
          obtain ⟨hi479, hE⟩ := ckE hE
          refine r_sld rfl ha2 hk3 hi479 ?_
          refine r_aload_n (t := x0) 0 rfl rfl rfl ?_
          refine r_iload rfl rfl ?_
          refine r_iconst 2 rfl ci_2 ?_
          refine r_iadd rfl ?_
          obtain ⟨hi480, hE⟩ := ckE hE
          refine r_sld rfl ha2 hk3 hi480 ?_
          refine r_aload_n (t := x0) 0 rfl rfl rfl ?_
          refine r_iload rfl rfl ?_
          refine r_iconst 3 rfl ci_3 ?_
          refine r_iadd rfl ?_
          obtain ⟨hi481, hE⟩ := ckE hE
          refine r_sld rfl ha2 hk3 hi481 ?_
          refine r_aload_n (t := x0) 0 rfl rfl rfl ?_
          refine r_iload rfl rfl ?_
          refine r_iconst 4 rfl ci_4 ?_
          refine r_iadd rfl ?_
          obtain ⟨hi482, hE⟩ := ckE hE
          refine r_sld rfl ha2 hk3 hi482 ?_
          obtain ⟨a_483, ha484, hE⟩ := bnE hE
          obtain ⟨hk485, hE⟩ := ckE hE
          obtain ⟨v486, h487, hq488, hE⟩ := bdE hE
          refine r_callV1 (rest := []) (hc := (Le_read_ok g N _ _ _ _ _ _ _ _ hq488 D2 (by omega))) rfl pm_Le_read lw_L_154 im_Le_read sl_Le_read ha484 rfl rfl (rcOK hk485 rfl) (by decide) ?_
          refine r_aload_n (t := x2) 2 rfl rfl rfl ?_
          refine r_aload_n (t := x0) 0 rfl rfl rfl ?_
          refine r_iload rfl rfl ?_
          refine r_iconst 1 rfl ci_1 ?_
          refine r_iadd rfl ?_
          obtain ⟨hk489, hE⟩ := ckE hE
          obtain ⟨hi490, hE⟩ := ckE hE
          refine r_sld rfl ha2 hk489 hi490 ?_
          refine r_aload_n (t := x0) 0 rfl rfl rfl ?_
          refine r_iload rfl rfl ?_
          refine r_iconst 2 rfl ci_2 ?_
          refine r_iadd rfl ?_
          obtain ⟨hi491, hE⟩ := ckE hE
          refine r_sld rfl ha2 hk489 hi491 ?_
          refine r_aload_n (t := x0) 0 rfl rfl rfl ?_
          refine r_iload rfl rfl ?_
          refine r_iconst 3 rfl ci_3 ?_
          refine r_iadd rfl ?_
          obtain ⟨hi492, hE⟩ := ckE hE
          refine r_sld rfl ha2 hk489 hi492 ?_
          refine r_aload_n (t := x0) 0 rfl rfl rfl ?_
          refine r_iload rfl rfl ?_
          refine r_iconst 4 rfl ci_4 ?_
          refine r_iadd rfl ?_
          obtain ⟨hi493, hE⟩ := ckE hE
          refine r_sld rfl ha2 hk489 hi493 ?_
          obtain ⟨a_494, ha495, hE⟩ := bnE hE
          obtain ⟨hk496, hE⟩ := ckE hE
          obtain ⟨v497, h498, hq499, hE⟩ := bdE hE
          refine r_callV1 (rest := [.int v486]) (hc := (Mo_read_ok g N _ _ _ _ _ _ _ _ hq499 D2 (by omega))) rfl pm_Mo_read lw_L_158 im_Mo_read sl_Mo_read ha495 rfl rfl (rcOK hk496 rfl) (by simp only [List.map_cons, List.map_nil, rf_cat, cat_i, cat_l, List.sum_cons, List.sum_nil]; decide) ?_
          refine r_icmp_eq (tgt := 1441) rfl (by decide) (fun hc500 => ?_) (fun hc500 => ?_)
          · have hE := ifP hc500 hE
            first | exact r_sb (La_law_b1441_ok g hst N _ hD _ ih  _ _ _ _ _ _ _ _ hE) ⟨rfl, rfl, rfl, rfl, rfl, trivial⟩ | exact r_sb (La_law_b1441_ok g hst N _ hD _ ih  _ _ _ _ _ _ _ _ hE) (by simp only [su1, su2, dr1_rf, dr1_in, dr1_lo, dr2_rf, dr2_in, dr2_lo]; exact ⟨rfl, rfl, rfl, rfl, rfl, trivial⟩)
          · have hE := ifN hc500 hE
            refine r_iconst 0 rfl ci_0 ?_
            cases hE
            exact r_ret rfl (Or.inl ⟨rfl, _, _, rfl, rfl, rfl, rfl⟩)
        have hE := ifN hx478 hE
        rcases Decidable.em (((hI h a_1 (ix x4)) &&& 31) = 27) with hx501 | hx501
        · have hE := ifP hx501 hE
          refine r_tabIn (tgt := 1252) 27 rfl hc6 (by rw [hx501]; decide +kernel) rfl (by decide) ?_
          refine r_aload_n (t := x1) 1 rfl rfl rfl ?_
          refine r_aload_n (t := x0) 0 rfl rfl rfl ?_
          refine r_iload rfl rfl ?_
          refine r_iconst 1 rfl ci_1 ?_
          refine r_iadd rfl ?_
          obtain ⟨hi502, hE⟩ := ckE hE
          refine r_sld rfl ha2 hk3 hi502 ?_
          refine r_aload_n (t := x0) 0 rfl rfl rfl ?_
          refine r_iload rfl rfl ?_
          refine r_iconst 2 rfl ci_2 ?_
          refine r_iadd rfl ?_
          obtain ⟨hi503, hE⟩ := ckE hE
          refine r_sld rfl ha2 hk3 hi503 ?_
          obtain ⟨a_504, ha505, hE⟩ := bnE hE
          obtain ⟨hk506, hE⟩ := ckE hE
          obtain ⟨v507, h508, hq509, hE⟩ := bdE hE
          refine r_callV1 (rest := []) (hc := (Le_sheets_ok g N _ _ _ _ _ _ hq509 D2 (by omega))) rfl pm_Le_sheets lw_L_159 im_Le_sheets sl_Le_sheets ha505 rfl rfl (rcOK hk506 rfl) (by decide) ?_
          refine r_aload_n (t := x2) 2 rfl rfl rfl ?_
          refine r_aload_n (t := x0) 0 rfl rfl rfl ?_
          refine r_iload rfl rfl ?_
          refine r_iconst 1 rfl ci_1 ?_
          refine r_iadd rfl ?_
          obtain ⟨hk510, hE⟩ := ckE hE
          obtain ⟨hi511, hE⟩ := ckE hE
          refine r_sld rfl ha2 hk510 hi511 ?_
          refine r_aload_n (t := x0) 0 rfl rfl rfl ?_
          refine r_iload rfl rfl ?_
          refine r_iconst 2 rfl ci_2 ?_
          refine r_iadd rfl ?_
          obtain ⟨hi512, hE⟩ := ckE hE
          refine r_sld rfl ha2 hk510 hi512 ?_
          obtain ⟨a_513, ha514, hE⟩ := bnE hE
          obtain ⟨hk515, hE⟩ := ckE hE
          obtain ⟨v516, h517, hq518, hE⟩ := bdE hE
          refine r_callV1 (rest := [.int v507]) (hc := (Mo_sheets_ok g N _ _ _ _ _ _ hq518 D2 (by omega))) rfl pm_Mo_sheets lw_L_162 im_Mo_sheets sl_Mo_sheets ha514 rfl rfl (rcOK hk515 rfl) (by simp only [List.map_cons, List.map_nil, rf_cat, cat_i, cat_l, List.sum_cons, List.sum_nil]; decide) ?_
          refine r_icmp_eq (tgt := 1441) rfl (by decide) (fun hc519 => ?_) (fun hc519 => ?_)
          · have hE := ifP hc519 hE
            first | exact r_sb (La_law_b1441_ok g hst N _ hD _ ih  _ _ _ _ _ _ _ _ hE) ⟨rfl, rfl, rfl, rfl, rfl, trivial⟩ | exact r_sb (La_law_b1441_ok g hst N _ hD _ ih  _ _ _ _ _ _ _ _ hE) (by simp only [su1, su2, dr1_rf, dr1_in, dr1_lo, dr2_rf, dr2_in, dr2_lo]; exact ⟨rfl, rfl, rfl, rfl, rfl, trivial⟩)
          · have hE := ifN hc519 hE
            refine r_iconst 0 rfl ci_0 ?_
            cases hE
            exact r_ret rfl (Or.inl ⟨rfl, _, _, rfl, rfl, rfl, rfl⟩)
        have hE := ifN hx501 hE
        rcases Decidable.em (((hI h a_1 (ix x4)) &&& 31) = 28) with hx520 | hx520
        · have hE := ifP hx520 hE
          refine r_tabIn (tgt := 1289) 28 rfl hc6 (by rw [hx520]; decide +kernel) rfl (by decide) ?_
          refine r_aload_n (t := x1) 1 rfl rfl rfl ?_
          refine r_aload_n (t := x0) 0 rfl rfl rfl ?_
          refine r_iload rfl rfl ?_
          refine r_iconst 1 rfl ci_1 ?_
          refine r_iadd rfl ?_
          obtain ⟨hi521, hE⟩ := ckE hE
          refine r_sld rfl ha2 hk3 hi521 ?_
          refine r_aload_n (t := x0) 0 rfl rfl rfl ?_
          refine r_iload rfl rfl ?_
          refine r_iconst 2 rfl ci_2 ?_
          refine r_iadd rfl ?_
          obtain ⟨hi522, hE⟩ := ckE hE
          refine r_sld rfl ha2 hk3 hi522 ?_
          refine r_aload_n (t := x0) 0 rfl rfl rfl ?_
          refine r_iload rfl rfl ?_
          refine r_iconst 3 rfl ci_3 ?_
          refine r_iadd rfl ?_
          obtain ⟨hi523, hE⟩ := ckE hE
          refine r_sld rfl ha2 hk3 hi523 ?_
          refine r_aload_n (t := x0) 0 rfl rfl rfl ?_
          refine r_iload rfl rfl ?_
          refine r_iconst 4 rfl ci_4 ?_
          refine r_iadd rfl ?_
          obtain ⟨hi524, hE⟩ := ckE hE
          refine r_sld rfl ha2 hk3 hi524 ?_
          obtain ⟨a_525, ha526, hE⟩ := bnE hE
          obtain ⟨hk527, hE⟩ := ckE hE
          obtain ⟨v528, h529, hq530, hE⟩ := bdE hE
          refine r_callV1 (rest := []) (hc := (Le_years_ok g N _ _ _ _ _ _ _ _ hq530 D2 (by omega))) rfl pm_Le_years lw_L_163 im_Le_years sl_Le_years ha526 rfl rfl (rcOK hk527 rfl) (by decide) ?_
          refine r_aload_n (t := x2) 2 rfl rfl rfl ?_
          refine r_aload_n (t := x0) 0 rfl rfl rfl ?_
          refine r_iload rfl rfl ?_
          refine r_iconst 1 rfl ci_1 ?_
          refine r_iadd rfl ?_
          obtain ⟨hk531, hE⟩ := ckE hE
          obtain ⟨hi532, hE⟩ := ckE hE
          refine r_sld rfl ha2 hk531 hi532 ?_
          refine r_aload_n (t := x0) 0 rfl rfl rfl ?_
          refine r_iload rfl rfl ?_
          refine r_iconst 2 rfl ci_2 ?_
          refine r_iadd rfl ?_
          obtain ⟨hi533, hE⟩ := ckE hE
          refine r_sld rfl ha2 hk531 hi533 ?_
          refine r_aload_n (t := x0) 0 rfl rfl rfl ?_
          refine r_iload rfl rfl ?_
          refine r_iconst 3 rfl ci_3 ?_
          refine r_iadd rfl ?_
          obtain ⟨hi534, hE⟩ := ckE hE
          refine r_sld rfl ha2 hk531 hi534 ?_
          refine r_aload_n (t := x0) 0 rfl rfl rfl ?_
          refine r_iload rfl rfl ?_
          refine r_iconst 4 rfl ci_4 ?_
          refine r_iadd rfl ?_
          obtain ⟨hi535, hE⟩ := ckE hE
          refine r_sld rfl ha2 hk531 hi535 ?_
          obtain ⟨a_536, ha537, hE⟩ := bnE hE
          obtain ⟨hk538, hE⟩ := ckE hE
          obtain ⟨v539, h540, hq541, hE⟩ := bdE hE
          refine r_callV1 (rest := [.int v528]) (hc := (Mo_years_ok g N _ _ _ _ _ _ _ _ hq541 D2 (by omega))) rfl pm_Mo_years lw_L_166 im_Mo_years sl_Mo_years ha537 rfl rfl (rcOK hk538 rfl) (by simp only [List.map_cons, List.map_nil, rf_cat, cat_i, cat_l, List.sum_cons, List.sum_nil]; decide) ?_
          refine r_icmp_eq (tgt := 1441) rfl (by decide) (fun hc542 => ?_) (fun hc542 => ?_)
          · have hE := ifP hc542 hE
            first | exact r_sb (La_law_b1441_ok g hst N _ hD _ ih  _ _ _ _ _ _ _ _ hE) ⟨rfl, rfl, rfl, rfl, rfl, trivial⟩ | exact r_sb (La_law_b1441_ok g hst N _ hD _ ih  _ _ _ _ _ _ _ _ hE) (by simp only [su1, su2, dr1_rf, dr1_in, dr1_lo, dr2_rf, dr2_in, dr2_lo]; exact ⟨rfl, rfl, rfl, rfl, rfl, trivial⟩)
          · have hE := ifN hc542 hE
            refine r_iconst 0 rfl ci_0 ?_
            cases hE
            exact r_ret rfl (Or.inl ⟨rfl, _, _, rfl, rfl, rfl, rfl⟩)
        have hE := ifN hx520 hE
        rcases Decidable.em (((hI h a_1 (ix x4)) &&& 31) = 29) with hx543 | hx543
        · have hE := ifP hx543 hE
          refine r_tabIn (tgt := 1350) 29 rfl hc6 (by rw [hx543]; decide +kernel) rfl (by decide) ?_
          refine r_aload_n (t := x1) 1 rfl rfl rfl ?_
          refine r_aload_n (t := x0) 0 rfl rfl rfl ?_
          refine r_iload rfl rfl ?_
          refine r_iconst 1 rfl ci_1 ?_
          refine r_iadd rfl ?_
          obtain ⟨hi544, hE⟩ := ckE hE
          refine r_sld rfl ha2 hk3 hi544 ?_
          refine r_aload_n (t := x0) 0 rfl rfl rfl ?_
          refine r_iload rfl rfl ?_
          refine r_iconst 2 rfl ci_2 ?_
          refine r_iadd rfl ?_
          obtain ⟨hi545, hE⟩ := ckE hE
          refine r_sld rfl ha2 hk3 hi545 ?_
          refine r_if_eq (tgt := 1370) rfl (by decide) (fun hc546 => ?_) (fun hc546 => ?_)
          · have hE := ifP hc546 hE
            refine r_iconst 0 rfl ci_0 ?_
            first | exact r_sb (La_law_b1371_ok g hst N _ hD _ ih  _ _ _ _ _ _ _ _ _ _ _ hE) ⟨rfl, rfl, rfl, rfl, rfl, trivial⟩ | exact r_sb (La_law_b1371_ok g hst N _ hD _ ih  _ _ _ _ _ _ _ _ _ _ _ hE) (by simp only [su1, su2, dr1_rf, dr1_in, dr1_lo, dr2_rf, dr2_in, dr2_lo]; exact ⟨rfl, rfl, rfl, rfl, rfl, trivial⟩)
          · have hE := ifN hc546 hE
            refine r_iconst 1 rfl ci_1 ?_
            refine r_goto (tgt := 1371) rfl (by decide) ?_
            first | exact r_sb (La_law_b1371_ok g hst N _ hD _ ih  _ _ _ _ _ _ _ _ _ _ _ hE) ⟨rfl, rfl, rfl, rfl, rfl, trivial⟩ | exact r_sb (La_law_b1371_ok g hst N _ hD _ ih  _ _ _ _ _ _ _ _ _ _ _ hE) (by simp only [su1, su2, dr1_rf, dr1_in, dr1_lo, dr2_rf, dr2_in, dr2_lo]; exact ⟨rfl, rfl, rfl, rfl, rfl, trivial⟩)
        have hE := ifN hx543 hE
        rcases Decidable.em (((hI h a_1 (ix x4)) &&& 31) = 30) with hx547 | hx547
        · have hE := ifP hx547 hE
          refine r_tabIn (tgt := 1403) 30 rfl hc6 (by rw [hx547]; decide +kernel) rfl (by decide) ?_
          refine r_aload_n (t := x1) 1 rfl rfl rfl ?_
          obtain ⟨a_548, ha549, hE⟩ := bnE hE
          obtain ⟨hk550, hE⟩ := ckE hE
          obtain ⟨v551, h552, hq553, hE⟩ := bdE hE
          refine r_callV1 (rest := []) (hc := (Le_score_ok g N _ _ _ _ hq553 D2 (by omega))) rfl pm_Le_score lw_L_172 im_Le_score sl_Le_score ha549 rfl rfl (rcOK hk550 rfl) (by decide) ?_
          refine r_aload_n (t := x2) 2 rfl rfl rfl ?_
          obtain ⟨a_554, ha555, hE⟩ := bnE hE
          obtain ⟨hk556, hE⟩ := ckE hE
          obtain ⟨v557, h558, hq559, hE⟩ := bdE hE
          refine r_callV1 (rest := [.int v551]) (hc := (Mo_score_ok g N _ _ _ _ hq559 D2 (by omega))) rfl pm_Mo_score lw_L_175 im_Mo_score sl_Mo_score ha555 rfl rfl (rcOK hk556 rfl) (by simp only [List.map_cons, List.map_nil, rf_cat, cat_i, cat_l, List.sum_cons, List.sum_nil]; decide) ?_
          refine r_icmp_eq (tgt := 1441) rfl (by decide) (fun hc560 => ?_) (fun hc560 => ?_)
          · have hE := ifP hc560 hE
            first | exact r_sb (La_law_b1441_ok g hst N _ hD _ ih  _ _ _ _ _ _ _ _ hE) ⟨rfl, rfl, rfl, rfl, rfl, trivial⟩ | exact r_sb (La_law_b1441_ok g hst N _ hD _ ih  _ _ _ _ _ _ _ _ hE) (by simp only [su1, su2, dr1_rf, dr1_in, dr1_lo, dr2_rf, dr2_in, dr2_lo]; exact ⟨rfl, rfl, rfl, rfl, rfl, trivial⟩)
          · have hE := ifN hc560 hE
            refine r_iconst 0 rfl ci_0 ?_
            cases hE
            exact r_ret rfl (Or.inl ⟨rfl, _, _, rfl, rfl, rfl, rfl⟩)
        have hE := ifN hx547 hE
        rcases Decidable.em (((hI h a_1 (ix x4)) &&& 31) = 31) with hx561 | hx561
        · have hE := ifP hx561 hE
          refine r_tabIn (tgt := 1416) 31 rfl hc6 (by rw [hx561]; decide +kernel) rfl (by decide) ?_
          refine r_aload_n (t := x1) 1 rfl rfl rfl ?_
          refine r_aload_n (t := x0) 0 rfl rfl rfl ?_
          refine r_iload rfl rfl ?_
          refine r_iconst 1 rfl ci_1 ?_
          refine r_iadd rfl ?_
          obtain ⟨hi562, hE⟩ := ckE hE
          refine r_sld rfl ha2 hk3 hi562 ?_
          obtain ⟨a_563, ha564, hE⟩ := bnE hE
          obtain ⟨hk565, hE⟩ := ckE hE
          obtain ⟨v566, h567, hq568, hE⟩ := bdE hE
          refine r_callV1 (rest := []) (hc := (Le_count_ok g N _ _ _ _ _ hq568 D2 (by omega))) rfl pm_Le_count lw_L_176 im_Le_count sl_Le_count ha564 rfl rfl (rcOK hk565 rfl) (by decide) ?_
          refine r_aload_n (t := x2) 2 rfl rfl rfl ?_
          refine r_aload_n (t := x0) 0 rfl rfl rfl ?_
          refine r_iload rfl rfl ?_
          refine r_iconst 1 rfl ci_1 ?_
          refine r_iadd rfl ?_
          obtain ⟨hk569, hE⟩ := ckE hE
          obtain ⟨hi570, hE⟩ := ckE hE
          refine r_sld rfl ha2 hk569 hi570 ?_
          obtain ⟨a_571, ha572, hE⟩ := bnE hE
          obtain ⟨hk573, hE⟩ := ckE hE
          obtain ⟨v574, h575, hq576, hE⟩ := bdE hE
          refine r_callV1 (rest := [.int v566]) (hc := (Mo_count_ok g N _ _ _ _ _ hq576 D2 (by omega))) rfl pm_Mo_count lw_L_179 im_Mo_count sl_Mo_count ha572 rfl rfl (rcOK hk573 rfl) (by simp only [List.map_cons, List.map_nil, rf_cat, cat_i, cat_l, List.sum_cons, List.sum_nil]; decide) ?_
          refine r_icmp_eq (tgt := 1441) rfl (by decide) (fun hc577 => ?_) (fun hc577 => ?_)
          · have hE := ifP hc577 hE
            first | exact r_sb (La_law_b1441_ok g hst N _ hD _ ih  _ _ _ _ _ _ _ _ hE) ⟨rfl, rfl, rfl, rfl, rfl, trivial⟩ | exact r_sb (La_law_b1441_ok g hst N _ hD _ ih  _ _ _ _ _ _ _ _ hE) (by simp only [su1, su2, dr1_rf, dr1_in, dr1_lo, dr2_rf, dr2_in, dr2_lo]; exact ⟨rfl, rfl, rfl, rfl, rfl, trivial⟩)
          · have hE := ifN hc577 hE
            refine r_iconst 0 rfl ci_0 ?_
            cases hE
            exact r_ret rfl (Or.inl ⟨rfl, _, _, rfl, rfl, rfl, rfl⟩)
        have hE := ifN hx561 hE
        exact nomatch hE
def La_law (g : GT) (N : Nat) (x0 : Option Nat) (h : PH) : Option (Bool × PH) :=
  lt0 (nw h (10, 0) 18) fun h1 =>
  ck ((hK h1 (hN h)).1 = 10) <|
  bd (Le_init g N (hN h) h1) fun v4 h5 =>
  lt0 (nw h5 (11, 0) 54) fun h7 =>
  ck ((hK h7 (hN h5)).1 = 11) <|
  bd (Mo_init N (hN h5) h7) fun v10 h11 =>
  ck (nb 1 = true) <|
  lt0 (nw h11 (23, ix 1) (ix 1)) fun h14 =>
  La_law_b23 g N N x0 (some (hN h)) (some (hN h5)) (some (hN h11)) 0 h14
set_option maxRecDepth 40000 in
theorem La_law_ok (g : GT) (hst : (gl g).stackTraces = false) (N : Nat) (x0 : Option Nat) (h : PH) (v : Bool) (h' : PH) (hE : La_law g N x0 h = some (v, h')) (D : Nat) (hD : 69 ≤ D) : Run g pLa_law D 0 [(0, va_rf x0)] [] h (rZ v) h' := by
  obtain ⟨D2, rfl⟩ : ∃ d, D = d + 1 := ⟨D - 1, by omega⟩
  unfold La_law at hE
  obtain ⟨h1, he2, hE⟩ := ltE hE
  refine r_new (ci := 10) rfl rfl cw_L_8 ins_10 ini_10 he2 ?_
  refine r_dup rfl (rf_cat _) ?_
  obtain ⟨hk3, hE⟩ := ckE hE
  obtain ⟨v4, h5, hq6, hE⟩ := bdE hE
  refine r_callI0 (rest := [va_rf (some (hN h))]) (hc := (Le_init_ok g N _ _ _ _ hq6 D2 (by omega))) rfl pm_Le_init rfl rfl lw_L_41 im_Le_init rfl rfl rfl (by simp only [List.map_cons, List.map_nil, rf_cat, cat_i, cat_l, List.sum_cons, List.sum_nil]; decide) ?_
  refine r_astore_n 1 rfl rfl (by decide) ?_
  obtain ⟨h7, he8, hE⟩ := ltE hE
  refine r_new (ci := 11) rfl rfl cw_L_42 ins_11 ini_11 he8 ?_
  refine r_dup rfl (rf_cat _) ?_
  obtain ⟨hk9, hE⟩ := ckE hE
  obtain ⟨v10, h11, hq12, hE⟩ := bdE hE
  refine r_callI0 (rest := [va_rf (some (hN h5))]) (hc := (Mo_init_ok g N _ _ _ _ hq12 D2 (by omega))) rfl pm_Mo_init rfl rfl lw_L_44 im_Mo_init rfl rfl rfl (by simp only [List.map_cons, List.map_nil, rf_cat, cat_i, cat_l, List.sum_cons, List.sum_nil]; decide) ?_
  refine r_astore_n 2 rfl rfl (by decide) ?_
  refine r_iconst 1 rfl ci_1 ?_
  obtain ⟨hc13, hE⟩ := ckE hE
  obtain ⟨h14, he15, hE⟩ := ltE hE
  refine r_newa (kd := 23) rfl (by decide) (by decide) rfl aw_23 hc13 he15 ?_
  refine r_astore_n 3 rfl rfl (by decide) ?_
  refine r_iconst 0 rfl ci_0 ?_
  refine r_istore rfl (by decide) ?_
  first | exact r_sb (La_law_b23_ok g hst N _ hD  N _ _ _ _ _ _ _ _ hE) ⟨rfl, rfl, rfl, rfl, rfl, trivial⟩ | exact r_sb (La_law_b23_ok g hst N _ hD  N _ _ _ _ _ _ _ _ hE) (by simp only [su1, su2, dr1_rf, dr1_in, dr1_lo, dr2_rf, dr2_in, dr2_lo]; exact ⟨rfl, rfl, rfl, rfl, rfl, trivial⟩)
