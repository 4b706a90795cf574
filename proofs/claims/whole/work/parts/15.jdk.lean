def Js_coder (N : Nat) (a0 : Nat) (h : PH) : Option (Int32 × PH) :=
  if (1 : Int32) = 0 then
    ck (narrow FieldType.byte (Value.int 1) = Value.int 1) <|
    some (1, h)
  else
    ck ((hK h a0).1 = 28) <|
    ck (narrow FieldType.byte (Value.int (hI h a0 1)) = Value.int (hI h a0 1)) <|
    some ((hI h a0 1), h)
set_option maxRecDepth 20000 in
theorem Js_coder_ok (g : GT) (N : Nat) (a0 : Nat) (h : PH) (v : Int32) (h' : PH) (hE : Js_coder N a0 h = some (v, h')) (D : Nat) (hD : 0 ≤ D) : Calls g D pJs_coder [va_rf (some a0)] h (oI v) h' := by
  refine Calls.of cok_Js_coder ht_Js_coder pl_Js_coder (fun ad => by rw [lg_len, sL_cat]; simp only [List.map_cons, List.map_nil, rf_cat, cat_i, cat_l, List.sum_cons, List.sum_nil]; decide) ?_
  rw [show lv_args 0 [va_rf (some a0)] = [(0, va_rf (some a0))] from (by simp only [lv_args, rf_cat, cat_i, cat_l]; try rfl)]
  unfold Js_coder at hE
  refine r_gstB rfl (gt1 46 rfl rfl) ?_
  refine r_if_eq (tgt := 13) rfl (by decide) (fun hc1 => ?_) (fun hc1 => ?_)
  · have hE := ifP hc1 hE
    refine r_iconst 1 rfl ci_1 ?_
    obtain ⟨hc2, hE⟩ := ckE hE
    cases hE
    exact r_ret rfl (Or.inl ⟨rfl, _, _, rfl, rfl, rfl, hc2⟩)
  · have hE := ifN hc1 hE
    refine r_aload_n (t := some a0) 0 rfl rfl rfl ?_
    obtain ⟨hk3, hE⟩ := ckE hE
    refine r_strI rfl (gt9 6 rfl rfl) rfl hk3 ?_
    refine r_goto (tgt := 14) rfl (by decide) ?_
    obtain ⟨hc4, hE⟩ := ckE hE
    cases hE
    exact r_ret rfl (Or.inl ⟨rfl, _, _, rfl, rfl, rfl, hc4⟩)
def Js_length (N : Nat) (a0 : Nat) (h : PH) : Option (Int32 × PH) :=
  ck ((hK h a0).1 = 28) <|
  ((hR h a0 0)).bind fun a_2 =>
  ck ((hK h a_2).1 = 27) <|
  bd (Js_coder N a0 h) fun v5 h6 =>
  some (((Int32.ofNat (hK h a_2).2) >>> (v5 &&& 31)), h6)
set_option maxRecDepth 20000 in
theorem Js_length_ok (g : GT) (N : Nat) (a0 : Nat) (h : PH) (v : Int32) (h' : PH) (hE : Js_length N a0 h = some (v, h')) (D : Nat) (hD : 1 ≤ D) : Calls g D pJs_length [va_rf (some a0)] h (oI v) h' := by
  refine Calls.of cok_Js_length ht_Js_length pl_Js_length (fun ad => by rw [lg_len, sL_cat]; simp only [List.map_cons, List.map_nil, rf_cat, cat_i, cat_l, List.sum_cons, List.sum_nil]; decide) ?_
  rw [show lv_args 0 [va_rf (some a0)] = [(0, va_rf (some a0))] from (by simp only [lv_args, rf_cat, cat_i, cat_l]; try rfl)]
  obtain ⟨D2, rfl⟩ : ∃ d, D = d + 1 := ⟨D - 1, by omega⟩
  unfold Js_length at hE
  refine r_aload_n (t := some a0) 0 rfl rfl rfl ?_
  obtain ⟨hk1, hE⟩ := ckE hE
  refine r_strR rfl (gt9 5 rfl rfl) rfl hk1 ?_
  obtain ⟨a_2, ha3, hE⟩ := bnE hE
  obtain ⟨hk4, hE⟩ := ckE hE
  refine r_alen7 rfl ha3 hk4 ?_
  refine r_aload_n (t := some a0) 0 rfl rfl rfl ?_
  obtain ⟨v5, h6, hq7, hE⟩ := bdE hE
  refine r_callV1 (rest := [.int (Int32.ofNat (hK h a_2).2)]) (hc := (Js_coder_ok g N _ _ _ _ hq7 D2 (by omega))) rfl pm_Js_coder lw_Js_335 im_Js_coder sl_Js_coder rfl rfl rfl (rcOK hk1 rfl) (by simp only [List.map_cons, List.map_nil, rf_cat, cat_i, cat_l, List.sum_cons, List.sum_nil]; decide) ?_
  refine r_ishr rfl ?_
  cases hE
  exact r_ret rfl (Or.inl ⟨rfl, _, _, rfl, rfl, rfl, rfl⟩)
def Js_isLatin1 (N : Nat) (a0 : Nat) (h : PH) : Option (Bool × PH) :=
  if (1 : Int32) = 0 then
    some (false, h)
  else
    ck ((hK h a0).1 = 28) <|
    if (hI h a0 1) = 0 then
      some (true, h)
    else
      some (false, h)
set_option maxRecDepth 20000 in
theorem Js_isLatin1_ok (g : GT) (N : Nat) (a0 : Nat) (h : PH) (v : Bool) (h' : PH) (hE : Js_isLatin1 N a0 h = some (v, h')) (D : Nat) (hD : 0 ≤ D) : Calls g D pJs_isLatin1 [va_rf (some a0)] h (oZ v) h' := by
  refine Calls.of cok_Js_isLatin1 ht_Js_isLatin1 pl_Js_isLatin1 (fun ad => by rw [lg_len, sL_cat]; simp only [List.map_cons, List.map_nil, rf_cat, cat_i, cat_l, List.sum_cons, List.sum_nil]; decide) ?_
  rw [show lv_args 0 [va_rf (some a0)] = [(0, va_rf (some a0))] from (by simp only [lv_args, rf_cat, cat_i, cat_l]; try rfl)]
  unfold Js_isLatin1 at hE
  refine r_gstB rfl (gt1 46 rfl rfl) ?_
  refine r_if_eq (tgt := 17) rfl (by decide) (fun hc1 => ?_) (fun hc1 => ?_)
  · have hE := ifP hc1 hE
    refine r_iconst 0 rfl ci_0 ?_
    cases hE
    exact r_ret rfl (Or.inl ⟨rfl, _, _, rfl, rfl, rfl, rfl⟩)
  · have hE := ifN hc1 hE
    refine r_aload_n (t := some a0) 0 rfl rfl rfl ?_
    obtain ⟨hk2, hE⟩ := ckE hE
    refine r_strI rfl (gt9 6 rfl rfl) rfl hk2 ?_
    refine r_if_ne (tgt := 17) rfl (by decide) (fun hc3 => ?_) (fun hc3 => ?_)
    · have hE := ifP hc3 hE
      refine r_iconst 1 rfl ci_1 ?_
      refine r_goto (tgt := 18) rfl (by decide) ?_
      cases hE
      exact r_ret rfl (Or.inl ⟨rfl, _, _, rfl, rfl, rfl, rfl⟩)
    · have hE := ifN hc3 hE
      refine r_iconst 0 rfl ci_0 ?_
      cases hE
      exact r_ret rfl (Or.inl ⟨rfl, _, _, rfl, rfl, rfl, rfl⟩)
def Jp_checkIndex_b9 (N : Nat) (x0 : Int32) (x1 : Int32) (x2 : Option Nat) (h : PH) : Option (Int32 × PH) :=
  none
set_option maxRecDepth 20000 in
theorem Jp_checkIndex_b9_ok (g : GT) (N : Nat) (D : Nat) (hD : 0 ≤ D) : ∀ (x0 : Int32) (x1 : Int32) (x2 : Option Nat) (h : PH) (v : Int32) (h' : PH), Jp_checkIndex_b9 N x0 x1 x2 h = some (v, h') → Run g pJp_checkIndex D 9 [(0, .int x0), (1, .int x1), (2, va_rf x2)] [] h (rI v) h' := by
  intro x0 x1 x2 h v h' hE
  unfold Jp_checkIndex_b9 at hE
  refine r_aload_n (t := x2) 2 rfl rfl rfl ?_
  refine r_iload_n 0 rfl rfl rfl ?_
  refine r_iload_n 1 rfl rfl rfl ?_
  exact nomatch hE
def Jp_checkIndex (N : Nat) (x0 : Int32) (x1 : Int32) (x2 : Option Nat) (h : PH) : Option (Int32 × PH) :=
  if x0 < 0 then
    Jp_checkIndex_b9 N  x0 x1 x2 h
  else
    if x0 < x1 then
      some (x0, h)
    else
      Jp_checkIndex_b9 N  x0 x1 x2 h
set_option maxRecDepth 20000 in
theorem Jp_checkIndex_ok (g : GT) (N : Nat) (x0 : Int32) (x1 : Int32) (x2 : Option Nat) (h : PH) (v : Int32) (h' : PH) (hE : Jp_checkIndex N x0 x1 x2 h = some (v, h')) (D : Nat) (hD : 0 ≤ D) : Calls g D pJp_checkIndex [.int x0, .int x1, va_rf x2] h (oI v) h' := by
  refine Calls.of cok_Jp_checkIndex ht_Jp_checkIndex pl_Jp_checkIndex (fun ad => by rw [lg_len, sL_cat]; simp only [List.map_cons, List.map_nil, rf_cat, cat_i, cat_l, List.sum_cons, List.sum_nil]; decide) ?_
  rw [show lv_args 0 [.int x0, .int x1, va_rf x2] = [(0, .int x0), (1, .int x1), (2, va_rf x2)] from (by simp only [lv_args, rf_cat, cat_i, cat_l]; try rfl)]
  unfold Jp_checkIndex at hE
  refine r_iload_n 0 rfl rfl rfl ?_
  refine r_if_lt (tgt := 9) rfl (by decide) (fun hc1 => ?_) (fun hc1 => ?_)
  · have hE := ifP hc1 hE
    first | exact r_sb (Jp_checkIndex_b9_ok g N _ hD   _ _ _ _ _ _ hE) ⟨rfl, rfl, rfl, trivial⟩ | exact r_sb (Jp_checkIndex_b9_ok g N _ hD   _ _ _ _ _ _ hE) (by simp only [su1, su2, dr1_rf, dr1_in, dr1_lo, dr2_rf, dr2_in, dr2_lo]; exact ⟨rfl, rfl, rfl, trivial⟩)
  · have hE := ifN hc1 hE
    refine r_iload_n 0 rfl rfl rfl ?_
    refine r_iload_n 1 rfl rfl rfl ?_
    refine r_icmp_lt (tgt := 16) rfl (by decide) (fun hc2 => ?_) (fun hc2 => ?_)
    · have hE := ifP hc2 hE
      refine r_iload_n 0 rfl rfl rfl ?_
      cases hE
      exact r_ret rfl (Or.inl ⟨rfl, _, _, rfl, rfl, rfl, rfl⟩)
    · have hE := ifN hc2 hE
      first | exact r_sb (Jp_checkIndex_b9_ok g N _ hD   _ _ _ _ _ _ hE) ⟨rfl, rfl, rfl, trivial⟩ | exact r_sb (Jp_checkIndex_b9_ok g N _ hD   _ _ _ _ _ _ hE) (by simp only [su1, su2, dr1_rf, dr1_in, dr1_lo, dr2_rf, dr2_in, dr2_lo]; exact ⟨rfl, rfl, rfl, trivial⟩)
def Js_checkIndex (g : GT) (N : Nat) (x0 : Int32) (x1 : Int32) (h : PH) : Option (Unit × PH) :=
  bd (Jp_checkIndex N x0 x1 (gV g) h) fun v1 h2 =>
  some ((), h2)
set_option maxRecDepth 20000 in
theorem Js_checkIndex_ok (g : GT) (N : Nat) (x0 : Int32) (x1 : Int32) (h : PH) (v : Unit) (h' : PH) (hE : Js_checkIndex g N x0 x1 h = some (v, h')) (D : Nat) (hD : 1 ≤ D) : Calls g D pJs_checkIndex [.int x0, .int x1] h (oV v) h' := by
  refine Calls.of cok_Js_checkIndex ht_Js_checkIndex pl_Js_checkIndex (fun ad => by rw [lg_len, sL_cat]; simp only [List.map_cons, List.map_nil, rf_cat, cat_i, cat_l, List.sum_cons, List.sum_nil]; decide) ?_
  rw [show lv_args 0 [.int x0, .int x1] = [(0, .int x0), (1, .int x1)] from (by simp only [lv_args, rf_cat, cat_i, cat_l]; try rfl)]
  obtain ⟨D2, rfl⟩ : ∃ d, D = d + 1 := ⟨D - 1, by omega⟩
  unfold Js_checkIndex at hE
  refine r_iload_n 0 rfl rfl rfl ?_
  refine r_iload_n 1 rfl rfl rfl ?_
  refine r_gstO rfl (gt1 62 rfl rfl) ?_
  obtain ⟨v1, h2, hq3, hE⟩ := bdE hE
  refine r_callS1 (rest := []) (hc := (Jp_checkIndex_ok g N _ _ _ _ _ _ hq3 D2 (by omega))) rfl pm_Jp_checkIndex lw_Js_1059 st_Jp_checkIndex rfl rfl (by decide) ?_
  refine r_pop rfl rfl ?_
  cases hE
  exact r_ret rfl (Or.inr (Or.inr (Or.inr ⟨rfl, rfl, rfl, rfl⟩)))
def Jl_charAt (g : GT) (N : Nat) (x0 : Option Nat) (x1 : Int32) (h : PH) : Option (Int32 × PH) :=
  (x0).bind fun a_1 =>
  ck ((hK h a_1).1 = 27) <|
  bd (Js_checkIndex g N x1 (Int32.ofNat (hK h a_1).2) h) fun v4 h5 =>
  ck ((hK h5 a_1).1 = 27) <|
  ck (inb x1 (hK h5 a_1).2 = true) <|
  ck (narrow FieldType.char (Value.int ((Int32.toUInt32 ((hI h5 a_1 (ix x1)) &&& 255) % 65536).toInt32)) = Value.int ((Int32.toUInt32 ((hI h5 a_1 (ix x1)) &&& 255) % 65536).toInt32)) <|
  some (((Int32.toUInt32 ((hI h5 a_1 (ix x1)) &&& 255) % 65536).toInt32), h5)
set_option maxRecDepth 20000 in
theorem Jl_charAt_ok (g : GT) (N : Nat) (x0 : Option Nat) (x1 : Int32) (h : PH) (v : Int32) (h' : PH) (hE : Jl_charAt g N x0 x1 h = some (v, h')) (D : Nat) (hD : 2 ≤ D) : Calls g D pJl_charAt [va_rf x0, .int x1] h (oI v) h' := by
  refine Calls.of cok_Jl_charAt ht_Jl_charAt pl_Jl_charAt (fun ad => by rw [lg_len, sL_cat]; simp only [List.map_cons, List.map_nil, rf_cat, cat_i, cat_l, List.sum_cons, List.sum_nil]; decide) ?_
  rw [show lv_args 0 [va_rf x0, .int x1] = [(0, va_rf x0), (1, .int x1)] from (by simp only [lv_args, rf_cat, cat_i, cat_l]; try rfl)]
  obtain ⟨D2, rfl⟩ : ∃ d, D = d + 1 := ⟨D - 1, by omega⟩
  unfold Jl_charAt at hE
  refine r_iload_n 1 rfl rfl rfl ?_
  refine r_aload_n (t := x0) 0 rfl rfl rfl ?_
  obtain ⟨a_1, ha2, hE⟩ := bnE hE
  obtain ⟨hk3, hE⟩ := ckE hE
  refine r_alen7 rfl ha2 hk3 ?_
  obtain ⟨v4, h5, hq6, hE⟩ := bdE hE
  refine r_callS0 (rest := []) (hc := (Js_checkIndex_ok g N _ _ _ _ _ hq6 D2 (by omega))) rfl pm_Js_checkIndex lw_Jl_9 st_Js_checkIndex rfl rfl (by decide) ?_
  refine r_aload_n (t := x0) 0 rfl rfl rfl ?_
  refine r_iload_n 1 rfl rfl rfl ?_
  obtain ⟨hk7, hE⟩ := ckE hE
  obtain ⟨hi8, hE⟩ := ckE hE
  refine r_bald7 rfl ha2 hk7 hi8 ?_
  refine r_sipush 255 rfl cs_255 ?_
  refine r_iand rfl ?_
  refine r_i2c rfl ?_
  obtain ⟨hc9, hE⟩ := ckE hE
  cases hE
  exact r_ret rfl (Or.inl ⟨rfl, _, _, rfl, rfl, rfl, hc9⟩)
def Js_charAt (g : GT) (N : Nat) (a0 : Nat) (x1 : Int32) (h : PH) : Option (Int32 × PH) :=
  ck ((hK h a0).1 = 28) <|
  bd (Js_isLatin1 N a0 h) fun v2 h3 =>
  if (bI v2) = 0 then
    ck ((hK h3 a0).1 = 28) <|
    none
  else
    ck ((hK h3 a0).1 = 28) <|
    bd (Jl_charAt g N (hR h3 a0 0) x1 h3) fun v8 h9 =>
    ck (narrow FieldType.char (Value.int v8) = Value.int v8) <|
    some (v8, h9)
set_option maxRecDepth 20000 in
theorem Js_charAt_ok (g : GT) (N : Nat) (a0 : Nat) (x1 : Int32) (h : PH) (v : Int32) (h' : PH) (hE : Js_charAt g N a0 x1 h = some (v, h')) (D : Nat) (hD : 3 ≤ D) : Calls g D pJs_charAt [va_rf (some a0), .int x1] h (oI v) h' := by
  refine Calls.of cok_Js_charAt ht_Js_charAt pl_Js_charAt (fun ad => by rw [lg_len, sL_cat]; simp only [List.map_cons, List.map_nil, rf_cat, cat_i, cat_l, List.sum_cons, List.sum_nil]; decide) ?_
  rw [show lv_args 0 [va_rf (some a0), .int x1] = [(0, va_rf (some a0)), (1, .int x1)] from (by simp only [lv_args, rf_cat, cat_i, cat_l]; try rfl)]
  obtain ⟨D2, rfl⟩ : ∃ d, D = d + 1 := ⟨D - 1, by omega⟩
  unfold Js_charAt at hE
  refine r_aload_n (t := some a0) 0 rfl rfl rfl ?_
  obtain ⟨hk1, hE⟩ := ckE hE
  obtain ⟨v2, h3, hq4, hE⟩ := bdE hE
  refine r_callV1 (rest := []) (hc := (Js_isLatin1_ok g N _ _ _ _ hq4 D2 (by omega))) rfl pm_Js_isLatin1 lw_Js_492 im_Js_isLatin1 sl_Js_isLatin1 rfl rfl rfl (rcOK hk1 rfl) (by decide) ?_
  refine r_if_eq (tgt := 16) rfl (by decide) (fun hc5 => ?_) (fun hc5 => ?_)
  · have hE := ifP hc5 hE
    refine r_aload_n (t := some a0) 0 rfl rfl rfl ?_
    obtain ⟨hk6, hE⟩ := ckE hE
    refine r_strR rfl (gt9 5 rfl rfl) rfl hk6 ?_
    refine r_iload_n 1 rfl rfl rfl ?_
    exact nomatch hE
  · have hE := ifN hc5 hE
    refine r_aload_n (t := some a0) 0 rfl rfl rfl ?_
    obtain ⟨hk7, hE⟩ := ckE hE
    refine r_strR rfl (gt9 5 rfl rfl) rfl hk7 ?_
    refine r_iload_n 1 rfl rfl rfl ?_
    obtain ⟨v8, h9, hq10, hE⟩ := bdE hE
    refine r_callS1 (rest := []) (hc := (Jl_charAt_ok g N _ _ _ _ _ hq10 D2 (by omega))) rfl pm_Jl_charAt lw_Js_495 st_Jl_charAt rfl rfl (by decide) ?_
    obtain ⟨hc11, hE⟩ := ckE hE
    cases hE
    exact r_ret rfl (Or.inl ⟨rfl, _, _, rfl, rfl, rfl, hc11⟩)
def Jl_canEncode (N : Nat) (x0 : Int32) (h : PH) : Option (Bool × PH) :=
  if x0 < 0 then
    some (false, h)
  else
    if 255 < x0 then
      some (false, h)
    else
      some (true, h)
set_option maxRecDepth 20000 in
theorem Jl_canEncode_ok (g : GT) (N : Nat) (x0 : Int32) (h : PH) (v : Bool) (h' : PH) (hE : Jl_canEncode N x0 h = some (v, h')) (D : Nat) (hD : 0 ≤ D) : Calls g D pJl_canEncode [.int x0] h (oZ v) h' := by
  refine Calls.of cok_Jl_canEncode ht_Jl_canEncode pl_Jl_canEncode (fun ad => by rw [lg_len, sL_cat]; simp only [List.map_cons, List.map_nil, rf_cat, cat_i, cat_l, List.sum_cons, List.sum_nil]; decide) ?_
  rw [show lv_args 0 [.int x0] = [(0, .int x0)] from (by simp only [lv_args, rf_cat, cat_i, cat_l]; try rfl)]
  unfold Jl_canEncode at hE
  refine r_iload_n 0 rfl rfl rfl ?_
  refine r_if_lt (tgt := 15) rfl (by decide) (fun hc1 => ?_) (fun hc1 => ?_)
  · have hE := ifP hc1 hE
    refine r_iconst 0 rfl ci_0 ?_
    cases hE
    exact r_ret rfl (Or.inl ⟨rfl, _, _, rfl, rfl, rfl, rfl⟩)
  · have hE := ifN hc1 hE
    refine r_iload_n 0 rfl rfl rfl ?_
    refine r_sipush 255 rfl cs_255 ?_
    refine r_icmp_gt (tgt := 15) rfl (by decide) (fun hc2 => ?_) (fun hc2 => ?_)
    · have hE := ifP hc2 hE
      refine r_iconst 0 rfl ci_0 ?_
      cases hE
      exact r_ret rfl (Or.inl ⟨rfl, _, _, rfl, rfl, rfl, rfl⟩)
    · have hE := ifN hc2 hE
      refine r_iconst 1 rfl ci_1 ?_
      refine r_goto (tgt := 16) rfl (by decide) ?_
      cases hE
      exact r_ret rfl (Or.inl ⟨rfl, _, _, rfl, rfl, rfl, rfl⟩)
def Jl_indexOfChar_b7 (N : Nat) : Nat → Option Nat → Int32 → Int32 → Int32 → PH → Option (Int32 × PH)
  | 0 => fun _ _ _ _ _ => none
  | n + 1 => fun x0 x3 x4 x5 h =>
    if x3 ≤ x5 then
      some ((-1), h)
    else
      (x0).bind fun a_2 =>
      ck ((hK h a_2).1 = 27) <|
      ck (inb x5 (hK h a_2).2 = true) <|
      if (hI h a_2 (ix x5)) = x4 then
        some (x5, h)
      else
        (Jl_indexOfChar_b7 N n) x0 x3 x4 (x5 + 1) h
set_option maxRecDepth 20000 in
theorem Jl_indexOfChar_b7_ok (g : GT) (N : Nat) (D : Nat) (hD : 0 ≤ D) : ∀ (n : Nat) (x0 : Option Nat) (x3 : Int32) (x4 : Int32) (x5 : Int32) (h : PH) (v : Int32) (h' : PH), Jl_indexOfChar_b7 N n x0 x3 x4 x5 h = some (v, h') → Run g pJl_indexOfChar D 7 [(0, va_rf x0), (3, .int x3), (4, .int x4), (5, .int x5)] [] h (rI v) h' := by
  intro n
  induction n with
  | zero => exact fun _ _ _ _ _ _ _ hE => nomatch (show none = some _ from hE)
  | succ n ih =>
    intro x0 x3 x4 x5 h v h' hE
    unfold Jl_indexOfChar_b7 at hE
    refine r_iload rfl rfl ?_
    refine r_iload_n 3 rfl rfl rfl ?_
    refine r_icmp_ge (tgt := 31) rfl (by decide) (fun hc1 => ?_) (fun hc1 => ?_)
    · have hE := ifP hc1 hE
      refine r_iconst (-1) rfl ci_m1 ?_
      cases hE
      exact r_ret rfl (Or.inl ⟨rfl, _, _, rfl, rfl, rfl, rfl⟩)
    · have hE := ifN hc1 hE
      refine r_aload_n (t := x0) 0 rfl rfl rfl ?_
      refine r_iload rfl rfl ?_
      obtain ⟨a_2, ha3, hE⟩ := bnE hE
      obtain ⟨hk4, hE⟩ := ckE hE
      obtain ⟨hi5, hE⟩ := ckE hE
      refine r_bald7 rfl ha3 hk4 hi5 ?_
      refine r_iload rfl rfl ?_
      refine r_icmp_ne (tgt := 25) rfl (by decide) (fun hc6 => ?_) (fun hc6 => ?_)
      · have hE := ifP hc6 hE
        refine r_iload rfl rfl ?_
        cases hE
        exact r_ret rfl (Or.inl ⟨rfl, _, _, rfl, rfl, rfl, rfl⟩)
      · have hE := ifN hc6 hE
        refine r_iinc _ rfl rfl (congrArg _ ci_1) (by decide) ?_
        refine r_goto (tgt := 7) rfl (by decide) ?_
        first | exact r_sb (ih _ _ _ _ _ _ _ hE) ⟨rfl, rfl, rfl, rfl, trivial⟩ | exact r_sb (ih _ _ _ _ _ _ _ hE) (by simp only [su1, su2, dr1_rf, dr1_in, dr1_lo, dr2_rf, dr2_in, dr2_lo]; exact ⟨rfl, rfl, rfl, rfl, trivial⟩)
def Jl_indexOfChar (N : Nat) (x0 : Option Nat) (x1 : Int32) (x2 : Int32) (x3 : Int32) (h : PH) : Option (Int32 × PH) :=
  Jl_indexOfChar_b7 N N x0 x3 ((Int32.toInt8 x1).toInt32) x2 h
set_option maxRecDepth 20000 in
theorem Jl_indexOfChar_ok (g : GT) (N : Nat) (x0 : Option Nat) (x1 : Int32) (x2 : Int32) (x3 : Int32) (h : PH) (v : Int32) (h' : PH) (hE : Jl_indexOfChar N x0 x1 x2 x3 h = some (v, h')) (D : Nat) (hD : 0 ≤ D) : Calls g D pJl_indexOfChar [va_rf x0, .int x1, .int x2, .int x3] h (oI v) h' := by
  refine Calls.of cok_Jl_indexOfChar ht_Jl_indexOfChar pl_Jl_indexOfChar (fun ad => by rw [lg_len, sL_cat]; simp only [List.map_cons, List.map_nil, rf_cat, cat_i, cat_l, List.sum_cons, List.sum_nil]; decide) ?_
  rw [show lv_args 0 [va_rf x0, .int x1, .int x2, .int x3] = [(0, va_rf x0), (1, .int x1), (2, .int x2), (3, .int x3)] from (by simp only [lv_args, rf_cat, cat_i, cat_l]; try rfl)]
  unfold Jl_indexOfChar at hE
  refine r_iload_n 1 rfl rfl rfl ?_
  refine r_i2b rfl ?_
  refine r_istore rfl (by decide) ?_
  refine r_iload_n 2 rfl rfl rfl ?_
  refine r_istore rfl (by decide) ?_
  first | exact r_sb (Jl_indexOfChar_b7_ok g N _ hD  N _ _ _ _ _ _ _ hE) ⟨rfl, rfl, rfl, rfl, trivial⟩ | exact r_sb (Jl_indexOfChar_b7_ok g N _ hD  N _ _ _ _ _ _ _ hE) (by simp only [su1, su2, dr1_rf, dr1_in, dr1_lo, dr2_rf, dr2_in, dr2_lo]; exact ⟨rfl, rfl, rfl, rfl, trivial⟩)
def Jl_indexOf (N : Nat) (x0 : Option Nat) (x1 : Int32) (x2 : Int32) (x3 : Int32) (h : PH) : Option (Int32 × PH) :=
  bd (Jl_canEncode N x1 h) fun v1 h2 =>
  if (bI v1) = 0 then
    some ((-1), h2)
  else
    (x0).bind fun a_5 =>
    ck ((hK h2 a_5).1 = 27) <|
    if (mxI x2 0) < (mnI x3 (Int32.ofNat (hK h2 a_5).2)) then
      bd (Jl_indexOfChar N x0 x1 (mxI x2 0) (mnI x3 (Int32.ofNat (hK h2 a_5).2)) h2) fun v9 h10 =>
      some (v9, h10)
    else
      some ((-1), h2)
set_option maxRecDepth 20000 in
theorem Jl_indexOf_ok (g : GT) (N : Nat) (x0 : Option Nat) (x1 : Int32) (x2 : Int32) (x3 : Int32) (h : PH) (v : Int32) (h' : PH) (hE : Jl_indexOf N x0 x1 x2 x3 h = some (v, h')) (D : Nat) (hD : 1 ≤ D) : Calls g D pJl_indexOf [va_rf x0, .int x1, .int x2, .int x3] h (oI v) h' := by
  refine Calls.of cok_Jl_indexOf ht_Jl_indexOf pl_Jl_indexOf (fun ad => by rw [lg_len, sL_cat]; simp only [List.map_cons, List.map_nil, rf_cat, cat_i, cat_l, List.sum_cons, List.sum_nil]; decide) ?_
  rw [show lv_args 0 [va_rf x0, .int x1, .int x2, .int x3] = [(0, va_rf x0), (1, .int x1), (2, .int x2), (3, .int x3)] from (by simp only [lv_args, rf_cat, cat_i, cat_l]; try rfl)]
  obtain ⟨D2, rfl⟩ : ∃ d, D = d + 1 := ⟨D - 1, by omega⟩
  unfold Jl_indexOf at hE
  refine r_iload_n 1 rfl rfl rfl ?_
  obtain ⟨v1, h2, hq3, hE⟩ := bdE hE
  refine r_callS1 (rest := []) (hc := (Jl_canEncode_ok g N _ _ _ _ hq3 D2 (by omega))) rfl pm_Jl_canEncode lw_Jl_88 st_Jl_canEncode rfl rfl (by decide) ?_
  refine r_if_ne (tgt := 9) rfl (by decide) (fun hc4 => ?_) (fun hc4 => ?_)
  · have hE := ifP hc4 hE
    refine r_iconst (-1) rfl ci_m1 ?_
    cases hE
    exact r_ret rfl (Or.inl ⟨rfl, _, _, rfl, rfl, rfl, rfl⟩)
  · have hE := ifN hc4 hE
    refine r_iload_n 2 rfl rfl rfl ?_
    refine r_iconst 0 rfl ci_0 ?_
    refine r_mmax rfl (gt3 146 rfl rfl) mm_max1 mm_2 mm_max3 (by decide) ?_
    refine r_istore_n 2 rfl rfl (by decide) ?_
    refine r_iload_n 3 rfl rfl rfl ?_
    refine r_aload_n (t := x0) 0 rfl rfl rfl ?_
    obtain ⟨a_5, ha6, hE⟩ := bnE hE
    obtain ⟨hk7, hE⟩ := ckE hE
    refine r_alen7 rfl ha6 hk7 ?_
    refine r_mmin rfl (gt3 149 rfl rfl) mm_min1 mm_2 mm_min3 (by decide) ?_
    refine r_istore_n 3 rfl rfl (by decide) ?_
    refine r_iload_n 2 rfl rfl rfl ?_
    refine r_iload_n 3 rfl rfl rfl ?_
    refine r_icmp_lt (tgt := 29) rfl (by decide) (fun hc8 => ?_) (fun hc8 => ?_)
    · have hE := ifP hc8 hE
      refine r_aload_n (t := x0) 0 rfl rfl rfl ?_
      refine r_iload_n 1 rfl rfl rfl ?_
      refine r_iload_n 2 rfl rfl rfl ?_
      refine r_iload_n 3 rfl rfl rfl ?_
      obtain ⟨v9, h10, hq11, hE⟩ := bdE hE
      refine r_callS1 (rest := []) (hc := (Jl_indexOfChar_ok g N _ _ _ _ _ _ _ hq11 D2 (by omega))) rfl pm_Jl_indexOfChar lw_Jl_95 st_Jl_indexOfChar rfl rfl (by decide) ?_
      cases hE
      exact r_ret rfl (Or.inl ⟨rfl, _, _, rfl, rfl, rfl, rfl⟩)
    · have hE := ifN hc8 hE
      refine r_iconst (-1) rfl ci_m1 ?_
      cases hE
      exact r_ret rfl (Or.inl ⟨rfl, _, _, rfl, rfl, rfl, rfl⟩)
def Js_indexOf2 (N : Nat) (a0 : Nat) (x1 : Int32) (x2 : Int32) (h : PH) : Option (Int32 × PH) :=
  ck ((hK h a0).1 = 28) <|
  bd (Js_isLatin1 N a0 h) fun v2 h3 =>
  if (bI v2) = 0 then
    ck ((hK h3 a0).1 = 28) <|
    bd (Js_length N a0 h3) fun v7 h8 =>
    none
  else
    ck ((hK h3 a0).1 = 28) <|
    bd (Js_length N a0 h3) fun v11 h12 =>
    bd (Jl_indexOf N (hR h3 a0 0) x1 x2 v11 h12) fun v14 h15 =>
    some (v14, h15)
set_option maxRecDepth 20000 in
theorem Js_indexOf2_ok (g : GT) (N : Nat) (a0 : Nat) (x1 : Int32) (x2 : Int32) (h : PH) (v : Int32) (h' : PH) (hE : Js_indexOf2 N a0 x1 x2 h = some (v, h')) (D : Nat) (hD : 2 ≤ D) : Calls g D pJs_indexOf2 [va_rf (some a0), .int x1, .int x2] h (oI v) h' := by
  refine Calls.of cok_Js_indexOf2 ht_Js_indexOf2 pl_Js_indexOf2 (fun ad => by rw [lg_len, sL_cat]; simp only [List.map_cons, List.map_nil, rf_cat, cat_i, cat_l, List.sum_cons, List.sum_nil]; decide) ?_
  rw [show lv_args 0 [va_rf (some a0), .int x1, .int x2] = [(0, va_rf (some a0)), (1, .int x1), (2, .int x2)] from (by simp only [lv_args, rf_cat, cat_i, cat_l]; try rfl)]
  obtain ⟨D2, rfl⟩ : ∃ d, D = d + 1 := ⟨D - 1, by omega⟩
  unfold Js_indexOf2 at hE
  refine r_aload_n (t := some a0) 0 rfl rfl rfl ?_
  obtain ⟨hk1, hE⟩ := ckE hE
  obtain ⟨v2, h3, hq4, hE⟩ := bdE hE
  refine r_callV1 (rest := []) (hc := (Js_isLatin1_ok g N _ _ _ _ hq4 D2 (by omega))) rfl pm_Js_isLatin1 lw_Js_492 im_Js_isLatin1 sl_Js_isLatin1 rfl rfl rfl (rcOK hk1 rfl) (by decide) ?_
  refine r_if_eq (tgt := 23) rfl (by decide) (fun hc5 => ?_) (fun hc5 => ?_)
  · have hE := ifP hc5 hE
    refine r_aload_n (t := some a0) 0 rfl rfl rfl ?_
    obtain ⟨hk6, hE⟩ := ckE hE
    refine r_strR rfl (gt9 5 rfl rfl) rfl hk6 ?_
    refine r_iload_n 1 rfl rfl rfl ?_
    refine r_iload_n 2 rfl rfl rfl ?_
    refine r_aload_n (t := some a0) 0 rfl rfl rfl ?_
    obtain ⟨v7, h8, hq9, hE⟩ := bdE hE
    refine r_callV1 (rest := [.int x2, .int x1, va_rf (hR h3 a0 0)]) (hc := (Js_length_ok g N _ _ _ _ hq9 D2 (by omega))) rfl pm_Js_length lw_Js_505 im_Js_length sl_Js_length rfl rfl rfl (rcOK hk6 rfl) (by simp only [List.map_cons, List.map_nil, rf_cat, cat_i, cat_l, List.sum_cons, List.sum_nil]; decide) ?_
    exact nomatch hE
  · have hE := ifN hc5 hE
    refine r_aload_n (t := some a0) 0 rfl rfl rfl ?_
    obtain ⟨hk10, hE⟩ := ckE hE
    refine r_strR rfl (gt9 5 rfl rfl) rfl hk10 ?_
    refine r_iload_n 1 rfl rfl rfl ?_
    refine r_iload_n 2 rfl rfl rfl ?_
    refine r_aload_n (t := some a0) 0 rfl rfl rfl ?_
    obtain ⟨v11, h12, hq13, hE⟩ := bdE hE
    refine r_callV1 (rest := [.int x2, .int x1, va_rf (hR h3 a0 0)]) (hc := (Js_length_ok g N _ _ _ _ hq13 D2 (by omega))) rfl pm_Js_length lw_Js_505 im_Js_length sl_Js_length rfl rfl rfl (rcOK hk10 rfl) (by simp only [List.map_cons, List.map_nil, rf_cat, cat_i, cat_l, List.sum_cons, List.sum_nil]; decide) ?_
    obtain ⟨v14, h15, hq16, hE⟩ := bdE hE
    refine r_callS1 (rest := []) (hc := (Jl_indexOf_ok g N _ _ _ _ _ _ _ hq16 D2 (by omega))) rfl pm_Jl_indexOf lw_Js_637 st_Jl_indexOf rfl rfl (by decide) ?_
    refine r_goto (tgt := 36) rfl (by decide) ?_
    cases hE
    exact r_ret rfl (Or.inl ⟨rfl, _, _, rfl, rfl, rfl, rfl⟩)
def Js_indexOf (N : Nat) (a0 : Nat) (x1 : Int32) (h : PH) : Option (Int32 × PH) :=
  ck ((hK h a0).1 = 28) <|
  bd (Js_indexOf2 N a0 x1 0 h) fun v2 h3 =>
  some (v2, h3)
set_option maxRecDepth 20000 in
theorem Js_indexOf_ok (g : GT) (N : Nat) (a0 : Nat) (x1 : Int32) (h : PH) (v : Int32) (h' : PH) (hE : Js_indexOf N a0 x1 h = some (v, h')) (D : Nat) (hD : 3 ≤ D) : Calls g D pJs_indexOf [va_rf (some a0), .int x1] h (oI v) h' := by
  refine Calls.of cok_Js_indexOf ht_Js_indexOf pl_Js_indexOf (fun ad => by rw [lg_len, sL_cat]; simp only [List.map_cons, List.map_nil, rf_cat, cat_i, cat_l, List.sum_cons, List.sum_nil]; decide) ?_
  rw [show lv_args 0 [va_rf (some a0), .int x1] = [(0, va_rf (some a0)), (1, .int x1)] from (by simp only [lv_args, rf_cat, cat_i, cat_l]; try rfl)]
  obtain ⟨D2, rfl⟩ : ∃ d, D = d + 1 := ⟨D - 1, by omega⟩
  unfold Js_indexOf at hE
  refine r_aload_n (t := some a0) 0 rfl rfl rfl ?_
  refine r_iload_n 1 rfl rfl rfl ?_
  refine r_iconst 0 rfl ci_0 ?_
  obtain ⟨hk1, hE⟩ := ckE hE
  obtain ⟨v2, h3, hq4, hE⟩ := bdE hE
  refine r_callV1 (rest := []) (hc := (Js_indexOf2_ok g N _ _ _ _ _ _ hq4 D2 (by omega))) rfl pm_Js_indexOf2 lw_Js_633 im_Js_indexOf2 sl_Js_indexOf2 rfl rfl rfl (rcOK hk1 rfl) (by decide) ?_
  cases hE
  exact r_ret rfl (Or.inl ⟨rfl, _, _, rfl, rfl, rfl, rfl⟩)
