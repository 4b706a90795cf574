def Ta_joined (N : Nat) (x0 : Int64) (x2 : Int32) (h : PH) : Option (Int64 × PH) :=
  some (((x0 * 32) + (Int32.toInt64 ((x2 - 97) + 1))), h)
set_option maxRecDepth 20000 in
theorem Ta_joined_ok (g : GT) (N : Nat) (x0 : Int64) (x2 : Int32) (h : PH) (v : Int64) (h' : PH) (hE : Ta_joined N x0 x2 h = some (v, h')) (D : Nat) (hD : 0 ≤ D) : Calls g D pTa_joined [.long x0, .int x2] h (oJ v) h' := by
  refine Calls.of cok_Ta_joined ht_Ta_joined pl_Ta_joined (fun ad => by rw [lg_len, sL_cat]; simp only [List.map_cons, List.map_nil, rf_cat, cat_i, cat_l, List.sum_cons, List.sum_nil]; decide) ?_
  rw [show lv_args 0 [.long x0, .int x2] = [(0, .long x0), (2, .int x2)] from (by simp only [lv_args, rf_cat, cat_i, cat_l]; try rfl)]
  unfold Ta_joined at hE
  refine r_lload_n 0 rfl rfl rfl ?_
  refine r_ldc2 rfl kc_8_90 ?_
  refine r_lmul rfl ?_
  refine r_iload_n 2 rfl rfl rfl ?_
  refine r_bipush 97 rfl cb_97 ?_
  refine r_isub rfl ?_
  refine r_iconst 1 rfl ci_1 ?_
  refine r_iadd rfl ?_
  refine r_i2l rfl ?_
  refine r_ladd rfl ?_
  cases hE
  exact r_ret rfl (Or.inr (Or.inl ⟨rfl, _, rfl, rfl, rfl⟩))
def Ta_init_b121 (g : GT) (N : Nat) (self_65 : Nat → Int32 → Int32 → PH → Option (Unit × PH)) (a0 : Nat) (x1 : Int32) (x2 : Int32) (h : PH) : Option (Unit × PH) :=
  self_65 a0 x1 (x2 + 1) h
set_option maxRecDepth 20000 in
theorem Ta_init_b121_ok (g : GT) (N : Nat) (D : Nat) (hD : 4 ≤ D) (self_65 : Nat → Int32 → Int32 → PH → Option (Unit × PH)) (hself_65 : ∀ (a0 : Nat) (x1 : Int32) (x2 : Int32) (h : PH) (v : Unit) (h' : PH), self_65 a0 x1 x2 h = some (v, h') → Run g pTa_init D 65 [(0, va_rf (some a0)), (1, .int x1), (2, .int x2)] [] h (rV v) h') : ∀ (a0 : Nat) (x1 : Int32) (x2 : Int32) (h : PH) (v : Unit) (h' : PH), Ta_init_b121 g N self_65 a0 x1 x2 h = some (v, h') → Run g pTa_init D 121 [(0, va_rf (some a0)), (1, .int x1), (2, .int x2)] [] h (rV v) h' := by
  obtain ⟨D2, rfl⟩ : ∃ d, D = d + 1 := ⟨D - 1, by omega⟩
  intro a0 x1 x2 h v h' hE
  unfold Ta_init_b121 at hE
  refine r_iinc _ rfl rfl (congrArg _ ci_1) (by decide) ?_
  refine r_goto (tgt := 65) rfl (by decide) ?_
  first | exact r_sb (hself_65 _ _ _ _ _ _ hE) ⟨rfl, rfl, rfl, trivial⟩ | exact r_sb (hself_65 _ _ _ _ _ _ hE) (by simp only [su1, su2, dr1_rf, dr1_in, dr1_lo, dr2_rf, dr2_in, dr2_lo]; exact ⟨rfl, rfl, rfl, trivial⟩)
def Ta_init_b65 (g : GT) (N : Nat) : Nat → Nat → Int32 → Int32 → PH → Option (Unit × PH)
  | 0 => fun _ _ _ _ => none
  | n + 1 => fun a0 x1 x2 h =>
    ck ((hK h 1).1 = 28) <|
    bd (Js_length N 1 h) fun v2 h3 =>
    if v2 ≤ x2 then
      some ((), h3)
    else
      ck ((hK h3 1).1 = 28) <|
      bd (Js_charAt g N 1 x2 h3) fun v7 h8 =>
      if v7 = 32 then
        Ta_init_b121 g N (Ta_init_b65 g N n)  a0 (x1 + 1) x2 h8
      else
        ck ((hK h8 a0).1 = 8) <|
        ((hR h8 a0 9)).bind fun a_12 =>
        ck ((hK h8 a_12).1 = 23) <|
        if (Int32.ofNat (hK h8 a_12).2) ≤ x1 then
          Ta_init_b121 g N (Ta_init_b65 g N n)  a0 x1 x2 h8
        else
          ck (inb x1 (hK h8 a_12).2 = true) <|
          ck ((hK h8 1).1 = 28) <|
          bd (Js_charAt g N 1 x2 h8) fun v18 h19 =>
          bd (Ta_joined N (hJ h8 a_12 (ix x1)) v18 h19) fun v21 h22 =>
          ck ((hK h22 a_12).1 = 23) <|
          ck (inb x1 (hK h22 a_12).2 = true) <|
          lt0 (wJ h22 a_12 (ix x1) v21) fun h26 =>
          Ta_init_b121 g N (Ta_init_b65 g N n)  a0 x1 x2 h26
set_option maxRecDepth 20000 in
theorem Ta_init_b65_ok (g : GT) (N : Nat) (D : Nat) (hD : 4 ≤ D) : ∀ (n : Nat) (a0 : Nat) (x1 : Int32) (x2 : Int32) (h : PH) (v : Unit) (h' : PH), Ta_init_b65 g N n a0 x1 x2 h = some (v, h') → Run g pTa_init D 65 [(0, va_rf (some a0)), (1, .int x1), (2, .int x2)] [] h (rV v) h' := by
  obtain ⟨D2, rfl⟩ : ∃ d, D = d + 1 := ⟨D - 1, by omega⟩
  intro n
  induction n with
  | zero => exact fun _ _ _ _ _ _ hE => nomatch (show none = some _ from hE)
  | succ n ih =>
    intro a0 x1 x2 h v h' hE
    unfold Ta_init_b65 at hE
    refine r_iload_n 2 rfl rfl rfl ?_
    refine r_ldcS (k := 1) rfl rfl (by decide) ?_
    obtain ⟨hk1, hE⟩ := ckE hE
    obtain ⟨v2, h3, hq4, hE⟩ := bdE hE
    refine r_callV1 (rest := [.int x2]) (hc := (Js_length_ok g N _ _ _ _ hq4 D2 (by omega))) rfl pm_Js_length lw_8_47 im_Js_length sl_Js_length rfl rfl rfl (rcOK hk1 rfl) (by simp only [List.map_cons, List.map_nil, rf_cat, cat_i, cat_l, List.sum_cons, List.sum_nil]; decide) ?_
    refine r_icmp_ge (tgt := 127) rfl (by decide) (fun hc5 => ?_) (fun hc5 => ?_)
    · have hE := ifP hc5 hE
      cases hE
      exact r_ret rfl (Or.inr (Or.inr (Or.inr ⟨rfl, rfl, rfl, rfl⟩)))
    · have hE := ifN hc5 hE
      refine r_ldcS (k := 1) rfl rfl (by decide) ?_
      refine r_iload_n 2 rfl rfl rfl ?_
      obtain ⟨hk6, hE⟩ := ckE hE
      obtain ⟨v7, h8, hq9, hE⟩ := bdE hE
      refine r_callV1 (rest := []) (hc := (Js_charAt_ok g N _ _ _ _ _ hq9 D2 (by omega))) rfl pm_Js_charAt lw_8_52 im_Js_charAt sl_Js_charAt rfl rfl rfl (rcOK hk6 rfl) (by decide) ?_
      refine r_bipush 32 rfl cb_32 ?_
      refine r_icmp_ne (tgt := 91) rfl (by decide) (fun hc10 => ?_) (fun hc10 => ?_)
      · have hE := ifP hc10 hE
        refine r_iinc _ rfl rfl (congrArg _ ci_1) (by decide) ?_
        refine r_goto (tgt := 121) rfl (by decide) ?_
        first | exact r_sb (Ta_init_b121_ok g N _ hD _ ih  _ _ _ _ _ _ hE) ⟨rfl, rfl, rfl, trivial⟩ | exact r_sb (Ta_init_b121_ok g N _ hD _ ih  _ _ _ _ _ _ hE) (by simp only [su1, su2, dr1_rf, dr1_in, dr1_lo, dr2_rf, dr2_in, dr2_lo]; exact ⟨rfl, rfl, rfl, trivial⟩)
      · have hE := ifN hc10 hE
        refine r_iload_n 1 rfl rfl rfl ?_
        refine r_aload_n (t := some a0) 0 rfl rfl rfl ?_
        obtain ⟨hk11, hE⟩ := ckE hE
        refine r_getR rfl (fl_8_41 rfl) (Or.inr ⟨_, rfl⟩) rfl hk11 ?_
        obtain ⟨a_12, ha13, hE⟩ := bnE hE
        obtain ⟨hk14, hE⟩ := ckE hE
        refine r_alen (kd := 23) rfl (by decide) (by decide) ha13 hk14 ?_
        refine r_icmp_ge (tgt := 121) rfl (by decide) (fun hc15 => ?_) (fun hc15 => ?_)
        · have hE := ifP hc15 hE
          first | exact r_sb (Ta_init_b121_ok g N _ hD _ ih  _ _ _ _ _ _ hE) ⟨rfl, rfl, rfl, trivial⟩ | exact r_sb (Ta_init_b121_ok g N _ hD _ ih  _ _ _ _ _ _ hE) (by simp only [su1, su2, dr1_rf, dr1_in, dr1_lo, dr2_rf, dr2_in, dr2_lo]; exact ⟨rfl, rfl, rfl, trivial⟩)
        · have hE := ifN hc15 hE
          refine r_aload_n (t := some a0) 0 rfl rfl rfl ?_
          refine r_getR rfl (fl_8_41 rfl) (Or.inr ⟨_, rfl⟩) rfl hk11 ?_
          refine r_iload_n 1 rfl rfl rfl ?_
          refine r_aload_n (t := some a0) 0 rfl rfl rfl ?_
          refine r_getR rfl (fl_8_41 rfl) (Or.inr ⟨_, rfl⟩) rfl hk11 ?_
          refine r_iload_n 1 rfl rfl rfl ?_
          obtain ⟨hi16, hE⟩ := ckE hE
          refine r_lald rfl ha13 hk14 hi16 ?_
          refine r_ldcS (k := 1) rfl rfl (by decide) ?_
          refine r_iload_n 2 rfl rfl rfl ?_
          obtain ⟨hk17, hE⟩ := ckE hE
          obtain ⟨v18, h19, hq20, hE⟩ := bdE hE
          refine r_callV1 (rest := [.long (hJ h8 a_12 (ix x1)), .int x1, va_rf (hR h8 a0 9)]) (hc := (Js_charAt_ok g N _ _ _ _ _ hq20 D2 (by omega))) rfl pm_Js_charAt lw_8_52 im_Js_charAt sl_Js_charAt rfl rfl rfl (rcOK hk17 rfl) (by simp only [List.map_cons, List.map_nil, rf_cat, cat_i, cat_l, List.sum_cons, List.sum_nil]; decide) ?_
          obtain ⟨v21, h22, hq23, hE⟩ := bdE hE
          refine r_callS1 (rest := [.int x1, va_rf (hR h8 a0 9)]) (hc := (Ta_joined_ok g N _ _ _ _ _ hq23 D2 (by omega))) rfl pm_Ta_joined lw_8_56 st_Ta_joined rfl rfl (by simp only [List.map_cons, List.map_nil, rf_cat, cat_i, cat_l, List.sum_cons, List.sum_nil]; decide) ?_
          obtain ⟨hk24, hE⟩ := ckE hE
          obtain ⟨hi25, hE⟩ := ckE hE
          obtain ⟨h26, he27, hE⟩ := ltE hE
          refine r_last rfl ha13 hk24 hi25 he27 ?_
          first | exact r_sb (Ta_init_b121_ok g N _ hD _ ih  _ _ _ _ _ _ hE) ⟨rfl, rfl, rfl, trivial⟩ | exact r_sb (Ta_init_b121_ok g N _ hD _ ih  _ _ _ _ _ _ hE) (by simp only [su1, su2, dr1_rf, dr1_in, dr1_lo, dr2_rf, dr2_in, dr2_lo]; exact ⟨rfl, rfl, rfl, trivial⟩)
def Ta_init (g : GT) (N : Nat) (a0 : Nat) (h : PH) : Option (Unit × PH) :=
  ck (nb 1000 = true) <|
  lt0 (nw h (22, ix 1000) (ix 1000)) fun h2 =>
  ck ((hK h2 a0).1 = 8) <|
  lt0 (wR h2 a0 0 (some (hN h))) fun h5 =>
  lt0 (wI h5 a0 1 0) fun h7 =>
  lt0 (wI h7 a0 2 3) fun h9 =>
  lt0 (wI h9 a0 3 0) fun h11 =>
  lt0 (wI h11 a0 4 0) fun h13 =>
  lt0 (wI h13 a0 5 0) fun h15 =>
  lt0 (wI h15 a0 6 (-1)) fun h17 =>
  lt0 (wJ h17 a0 7 0) fun h19 =>
  lt0 (wI h19 a0 8 0) fun h21 =>
  ck (nb 28 = true) <|
  lt0 (nw h21 (23, ix 28) (ix 28)) fun h24 =>
  ck ((hK h24 a0).1 = 8) <|
  lt0 (wR h24 a0 9 (some (hN h21))) fun h27 =>
  Ta_init_b65 g N N a0 0 0 h27
set_option maxRecDepth 20000 in
theorem Ta_init_ok (g : GT) (N : Nat) (a0 : Nat) (h : PH) (v : Unit) (h' : PH) (hE : Ta_init g N a0 h = some (v, h')) (D : Nat) (hD : 4 ≤ D) : Calls g D pTa_init [va_rf (some a0)] h (oV v) h' := by
  refine Calls.of cok_Ta_init ht_Ta_init pl_Ta_init (fun ad => by rw [lg_len, sL_cat]; simp only [List.map_cons, List.map_nil, rf_cat, cat_i, cat_l, List.sum_cons, List.sum_nil]; decide) ?_
  rw [show lv_args 0 [va_rf (some a0)] = [(0, va_rf (some a0))] from (by simp only [lv_args, rf_cat, cat_i, cat_l]; try rfl)]
  obtain ⟨D2, rfl⟩ : ∃ d, D = d + 1 := ⟨D - 1, by omega⟩
  unfold Ta_init at hE
  refine r_aload_n (t := some a0) 0 rfl rfl rfl ?_
  refine r_objinit rfl rfl (gt1 36 rfl rfl) oi_1 oi_2 (by decide) ?_
  refine r_aload_n (t := some a0) 0 rfl rfl rfl ?_
  refine r_sipush 1000 rfl cs_1000 ?_
  obtain ⟨hc1, hE⟩ := ckE hE
  obtain ⟨h2, he3, hE⟩ := ltE hE
  refine r_newa (kd := 22) rfl (by decide) (by decide) rfl aw_22 hc1 he3 ?_
  obtain ⟨hk4, hE⟩ := ckE hE
  obtain ⟨h5, he6, hE⟩ := ltE hE
  refine r_putR rfl (fl_8_9 rfl) (Or.inr ⟨_, rfl⟩) (fun _ => ⟨rfl, _, _, rfl⟩) rfl hk4 he6 ?_
  refine r_aload_n (t := some a0) 0 rfl rfl rfl ?_
  refine r_iconst 0 rfl ci_0 ?_
  obtain ⟨h7, he8, hE⟩ := ltE hE
  refine r_putI rfl (fl_8_15 rfl) finF rfl (kwR he6 hk4) he8 ?_
  refine r_aload_n (t := some a0) 0 rfl rfl rfl ?_
  refine r_iconst 3 rfl ci_3 ?_
  obtain ⟨h9, he10, hE⟩ := ltE hE
  refine r_putI rfl (fl_8_19 rfl) finF rfl (kwI he8 (kwR he6 hk4)) he10 ?_
  refine r_aload_n (t := some a0) 0 rfl rfl rfl ?_
  refine r_iconst 0 rfl ci_0 ?_
  obtain ⟨h11, he12, hE⟩ := ltE hE
  refine r_putI rfl (fl_8_22 rfl) finF rfl (kwI he10 (kwI he8 (kwR he6 hk4))) he12 ?_
  refine r_aload_n (t := some a0) 0 rfl rfl rfl ?_
  refine r_iconst 0 rfl ci_0 ?_
  obtain ⟨h13, he14, hE⟩ := ltE hE
  refine r_putI rfl (fl_8_25 rfl) finF rfl (kwI he12 (kwI he10 (kwI he8 (kwR he6 hk4)))) he14 ?_
  refine r_aload_n (t := some a0) 0 rfl rfl rfl ?_
  refine r_iconst 0 rfl ci_0 ?_
  obtain ⟨h15, he16, hE⟩ := ltE hE
  refine r_putI rfl (fl_8_28 rfl) finF rfl (kwI he14 (kwI he12 (kwI he10 (kwI he8 (kwR he6 hk4))))) he16 ?_
  refine r_aload_n (t := some a0) 0 rfl rfl rfl ?_
  refine r_iconst (-1) rfl ci_m1 ?_
  obtain ⟨h17, he18, hE⟩ := ltE hE
  refine r_putI rfl (fl_8_31 rfl) finF rfl (kwI he16 (kwI he14 (kwI he12 (kwI he10 (kwI he8 (kwR he6 hk4)))))) he18 ?_
  refine r_aload_n (t := some a0) 0 rfl rfl rfl ?_
  refine r_lconst 0 rfl cl_0 ?_
  obtain ⟨h19, he20, hE⟩ := ltE hE
  refine r_putJ rfl (fl_8_34 rfl) finF rfl (kwI he18 (kwI he16 (kwI he14 (kwI he12 (kwI he10 (kwI he8 (kwR he6 hk4))))))) he20 ?_
  refine r_aload_n (t := some a0) 0 rfl rfl rfl ?_
  refine r_iconst 0 rfl ci_0 ?_
  obtain ⟨h21, he22, hE⟩ := ltE hE
  refine r_putI rfl (fl_8_38 rfl) finF rfl (kwJ he20 (kwI he18 (kwI he16 (kwI he14 (kwI he12 (kwI he10 (kwI he8 (kwR he6 hk4)))))))) he22 ?_
  refine r_aload_n (t := some a0) 0 rfl rfl rfl ?_
  refine r_bipush 28 rfl cb_28 ?_
  obtain ⟨hc23, hE⟩ := ckE hE
  obtain ⟨h24, he25, hE⟩ := ltE hE
  refine r_newa (kd := 23) rfl (by decide) (by decide) rfl aw_23 hc23 he25 ?_
  obtain ⟨hk26, hE⟩ := ckE hE
  obtain ⟨h27, he28, hE⟩ := ltE hE
  refine r_putR rfl (fl_8_41 rfl) (Or.inr ⟨_, rfl⟩) (fun _ => ⟨rfl, _, _, rfl⟩) rfl hk26 he28 ?_
  refine r_iconst 0 rfl ci_0 ?_
  refine r_istore_n 1 rfl rfl (by decide) ?_
  refine r_iconst 0 rfl ci_0 ?_
  refine r_istore_n 2 rfl rfl (by decide) ?_
  first | exact r_sb (Ta_init_b65_ok g N _ hD  N _ _ _ _ _ _ hE) ⟨rfl, rfl, rfl, trivial⟩ | exact r_sb (Ta_init_b65_ok g N _ hD  N _ _ _ _ _ _ hE) (by simp only [su1, su2, dr1_rf, dr1_in, dr1_lo, dr2_rf, dr2_in, dr2_lo]; exact ⟨rfl, rfl, rfl, trivial⟩)
def Ta_take_b79 (N : Nat) (self_3 : Nat → Int64 → Int32 → PH → Option (Unit × PH)) (a0 : Nat) (x1 : Int64) (x3 : Int32) (h : PH) : Option (Unit × PH) :=
  self_3 a0 x1 (x3 + (-8)) h
set_option maxRecDepth 20000 in
theorem Ta_take_b79_ok (g : GT) (N : Nat) (D : Nat) (hD : 0 ≤ D) (self_3 : Nat → Int64 → Int32 → PH → Option (Unit × PH)) (hself_3 : ∀ (a0 : Nat) (x1 : Int64) (x3 : Int32) (h : PH) (v : Unit) (h' : PH), self_3 a0 x1 x3 h = some (v, h') → Run g pTa_take D 3 [(0, va_rf (some a0)), (1, .long x1), (3, .int x3)] [] h (rV v) h') : ∀ (a0 : Nat) (x1 : Int64) (x3 : Int32) (h : PH) (v : Unit) (h' : PH), Ta_take_b79 N self_3 a0 x1 x3 h = some (v, h') → Run g pTa_take D 79 [(0, va_rf (some a0)), (1, .long x1), (3, .int x3)] [] h (rV v) h' := by
  intro a0 x1 x3 h v h' hE
  unfold Ta_take_b79 at hE
  refine r_iinc _ rfl rfl (congrArg _ ci_m8) (by decide) ?_
  refine r_goto (tgt := 3) rfl (by decide) ?_
  first | exact r_sb (hself_3 _ _ _ _ _ _ hE) ⟨rfl, rfl, rfl, trivial⟩ | exact r_sb (hself_3 _ _ _ _ _ _ hE) (by simp only [su1, su2, dr1_rf, dr1_in, dr1_lo, dr2_rf, dr2_in, dr2_lo]; exact ⟨rfl, rfl, rfl, trivial⟩)
def Ta_take_b38 (N : Nat) (self_3 : Nat → Int64 → Int32 → PH → Option (Unit × PH)) (a0 : Nat) (x1 : Int64) (x3 : Int32) (x4 : Int32) (h : PH) : Option (Unit × PH) :=
  ck ((hK h a0).1 = 8) <|
  if (hI h a0 1) < 0 then
    Ta_take_b79 N self_3  a0 x1 x3 h
  else
    ((hR h a0 0)).bind fun a_3 =>
    ck ((hK h a_3).1 = 22) <|
    if (Int32.ofNat (hK h a_3).2) ≤ (hI h a0 1) then
      Ta_take_b79 N self_3  a0 x1 x3 h
    else
      ck (inb (hI h a0 1) (hK h a_3).2 = true) <|
      lt0 (wI h a_3 (ix (hI h a0 1)) ((Int32.toInt8 ((Int32.toInt8 x4).toInt32)).toInt32)) fun h8 =>
      lt0 (wI h8 a0 1 ((hI h8 a0 1) + 1)) fun h10 =>
      Ta_take_b79 N self_3  a0 x1 x3 h10
set_option maxRecDepth 20000 in
theorem Ta_take_b38_ok (g : GT) (N : Nat) (D : Nat) (hD : 0 ≤ D) (self_3 : Nat → Int64 → Int32 → PH → Option (Unit × PH)) (hself_3 : ∀ (a0 : Nat) (x1 : Int64) (x3 : Int32) (h : PH) (v : Unit) (h' : PH), self_3 a0 x1 x3 h = some (v, h') → Run g pTa_take D 3 [(0, va_rf (some a0)), (1, .long x1), (3, .int x3)] [] h (rV v) h') : ∀ (a0 : Nat) (x1 : Int64) (x3 : Int32) (x4 : Int32) (h : PH) (v : Unit) (h' : PH), Ta_take_b38 N self_3 a0 x1 x3 x4 h = some (v, h') → Run g pTa_take D 38 [(0, va_rf (some a0)), (1, .long x1), (3, .int x3), (4, .int x4)] [] h (rV v) h' := by
  intro a0 x1 x3 x4 h v h' hE
  unfold Ta_take_b38 at hE
  refine r_aload_n (t := some a0) 0 rfl rfl rfl ?_
  obtain ⟨hk1, hE⟩ := ckE hE
  refine r_getI rfl (fl_8_15 rfl) (Or.inl rfl) rfl hk1 ?_
  refine r_if_lt (tgt := 79) rfl (by decide) (fun hc2 => ?_) (fun hc2 => ?_)
  · have hE := ifP hc2 hE
    first | exact r_sb (Ta_take_b79_ok g N _ hD _ hself_3  _ _ _ _ _ _ hE) ⟨rfl, rfl, rfl, trivial⟩ | exact r_sb (Ta_take_b79_ok g N _ hD _ hself_3  _ _ _ _ _ _ hE) (by simp only [su1, su2, dr1_rf, dr1_in, dr1_lo, dr2_rf, dr2_in, dr2_lo]; exact ⟨rfl, rfl, rfl, trivial⟩)
  · have hE := ifN hc2 hE
    refine r_aload_n (t := some a0) 0 rfl rfl rfl ?_
    refine r_getI rfl (fl_8_15 rfl) (Or.inl rfl) rfl hk1 ?_
    refine r_aload_n (t := some a0) 0 rfl rfl rfl ?_
    refine r_getR rfl (fl_8_9 rfl) (Or.inr ⟨_, rfl⟩) rfl hk1 ?_
    obtain ⟨a_3, ha4, hE⟩ := bnE hE
    obtain ⟨hk5, hE⟩ := ckE hE
    refine r_alen (kd := 22) rfl (by decide) (by decide) ha4 hk5 ?_
    refine r_icmp_ge (tgt := 79) rfl (by decide) (fun hc6 => ?_) (fun hc6 => ?_)
    · have hE := ifP hc6 hE
      first | exact r_sb (Ta_take_b79_ok g N _ hD _ hself_3  _ _ _ _ _ _ hE) ⟨rfl, rfl, rfl, trivial⟩ | exact r_sb (Ta_take_b79_ok g N _ hD _ hself_3  _ _ _ _ _ _ hE) (by simp only [su1, su2, dr1_rf, dr1_in, dr1_lo, dr2_rf, dr2_in, dr2_lo]; exact ⟨rfl, rfl, rfl, trivial⟩)
    · have hE := ifN hc6 hE
      refine r_aload_n (t := some a0) 0 rfl rfl rfl ?_
      refine r_getR rfl (fl_8_9 rfl) (Or.inr ⟨_, rfl⟩) rfl hk1 ?_
      refine r_aload_n (t := some a0) 0 rfl rfl rfl ?_
      refine r_getI rfl (fl_8_15 rfl) (Or.inl rfl) rfl hk1 ?_
      refine r_iload rfl rfl ?_
      refine r_i2b rfl ?_
      obtain ⟨hi7, hE⟩ := ckE hE
      obtain ⟨h8, he9, hE⟩ := ltE hE
      refine r_bast rfl ha4 hk5 hi7 he9 ?_
      refine r_aload_n (t := some a0) 0 rfl rfl rfl ?_
      refine r_dup rfl (rf_cat _) ?_
      refine r_getI rfl (fl_8_15 rfl) (Or.inl rfl) rfl (kwI he9 hk1) ?_
      refine r_iconst 1 rfl ci_1 ?_
      refine r_iadd rfl ?_
      obtain ⟨h10, he11, hE⟩ := ltE hE
      refine r_putI rfl (fl_8_15 rfl) finF rfl (kwI he9 hk1) he11 ?_
      first | exact r_sb (Ta_take_b79_ok g N _ hD _ hself_3  _ _ _ _ _ _ hE) ⟨rfl, rfl, rfl, trivial⟩ | exact r_sb (Ta_take_b79_ok g N _ hD _ hself_3  _ _ _ _ _ _ hE) (by simp only [su1, su2, dr1_rf, dr1_in, dr1_lo, dr2_rf, dr2_in, dr2_lo]; exact ⟨rfl, rfl, rfl, trivial⟩)
def Ta_take_b3 (N : Nat) : Nat → Nat → Int64 → Int32 → PH → Option (Unit × PH)
  | 0 => fun _ _ _ _ => none
  | n + 1 => fun a0 x1 x3 h =>
    if x3 < 0 then
      some ((), h)
    else
      if (Int64.toInt32 ((x1 >>> (Int32.toInt64 x3 &&& 63)) &&& 255)) = 10 then
        Ta_take_b38 N (Ta_take_b3 N n)  a0 x1 x3 (Int64.toInt32 ((x1 >>> (Int32.toInt64 x3 &&& 63)) &&& 255)) h
      else
        if (Int64.toInt32 ((x1 >>> (Int32.toInt64 x3 &&& 63)) &&& 255)) < 32 then
          Ta_take_b79 N (Ta_take_b3 N n)  a0 x1 x3 h
        else
          if 126 < (Int64.toInt32 ((x1 >>> (Int32.toInt64 x3 &&& 63)) &&& 255)) then
            Ta_take_b79 N (Ta_take_b3 N n)  a0 x1 x3 h
          else
            Ta_take_b38 N (Ta_take_b3 N n)  a0 x1 x3 (Int64.toInt32 ((x1 >>> (Int32.toInt64 x3 &&& 63)) &&& 255)) h
set_option maxRecDepth 20000 in
theorem Ta_take_b3_ok (g : GT) (N : Nat) (D : Nat) (hD : 0 ≤ D) : ∀ (n : Nat) (a0 : Nat) (x1 : Int64) (x3 : Int32) (h : PH) (v : Unit) (h' : PH), Ta_take_b3 N n a0 x1 x3 h = some (v, h') → Run g pTa_take D 3 [(0, va_rf (some a0)), (1, .long x1), (3, .int x3)] [] h (rV v) h' := by
  intro n
  induction n with
  | zero => exact fun _ _ _ _ _ _ hE => nomatch (show none = some _ from hE)
  | succ n ih =>
    intro a0 x1 x3 h v h' hE
    unfold Ta_take_b3 at hE
    refine r_iload_n 3 rfl rfl rfl ?_
    refine r_if_lt (tgt := 85) rfl (by decide) (fun hc1 => ?_) (fun hc1 => ?_)
    · have hE := ifP hc1 hE
      cases hE
      exact r_ret rfl (Or.inr (Or.inr (Or.inr ⟨rfl, rfl, rfl, rfl⟩)))
    · have hE := ifN hc1 hE
      refine r_lload_n 1 rfl rfl rfl ?_
      refine r_iload_n 3 rfl rfl rfl ?_
      refine r_lshr rfl ?_
      refine r_ldc2 rfl kc_8_60 ?_
      refine r_land rfl ?_
      refine r_l2i rfl ?_
      refine r_istore rfl (by decide) ?_
      refine r_iload rfl rfl ?_
      refine r_bipush 10 rfl cb_10 ?_
      refine r_icmp_eq (tgt := 38) rfl (by decide) (fun hc2 => ?_) (fun hc2 => ?_)
      · have hE := ifP hc2 hE
        first | exact r_sb (Ta_take_b38_ok g N _ hD _ ih  _ _ _ _ _ _ _ hE) ⟨rfl, rfl, rfl, rfl, trivial⟩ | exact r_sb (Ta_take_b38_ok g N _ hD _ ih  _ _ _ _ _ _ _ hE) (by simp only [su1, su2, dr1_rf, dr1_in, dr1_lo, dr2_rf, dr2_in, dr2_lo]; exact ⟨rfl, rfl, rfl, rfl, trivial⟩)
      · have hE := ifN hc2 hE
        refine r_iload rfl rfl ?_
        refine r_bipush 32 rfl cb_32 ?_
        refine r_icmp_lt (tgt := 79) rfl (by decide) (fun hc3 => ?_) (fun hc3 => ?_)
        · have hE := ifP hc3 hE
          first | exact r_sb (Ta_take_b79_ok g N _ hD _ ih  _ _ _ _ _ _ hE) ⟨rfl, rfl, rfl, trivial⟩ | exact r_sb (Ta_take_b79_ok g N _ hD _ ih  _ _ _ _ _ _ hE) (by simp only [su1, su2, dr1_rf, dr1_in, dr1_lo, dr2_rf, dr2_in, dr2_lo]; exact ⟨rfl, rfl, rfl, trivial⟩)
        · have hE := ifN hc3 hE
          refine r_iload rfl rfl ?_
          refine r_bipush 126 rfl cb_126 ?_
          refine r_icmp_gt (tgt := 79) rfl (by decide) (fun hc4 => ?_) (fun hc4 => ?_)
          · have hE := ifP hc4 hE
            first | exact r_sb (Ta_take_b79_ok g N _ hD _ ih  _ _ _ _ _ _ hE) ⟨rfl, rfl, rfl, trivial⟩ | exact r_sb (Ta_take_b79_ok g N _ hD _ ih  _ _ _ _ _ _ hE) (by simp only [su1, su2, dr1_rf, dr1_in, dr1_lo, dr2_rf, dr2_in, dr2_lo]; exact ⟨rfl, rfl, rfl, trivial⟩)
          · have hE := ifN hc4 hE
            first | exact r_sb (Ta_take_b38_ok g N _ hD _ ih  _ _ _ _ _ _ _ hE) ⟨rfl, rfl, rfl, rfl, trivial⟩ | exact r_sb (Ta_take_b38_ok g N _ hD _ ih  _ _ _ _ _ _ _ hE) (by simp only [su1, su2, dr1_rf, dr1_in, dr1_lo, dr2_rf, dr2_in, dr2_lo]; exact ⟨rfl, rfl, rfl, rfl, trivial⟩)
def Ta_take (N : Nat) (a0 : Nat) (x1 : Int64) (h : PH) : Option (Unit × PH) :=
  Ta_take_b3 N N a0 x1 56 h
set_option maxRecDepth 20000 in
theorem Ta_take_ok (g : GT) (N : Nat) (a0 : Nat) (x1 : Int64) (h : PH) (v : Unit) (h' : PH) (hE : Ta_take N a0 x1 h = some (v, h')) (D : Nat) (hD : 0 ≤ D) : Calls g D pTa_take [va_rf (some a0), .long x1] h (oV v) h' := by
  refine Calls.of cok_Ta_take ht_Ta_take pl_Ta_take (fun ad => by rw [lg_len, sL_cat]; simp only [List.map_cons, List.map_nil, rf_cat, cat_i, cat_l, List.sum_cons, List.sum_nil]; decide) ?_
  rw [show lv_args 0 [va_rf (some a0), .long x1] = [(0, va_rf (some a0)), (1, .long x1)] from (by simp only [lv_args, rf_cat, cat_i, cat_l]; try rfl)]
  unfold Ta_take at hE
  refine r_bipush 56 rfl cb_56 ?_
  refine r_istore_n 3 rfl rfl (by decide) ?_
  first | exact r_sb (Ta_take_b3_ok g N _ hD  N _ _ _ _ _ _ hE) ⟨rfl, rfl, rfl, trivial⟩ | exact r_sb (Ta_take_b3_ok g N _ hD  N _ _ _ _ _ _ hE) (by simp only [su1, su2, dr1_rf, dr1_in, dr1_lo, dr2_rf, dr2_in, dr2_lo]; exact ⟨rfl, rfl, rfl, trivial⟩)
def Ta_signAt (N : Nat) (a0 : Nat) (x1 : Int32) (h : PH) : Option (Int32 × PH) :=
  if x1 < 0 then
    some ((-1), h)
  else
    ck ((hK h a0).1 = 8) <|
    if (hI h a0 1) ≤ x1 then
      some ((-1), h)
    else
      ((hR h a0 0)).bind fun a_4 =>
      ck ((hK h a_4).1 = 22) <|
      if (Int32.ofNat (hK h a_4).2) ≤ x1 then
        some ((-1), h)
      else
        ck (inb x1 (hK h a_4).2 = true) <|
        some ((hI h a_4 (ix x1)), h)
set_option maxRecDepth 20000 in
theorem Ta_signAt_ok (g : GT) (N : Nat) (a0 : Nat) (x1 : Int32) (h : PH) (v : Int32) (h' : PH) (hE : Ta_signAt N a0 x1 h = some (v, h')) (D : Nat) (hD : 0 ≤ D) : Calls g D pTa_signAt [va_rf (some a0), .int x1] h (oI v) h' := by
  refine Calls.of cok_Ta_signAt ht_Ta_signAt pl_Ta_signAt (fun ad => by rw [lg_len, sL_cat]; simp only [List.map_cons, List.map_nil, rf_cat, cat_i, cat_l, List.sum_cons, List.sum_nil]; decide) ?_
  rw [show lv_args 0 [va_rf (some a0), .int x1] = [(0, va_rf (some a0)), (1, .int x1)] from (by simp only [lv_args, rf_cat, cat_i, cat_l]; try rfl)]
  unfold Ta_signAt at hE
  refine r_iload_n 1 rfl rfl rfl ?_
  refine r_if_lt (tgt := 30) rfl (by decide) (fun hc1 => ?_) (fun hc1 => ?_)
  · have hE := ifP hc1 hE
    refine r_iconst (-1) rfl ci_m1 ?_
    cases hE
    exact r_ret rfl (Or.inl ⟨rfl, _, _, rfl, rfl, rfl, rfl⟩)
  · have hE := ifN hc1 hE
    refine r_iload_n 1 rfl rfl rfl ?_
    refine r_aload_n (t := some a0) 0 rfl rfl rfl ?_
    obtain ⟨hk2, hE⟩ := ckE hE
    refine r_getI rfl (fl_8_15 rfl) (Or.inl rfl) rfl hk2 ?_
    refine r_icmp_ge (tgt := 30) rfl (by decide) (fun hc3 => ?_) (fun hc3 => ?_)
    · have hE := ifP hc3 hE
      refine r_iconst (-1) rfl ci_m1 ?_
      cases hE
      exact r_ret rfl (Or.inl ⟨rfl, _, _, rfl, rfl, rfl, rfl⟩)
    · have hE := ifN hc3 hE
      refine r_iload_n 1 rfl rfl rfl ?_
      refine r_aload_n (t := some a0) 0 rfl rfl rfl ?_
      refine r_getR rfl (fl_8_9 rfl) (Or.inr ⟨_, rfl⟩) rfl hk2 ?_
      obtain ⟨a_4, ha5, hE⟩ := bnE hE
      obtain ⟨hk6, hE⟩ := ckE hE
      refine r_alen (kd := 22) rfl (by decide) (by decide) ha5 hk6 ?_
      refine r_icmp_ge (tgt := 30) rfl (by decide) (fun hc7 => ?_) (fun hc7 => ?_)
      · have hE := ifP hc7 hE
        refine r_iconst (-1) rfl ci_m1 ?_
        cases hE
        exact r_ret rfl (Or.inl ⟨rfl, _, _, rfl, rfl, rfl, rfl⟩)
      · have hE := ifN hc7 hE
        refine r_aload_n (t := some a0) 0 rfl rfl rfl ?_
        refine r_getR rfl (fl_8_9 rfl) (Or.inr ⟨_, rfl⟩) rfl hk2 ?_
        refine r_iload_n 1 rfl rfl rfl ?_
        obtain ⟨hi8, hE⟩ := ckE hE
        refine r_bald rfl ha5 hk6 hi8 ?_
        refine r_goto (tgt := 31) rfl (by decide) ?_
        cases hE
        exact r_ret rfl (Or.inl ⟨rfl, _, _, rfl, rfl, rfl, rfl⟩)
def Ta_skipBlanks_b46 (N : Nat) (self_18 : Nat → Int32 → PH → Option (Unit × PH)) (a0 : Nat) (x1 : Int32) (h : PH) : Option (Unit × PH) :=
  ck ((hK h a0).1 = 8) <|
  lt0 (wI h a0 3 ((hI h a0 3) + 1)) fun h2 =>
  self_18 a0 (x1 + 1) h2
set_option maxRecDepth 20000 in
theorem Ta_skipBlanks_b46_ok (g : GT) (N : Nat) (D : Nat) (hD : 1 ≤ D) (self_18 : Nat → Int32 → PH → Option (Unit × PH)) (hself_18 : ∀ (a0 : Nat) (x1 : Int32) (h : PH) (v : Unit) (h' : PH), self_18 a0 x1 h = some (v, h') → Run g pTa_skipBlanks D 18 [(0, va_rf (some a0)), (1, .int x1)] [] h (rV v) h') : ∀ (a0 : Nat) (x1 : Int32) (h : PH) (v : Unit) (h' : PH), Ta_skipBlanks_b46 N self_18 a0 x1 h = some (v, h') → Run g pTa_skipBlanks D 46 [(0, va_rf (some a0)), (1, .int x1)] [] h (rV v) h' := by
  obtain ⟨D2, rfl⟩ : ∃ d, D = d + 1 := ⟨D - 1, by omega⟩
  intro a0 x1 h v h' hE
  unfold Ta_skipBlanks_b46 at hE
  refine r_aload_n (t := some a0) 0 rfl rfl rfl ?_
  refine r_dup rfl (rf_cat _) ?_
  obtain ⟨hk1, hE⟩ := ckE hE
  refine r_getI rfl (fl_8_22 rfl) (Or.inl rfl) rfl hk1 ?_
  refine r_iconst 1 rfl ci_1 ?_
  refine r_iadd rfl ?_
  obtain ⟨h2, he3, hE⟩ := ltE hE
  refine r_putI rfl (fl_8_22 rfl) finF rfl hk1 he3 ?_
  refine r_iinc _ rfl rfl (congrArg _ ci_1) (by decide) ?_
  refine r_goto (tgt := 18) rfl (by decide) ?_
  first | exact r_sb (hself_18 _ _ _ _ _ hE) ⟨rfl, rfl, trivial⟩ | exact r_sb (hself_18 _ _ _ _ _ hE) (by simp only [su1, su2, dr1_rf, dr1_in, dr1_lo, dr2_rf, dr2_in, dr2_lo]; exact ⟨rfl, rfl, trivial⟩)
def Ta_skipBlanks_b18 (N : Nat) : Nat → Nat → Int32 → PH → Option (Unit × PH)
  | 0 => fun _ _ _ => none
  | n + 1 => fun a0 x1 h =>
    ck ((hK h a0).1 = 8) <|
    if (hI h a0 1) ≤ x1 then
      some ((), h)
    else
      bd (Ta_signAt N a0 x1 h) fun v3 h4 =>
      if v3 = 10 then
        Ta_skipBlanks_b46 N (Ta_skipBlanks_b18 N n)  a0 x1 h4
      else
        ck ((hK h4 a0).1 = 8) <|
        bd (Ta_signAt N a0 x1 h4) fun v8 h9 =>
        if v8 = 32 then
          Ta_skipBlanks_b46 N (Ta_skipBlanks_b18 N n)  a0 x1 h9
        else
          some ((), h9)
set_option maxRecDepth 20000 in
theorem Ta_skipBlanks_b18_ok (g : GT) (N : Nat) (D : Nat) (hD : 1 ≤ D) : ∀ (n : Nat) (a0 : Nat) (x1 : Int32) (h : PH) (v : Unit) (h' : PH), Ta_skipBlanks_b18 N n a0 x1 h = some (v, h') → Run g pTa_skipBlanks D 18 [(0, va_rf (some a0)), (1, .int x1)] [] h (rV v) h' := by
  obtain ⟨D2, rfl⟩ : ∃ d, D = d + 1 := ⟨D - 1, by omega⟩
  intro n
  induction n with
  | zero => exact fun _ _ _ _ _ hE => nomatch (show none = some _ from hE)
  | succ n ih =>
    intro a0 x1 h v h' hE
    unfold Ta_skipBlanks_b18 at hE
    refine r_iload_n 1 rfl rfl rfl ?_
    refine r_aload_n (t := some a0) 0 rfl rfl rfl ?_
    obtain ⟨hk1, hE⟩ := ckE hE
    refine r_getI rfl (fl_8_15 rfl) (Or.inl rfl) rfl hk1 ?_
    refine r_icmp_ge (tgt := 62) rfl (by decide) (fun hc2 => ?_) (fun hc2 => ?_)
    · have hE := ifP hc2 hE
      cases hE
      exact r_ret rfl (Or.inr (Or.inr (Or.inr ⟨rfl, rfl, rfl, rfl⟩)))
    · have hE := ifN hc2 hE
      refine r_aload_n (t := some a0) 0 rfl rfl rfl ?_
      refine r_iload_n 1 rfl rfl rfl ?_
      obtain ⟨v3, h4, hq5, hE⟩ := bdE hE
      refine r_callV1 (rest := []) (hc := (Ta_signAt_ok g N _ _ _ _ _ hq5 D2 (by omega))) rfl pm_Ta_signAt lw_8_68 im_Ta_signAt sl_Ta_signAt rfl rfl rfl (rcOK hk1 rfl) (by decide) ?_
      refine r_bipush 10 rfl cb_10 ?_
      refine r_icmp_eq (tgt := 46) rfl (by decide) (fun hc6 => ?_) (fun hc6 => ?_)
      · have hE := ifP hc6 hE
        first | exact r_sb (Ta_skipBlanks_b46_ok g N _ hD _ ih  _ _ _ _ _ hE) ⟨rfl, rfl, trivial⟩ | exact r_sb (Ta_skipBlanks_b46_ok g N _ hD _ ih  _ _ _ _ _ hE) (by simp only [su1, su2, dr1_rf, dr1_in, dr1_lo, dr2_rf, dr2_in, dr2_lo]; exact ⟨rfl, rfl, trivial⟩)
      · have hE := ifN hc6 hE
        refine r_aload_n (t := some a0) 0 rfl rfl rfl ?_
        refine r_iload_n 1 rfl rfl rfl ?_
        obtain ⟨hk7, hE⟩ := ckE hE
        obtain ⟨v8, h9, hq10, hE⟩ := bdE hE
        refine r_callV1 (rest := []) (hc := (Ta_signAt_ok g N _ _ _ _ _ hq10 D2 (by omega))) rfl pm_Ta_signAt lw_8_68 im_Ta_signAt sl_Ta_signAt rfl rfl rfl (rcOK hk7 rfl) (by decide) ?_
        refine r_bipush 32 rfl cb_32 ?_
        refine r_icmp_ne (tgt := 62) rfl (by decide) (fun hc11 => ?_) (fun hc11 => ?_)
        · have hE := ifP hc11 hE
          first | exact r_sb (Ta_skipBlanks_b46_ok g N _ hD _ ih  _ _ _ _ _ hE) ⟨rfl, rfl, trivial⟩ | exact r_sb (Ta_skipBlanks_b46_ok g N _ hD _ ih  _ _ _ _ _ hE) (by simp only [su1, su2, dr1_rf, dr1_in, dr1_lo, dr2_rf, dr2_in, dr2_lo]; exact ⟨rfl, rfl, trivial⟩)
        · have hE := ifN hc11 hE
          cases hE
          exact r_ret rfl (Or.inr (Or.inr (Or.inr ⟨rfl, rfl, rfl, rfl⟩)))
def Ta_skipBlanks (N : Nat) (a0 : Nat) (h : PH) : Option (Unit × PH) :=
  ck ((hK h a0).1 = 8) <|
  lt0 (wI h a0 3 ((hI h a0 3) + (hI h a0 4))) fun h2 =>
  Ta_skipBlanks_b18 N N a0 (hI h2 a0 3) h2
set_option maxRecDepth 20000 in
theorem Ta_skipBlanks_ok (g : GT) (N : Nat) (a0 : Nat) (h : PH) (v : Unit) (h' : PH) (hE : Ta_skipBlanks N a0 h = some (v, h')) (D : Nat) (hD : 1 ≤ D) : Calls g D pTa_skipBlanks [va_rf (some a0)] h (oV v) h' := by
  refine Calls.of cok_Ta_skipBlanks ht_Ta_skipBlanks pl_Ta_skipBlanks (fun ad => by rw [lg_len, sL_cat]; simp only [List.map_cons, List.map_nil, rf_cat, cat_i, cat_l, List.sum_cons, List.sum_nil]; decide) ?_
  rw [show lv_args 0 [va_rf (some a0)] = [(0, va_rf (some a0))] from (by simp only [lv_args, rf_cat, cat_i, cat_l]; try rfl)]
  obtain ⟨D2, rfl⟩ : ∃ d, D = d + 1 := ⟨D - 1, by omega⟩
  unfold Ta_skipBlanks at hE
  refine r_aload_n (t := some a0) 0 rfl rfl rfl ?_
  refine r_dup rfl (rf_cat _) ?_
  obtain ⟨hk1, hE⟩ := ckE hE
  refine r_getI rfl (fl_8_22 rfl) (Or.inl rfl) rfl hk1 ?_
  refine r_aload_n (t := some a0) 0 rfl rfl rfl ?_
  refine r_getI rfl (fl_8_25 rfl) (Or.inl rfl) rfl hk1 ?_
  refine r_iadd rfl ?_
  obtain ⟨h2, he3, hE⟩ := ltE hE
  refine r_putI rfl (fl_8_22 rfl) finF rfl hk1 he3 ?_
  refine r_aload_n (t := some a0) 0 rfl rfl rfl ?_
  refine r_getI rfl (fl_8_22 rfl) (Or.inl rfl) rfl (kwI he3 hk1) ?_
  refine r_istore_n 1 rfl rfl (by decide) ?_
  first | exact r_sb (Ta_skipBlanks_b18_ok g N _ hD  N _ _ _ _ _ hE) ⟨rfl, rfl, trivial⟩ | exact r_sb (Ta_skipBlanks_b18_ok g N _ hD  N _ _ _ _ _ hE) (by simp only [su1, su2, dr1_rf, dr1_in, dr1_lo, dr2_rf, dr2_in, dr2_lo]; exact ⟨rfl, rfl, trivial⟩)
def Ta_isLetter (N : Nat) (x0 : Int32) (h : PH) : Option (Bool × PH) :=
  if x0 < 97 then
    some (false, h)
  else
    if 122 < x0 then
      some (false, h)
    else
      some (true, h)
set_option maxRecDepth 20000 in
theorem Ta_isLetter_ok (g : GT) (N : Nat) (x0 : Int32) (h : PH) (v : Bool) (h' : PH) (hE : Ta_isLetter N x0 h = some (v, h')) (D : Nat) (hD : 0 ≤ D) : Calls g D pTa_isLetter [.int x0] h (oZ v) h' := by
  refine Calls.of cok_Ta_isLetter ht_Ta_isLetter pl_Ta_isLetter (fun ad => by rw [lg_len, sL_cat]; simp only [List.map_cons, List.map_nil, rf_cat, cat_i, cat_l, List.sum_cons, List.sum_nil]; decide) ?_
  rw [show lv_args 0 [.int x0] = [(0, .int x0)] from (by simp only [lv_args, rf_cat, cat_i, cat_l]; try rfl)]
  unfold Ta_isLetter at hE
  refine r_iload_n 0 rfl rfl rfl ?_
  refine r_bipush 97 rfl cb_97 ?_
  refine r_icmp_lt (tgt := 16) rfl (by decide) (fun hc1 => ?_) (fun hc1 => ?_)
  · have hE := ifP hc1 hE
    refine r_iconst 0 rfl ci_0 ?_
    cases hE
    exact r_ret rfl (Or.inl ⟨rfl, _, _, rfl, rfl, rfl, rfl⟩)
  · have hE := ifN hc1 hE
    refine r_iload_n 0 rfl rfl rfl ?_
    refine r_bipush 122 rfl cb_122 ?_
    refine r_icmp_gt (tgt := 16) rfl (by decide) (fun hc2 => ?_) (fun hc2 => ?_)
    · have hE := ifP hc2 hE
      refine r_iconst 0 rfl ci_0 ?_
      cases hE
      exact r_ret rfl (Or.inl ⟨rfl, _, _, rfl, rfl, rfl, rfl⟩)
    · have hE := ifN hc2 hE
      refine r_iconst 1 rfl ci_1 ?_
      refine r_goto (tgt := 17) rfl (by decide) ?_
      cases hE
      exact r_ret rfl (Or.inl ⟨rfl, _, _, rfl, rfl, rfl, rfl⟩)
def Ta_readWord_b122 (N : Nat) (self_86 : Nat → Int32 → PH → Option (Unit × PH)) (a0 : Nat) (x1 : Int32) (h : PH) : Option (Unit × PH) :=
  self_86 a0 (x1 + 1) h
set_option maxRecDepth 20000 in
theorem Ta_readWord_b122_ok (g : GT) (N : Nat) (D : Nat) (hD : 1 ≤ D) (self_86 : Nat → Int32 → PH → Option (Unit × PH)) (hself_86 : ∀ (a0 : Nat) (x1 : Int32) (h : PH) (v : Unit) (h' : PH), self_86 a0 x1 h = some (v, h') → Run g pTa_readWord D 86 [(0, va_rf (some a0)), (1, .int x1)] [] h (rV v) h') : ∀ (a0 : Nat) (x1 : Int32) (h : PH) (v : Unit) (h' : PH), Ta_readWord_b122 N self_86 a0 x1 h = some (v, h') → Run g pTa_readWord D 122 [(0, va_rf (some a0)), (1, .int x1)] [] h (rV v) h' := by
  obtain ⟨D2, rfl⟩ : ∃ d, D = d + 1 := ⟨D - 1, by omega⟩
  intro a0 x1 h v h' hE
  unfold Ta_readWord_b122 at hE
  refine r_iinc _ rfl rfl (congrArg _ ci_1) (by decide) ?_
  refine r_goto (tgt := 86) rfl (by decide) ?_
  first | exact r_sb (hself_86 _ _ _ _ _ hE) ⟨rfl, rfl, trivial⟩ | exact r_sb (hself_86 _ _ _ _ _ hE) (by simp only [su1, su2, dr1_rf, dr1_in, dr1_lo, dr2_rf, dr2_in, dr2_lo]; exact ⟨rfl, rfl, trivial⟩)
def Ta_readWord_b86 (N : Nat) : Nat → Nat → Int32 → PH → Option (Unit × PH)
  | 0 => fun _ _ _ => none
  | n + 1 => fun a0 x1 h =>
    ck ((hK h a0).1 = 8) <|
    ((hR h a0 9)).bind fun a_2 =>
    ck ((hK h a_2).1 = 23) <|
    if (Int32.ofNat (hK h a_2).2) ≤ x1 then
      some ((), h)
    else
      if (hI h a0 2) = 2 then
        ck (inb x1 (hK h a_2).2 = true) <|
        if (lg_cmp (hJ h a_2 (ix x1)) (hJ h a0 7)) = 0 then
          lt0 (wI h a0 6 x1) fun h9 =>
          Ta_readWord_b122 N (Ta_readWord_b86 N n)  a0 x1 h9
        else
          Ta_readWord_b122 N (Ta_readWord_b86 N n)  a0 x1 h
      else
        some ((), h)
set_option maxRecDepth 20000 in
theorem Ta_readWord_b86_ok (g : GT) (N : Nat) (D : Nat) (hD : 1 ≤ D) : ∀ (n : Nat) (a0 : Nat) (x1 : Int32) (h : PH) (v : Unit) (h' : PH), Ta_readWord_b86 N n a0 x1 h = some (v, h') → Run g pTa_readWord D 86 [(0, va_rf (some a0)), (1, .int x1)] [] h (rV v) h' := by
  obtain ⟨D2, rfl⟩ : ∃ d, D = d + 1 := ⟨D - 1, by omega⟩
  intro n
  induction n with
  | zero => exact fun _ _ _ _ _ hE => nomatch (show none = some _ from hE)
  | succ n ih =>
    intro a0 x1 h v h' hE
    unfold Ta_readWord_b86 at hE
    refine r_iload_n 1 rfl rfl rfl ?_
    refine r_aload_n (t := some a0) 0 rfl rfl rfl ?_
    obtain ⟨hk1, hE⟩ := ckE hE
    refine r_getR rfl (fl_8_41 rfl) (Or.inr ⟨_, rfl⟩) rfl hk1 ?_
    obtain ⟨a_2, ha3, hE⟩ := bnE hE
    obtain ⟨hk4, hE⟩ := ckE hE
    refine r_alen (kd := 23) rfl (by decide) (by decide) ha3 hk4 ?_
    refine r_icmp_ge (tgt := 128) rfl (by decide) (fun hc5 => ?_) (fun hc5 => ?_)
    · have hE := ifP hc5 hE
      cases hE
      exact r_ret rfl (Or.inr (Or.inr (Or.inr ⟨rfl, rfl, rfl, rfl⟩)))
    · have hE := ifN hc5 hE
      refine r_aload_n (t := some a0) 0 rfl rfl rfl ?_
      refine r_getI rfl (fl_8_19 rfl) (Or.inl rfl) rfl hk1 ?_
      refine r_iconst 2 rfl ci_2 ?_
      refine r_icmp_ne (tgt := 128) rfl (by decide) (fun hc6 => ?_) (fun hc6 => ?_)
      · have hE := ifP hc6 hE
        refine r_aload_n (t := some a0) 0 rfl rfl rfl ?_
        refine r_getR rfl (fl_8_41 rfl) (Or.inr ⟨_, rfl⟩) rfl hk1 ?_
        refine r_iload_n 1 rfl rfl rfl ?_
        obtain ⟨hi7, hE⟩ := ckE hE
        refine r_lald rfl ha3 hk4 hi7 ?_
        refine r_aload_n (t := some a0) 0 rfl rfl rfl ?_
        refine r_getJ rfl (fl_8_34 rfl) rfl hk1 ?_
        refine r_lcmp rfl ?_
        refine r_if_ne (tgt := 122) rfl (by decide) (fun hc8 => ?_) (fun hc8 => ?_)
        · have hE := ifP hc8 hE
          refine r_aload_n (t := some a0) 0 rfl rfl rfl ?_
          refine r_iload_n 1 rfl rfl rfl ?_
          obtain ⟨h9, he10, hE⟩ := ltE hE
          refine r_putI rfl (fl_8_31 rfl) finF rfl hk1 he10 ?_
          first | exact r_sb (Ta_readWord_b122_ok g N _ hD _ ih  _ _ _ _ _ hE) ⟨rfl, rfl, trivial⟩ | exact r_sb (Ta_readWord_b122_ok g N _ hD _ ih  _ _ _ _ _ hE) (by simp only [su1, su2, dr1_rf, dr1_in, dr1_lo, dr2_rf, dr2_in, dr2_lo]; exact ⟨rfl, rfl, trivial⟩)
        · have hE := ifN hc8 hE
          first | exact r_sb (Ta_readWord_b122_ok g N _ hD _ ih  _ _ _ _ _ hE) ⟨rfl, rfl, trivial⟩ | exact r_sb (Ta_readWord_b122_ok g N _ hD _ ih  _ _ _ _ _ hE) (by simp only [su1, su2, dr1_rf, dr1_in, dr1_lo, dr2_rf, dr2_in, dr2_lo]; exact ⟨rfl, rfl, trivial⟩)
      · have hE := ifN hc6 hE
        cases hE
        exact r_ret rfl (Or.inr (Or.inr (Or.inr ⟨rfl, rfl, rfl, rfl⟩)))
def Ta_readWord_b81 (N : Nat) (s0 : Nat) (s1 : Int32) (a0 : Nat) (h : PH) : Option (Unit × PH) :=
  ck ((hK h s0).1 = 8) <|
  lt0 (wI h s0 2 s1) fun h2 =>
  Ta_readWord_b86 N N a0 0 h2
set_option maxRecDepth 20000 in
theorem Ta_readWord_b81_ok (g : GT) (N : Nat) (D : Nat) (hD : 1 ≤ D) : ∀ (s0 : Nat) (s1 : Int32) (a0 : Nat) (h : PH) (v : Unit) (h' : PH), Ta_readWord_b81 N s0 s1 a0 h = some (v, h') → Run g pTa_readWord D 81 [(0, va_rf (some a0))] [.int s1, va_rf (some s0)] h (rV v) h' := by
  obtain ⟨D2, rfl⟩ : ∃ d, D = d + 1 := ⟨D - 1, by omega⟩
  intro s0 s1 a0 h v h' hE
  unfold Ta_readWord_b81 at hE
  obtain ⟨hk1, hE⟩ := ckE hE
  obtain ⟨h2, he3, hE⟩ := ltE hE
  refine r_putI rfl (fl_8_19 rfl) finF rfl hk1 he3 ?_
  refine r_iconst 0 rfl ci_0 ?_
  refine r_istore_n 1 rfl rfl (by decide) ?_
  first | exact r_sb (Ta_readWord_b86_ok g N _ hD  N _ _ _ _ _ hE) ⟨rfl, rfl, trivial⟩ | exact r_sb (Ta_readWord_b86_ok g N _ hD  N _ _ _ _ _ hE) (by simp only [su1, su2, dr1_rf, dr1_in, dr1_lo, dr2_rf, dr2_in, dr2_lo]; exact ⟨rfl, rfl, trivial⟩)
def Ta_readWord_b66 (N : Nat) (a0 : Nat) (h : PH) : Option (Unit × PH) :=
  ck ((hK h a0).1 = 8) <|
  if 8 < (hI h a0 4) then
    Ta_readWord_b81 N  a0 0 a0 h
  else
    Ta_readWord_b81 N  a0 2 a0 h
set_option maxRecDepth 20000 in
theorem Ta_readWord_b66_ok (g : GT) (N : Nat) (D : Nat) (hD : 1 ≤ D) : ∀ (a0 : Nat) (h : PH) (v : Unit) (h' : PH), Ta_readWord_b66 N a0 h = some (v, h') → Run g pTa_readWord D 66 [(0, va_rf (some a0))] [] h (rV v) h' := by
  obtain ⟨D2, rfl⟩ : ∃ d, D = d + 1 := ⟨D - 1, by omega⟩
  intro a0 h v h' hE
  unfold Ta_readWord_b66 at hE
  refine r_aload_n (t := some a0) 0 rfl rfl rfl ?_
  refine r_aload_n (t := some a0) 0 rfl rfl rfl ?_
  obtain ⟨hk1, hE⟩ := ckE hE
  refine r_getI rfl (fl_8_25 rfl) (Or.inl rfl) rfl hk1 ?_
  refine r_bipush 8 rfl cb_8 ?_
  refine r_icmp_gt (tgt := 80) rfl (by decide) (fun hc2 => ?_) (fun hc2 => ?_)
  · have hE := ifP hc2 hE
    refine r_iconst 0 rfl ci_0 ?_
    first | exact r_sb (Ta_readWord_b81_ok g N _ hD   _ _ _ _ _ _ hE) ⟨rfl, trivial⟩ | exact r_sb (Ta_readWord_b81_ok g N _ hD   _ _ _ _ _ _ hE) (by simp only [su1, su2, dr1_rf, dr1_in, dr1_lo, dr2_rf, dr2_in, dr2_lo]; exact ⟨rfl, trivial⟩)
  · have hE := ifN hc2 hE
    refine r_iconst 2 rfl ci_2 ?_
    refine r_goto (tgt := 81) rfl (by decide) ?_
    first | exact r_sb (Ta_readWord_b81_ok g N _ hD   _ _ _ _ _ _ hE) ⟨rfl, trivial⟩ | exact r_sb (Ta_readWord_b81_ok g N _ hD   _ _ _ _ _ _ hE) (by simp only [su1, su2, dr1_rf, dr1_in, dr1_lo, dr2_rf, dr2_in, dr2_lo]; exact ⟨rfl, trivial⟩)
def Ta_readWord_b15 (N : Nat) : Nat → Nat → Int32 → PH → Option (Unit × PH)
  | 0 => fun _ _ _ => none
  | n + 1 => fun a0 x1 h =>
    ck ((hK h a0).1 = 8) <|
    if (hI h a0 1) ≤ x1 then
      Ta_readWord_b66 N  a0 h
    else
      bd (Ta_signAt N a0 x1 h) fun v3 h4 =>
      bd (Ta_isLetter N v3 h4) fun v6 h7 =>
      if (bI v6) = 0 then
        Ta_readWord_b66 N  a0 h7
      else
        ck ((hK h7 a0).1 = 8) <|
        bd (Ta_signAt N a0 x1 h7) fun v11 h12 =>
        bd (Ta_joined N (hJ h7 a0 7) v11 h12) fun v14 h15 =>
        ck ((hK h15 a0).1 = 8) <|
        lt0 (wJ h15 a0 7 v14) fun h18 =>
        lt0 (wI h18 a0 4 ((hI h18 a0 4) + 1)) fun h20 =>
        (Ta_readWord_b15 N n) a0 (x1 + 1) h20
set_option maxRecDepth 20000 in
theorem Ta_readWord_b15_ok (g : GT) (N : Nat) (D : Nat) (hD : 1 ≤ D) : ∀ (n : Nat) (a0 : Nat) (x1 : Int32) (h : PH) (v : Unit) (h' : PH), Ta_readWord_b15 N n a0 x1 h = some (v, h') → Run g pTa_readWord D 15 [(0, va_rf (some a0)), (1, .int x1)] [] h (rV v) h' := by
  obtain ⟨D2, rfl⟩ : ∃ d, D = d + 1 := ⟨D - 1, by omega⟩
  intro n
  induction n with
  | zero => exact fun _ _ _ _ _ hE => nomatch (show none = some _ from hE)
  | succ n ih =>
    intro a0 x1 h v h' hE
    unfold Ta_readWord_b15 at hE
    refine r_iload_n 1 rfl rfl rfl ?_
    refine r_aload_n (t := some a0) 0 rfl rfl rfl ?_
    obtain ⟨hk1, hE⟩ := ckE hE
    refine r_getI rfl (fl_8_15 rfl) (Or.inl rfl) rfl hk1 ?_
    refine r_icmp_ge (tgt := 66) rfl (by decide) (fun hc2 => ?_) (fun hc2 => ?_)
    · have hE := ifP hc2 hE
      first | exact r_sb (Ta_readWord_b66_ok g N _ hD   _ _ _ _ hE) ⟨rfl, trivial⟩ | exact r_sb (Ta_readWord_b66_ok g N _ hD   _ _ _ _ hE) (by simp only [su1, su2, dr1_rf, dr1_in, dr1_lo, dr2_rf, dr2_in, dr2_lo]; exact ⟨rfl, trivial⟩)
    · have hE := ifN hc2 hE
      refine r_aload_n (t := some a0) 0 rfl rfl rfl ?_
      refine r_iload_n 1 rfl rfl rfl ?_
      obtain ⟨v3, h4, hq5, hE⟩ := bdE hE
      refine r_callV1 (rest := []) (hc := (Ta_signAt_ok g N _ _ _ _ _ hq5 D2 (by omega))) rfl pm_Ta_signAt lw_8_68 im_Ta_signAt sl_Ta_signAt rfl rfl rfl (rcOK hk1 rfl) (by decide) ?_
      obtain ⟨v6, h7, hq8, hE⟩ := bdE hE
      refine r_callS1 (rest := []) (hc := (Ta_isLetter_ok g N _ _ _ _ hq8 D2 (by omega))) rfl pm_Ta_isLetter lw_8_72 st_Ta_isLetter rfl rfl (by decide) ?_
      refine r_if_eq (tgt := 66) rfl (by decide) (fun hc9 => ?_) (fun hc9 => ?_)
      · have hE := ifP hc9 hE
        first | exact r_sb (Ta_readWord_b66_ok g N _ hD   _ _ _ _ hE) ⟨rfl, trivial⟩ | exact r_sb (Ta_readWord_b66_ok g N _ hD   _ _ _ _ hE) (by simp only [su1, su2, dr1_rf, dr1_in, dr1_lo, dr2_rf, dr2_in, dr2_lo]; exact ⟨rfl, trivial⟩)
      · have hE := ifN hc9 hE
        refine r_aload_n (t := some a0) 0 rfl rfl rfl ?_
        refine r_aload_n (t := some a0) 0 rfl rfl rfl ?_
        obtain ⟨hk10, hE⟩ := ckE hE
        refine r_getJ rfl (fl_8_34 rfl) rfl hk10 ?_
        refine r_aload_n (t := some a0) 0 rfl rfl rfl ?_
        refine r_iload_n 1 rfl rfl rfl ?_
        obtain ⟨v11, h12, hq13, hE⟩ := bdE hE
        refine r_callV1 (rest := [.long (hJ h7 a0 7), va_rf (some a0)]) (hc := (Ta_signAt_ok g N _ _ _ _ _ hq13 D2 (by omega))) rfl pm_Ta_signAt lw_8_68 im_Ta_signAt sl_Ta_signAt rfl rfl rfl (rcOK hk10 rfl) (by simp only [List.map_cons, List.map_nil, rf_cat, cat_i, cat_l, List.sum_cons, List.sum_nil]; decide) ?_
        obtain ⟨v14, h15, hq16, hE⟩ := bdE hE
        refine r_callS1 (rest := [va_rf (some a0)]) (hc := (Ta_joined_ok g N _ _ _ _ _ hq16 D2 (by omega))) rfl pm_Ta_joined lw_8_56 st_Ta_joined rfl rfl (by simp only [List.map_cons, List.map_nil, rf_cat, cat_i, cat_l, List.sum_cons, List.sum_nil]; decide) ?_
        obtain ⟨hk17, hE⟩ := ckE hE
        obtain ⟨h18, he19, hE⟩ := ltE hE
        refine r_putJ rfl (fl_8_34 rfl) finF rfl hk17 he19 ?_
        refine r_aload_n (t := some a0) 0 rfl rfl rfl ?_
        refine r_dup rfl (rf_cat _) ?_
        refine r_getI rfl (fl_8_25 rfl) (Or.inl rfl) rfl (kwJ he19 hk17) ?_
        refine r_iconst 1 rfl ci_1 ?_
        refine r_iadd rfl ?_
        obtain ⟨h20, he21, hE⟩ := ltE hE
        refine r_putI rfl (fl_8_25 rfl) finF rfl (kwJ he19 hk17) he21 ?_
        refine r_iinc _ rfl rfl (congrArg _ ci_1) (by decide) ?_
        refine r_goto (tgt := 15) rfl (by decide) ?_
        first | exact r_sb (ih _ _ _ _ _ hE) ⟨rfl, rfl, trivial⟩ | exact r_sb (ih _ _ _ _ _ hE) (by simp only [su1, su2, dr1_rf, dr1_in, dr1_lo, dr2_rf, dr2_in, dr2_lo]; exact ⟨rfl, rfl, trivial⟩)
def Ta_readWord (N : Nat) (a0 : Nat) (h : PH) : Option (Unit × PH) :=
  ck ((hK h a0).1 = 8) <|
  lt0 (wJ h a0 7 0) fun h2 =>
  lt0 (wI h2 a0 4 0) fun h4 =>
  Ta_readWord_b15 N N a0 (hI h4 a0 3) h4
set_option maxRecDepth 20000 in
theorem Ta_readWord_ok (g : GT) (N : Nat) (a0 : Nat) (h : PH) (v : Unit) (h' : PH) (hE : Ta_readWord N a0 h = some (v, h')) (D : Nat) (hD : 1 ≤ D) : Calls g D pTa_readWord [va_rf (some a0)] h (oV v) h' := by
  refine Calls.of cok_Ta_readWord ht_Ta_readWord pl_Ta_readWord (fun ad => by rw [lg_len, sL_cat]; simp only [List.map_cons, List.map_nil, rf_cat, cat_i, cat_l, List.sum_cons, List.sum_nil]; decide) ?_
  rw [show lv_args 0 [va_rf (some a0)] = [(0, va_rf (some a0))] from (by simp only [lv_args, rf_cat, cat_i, cat_l]; try rfl)]
  obtain ⟨D2, rfl⟩ : ∃ d, D = d + 1 := ⟨D - 1, by omega⟩
  unfold Ta_readWord at hE
  refine r_aload_n (t := some a0) 0 rfl rfl rfl ?_
  refine r_lconst 0 rfl cl_0 ?_
  obtain ⟨hk1, hE⟩ := ckE hE
  obtain ⟨h2, he3, hE⟩ := ltE hE
  refine r_putJ rfl (fl_8_34 rfl) finF rfl hk1 he3 ?_
  refine r_aload_n (t := some a0) 0 rfl rfl rfl ?_
  refine r_iconst 0 rfl ci_0 ?_
  obtain ⟨h4, he5, hE⟩ := ltE hE
  refine r_putI rfl (fl_8_25 rfl) finF rfl (kwJ he3 hk1) he5 ?_
  refine r_aload_n (t := some a0) 0 rfl rfl rfl ?_
  refine r_getI rfl (fl_8_22 rfl) (Or.inl rfl) rfl (kwI he5 (kwJ he3 hk1)) ?_
  refine r_istore_n 1 rfl rfl (by decide) ?_
  first | exact r_sb (Ta_readWord_b15_ok g N _ hD  N _ _ _ _ _ hE) ⟨rfl, rfl, trivial⟩ | exact r_sb (Ta_readWord_b15_ok g N _ hD  N _ _ _ _ _ hE) (by simp only [su1, su2, dr1_rf, dr1_in, dr1_lo, dr2_rf, dr2_in, dr2_lo]; exact ⟨rfl, rfl, trivial⟩)
def Ta_isDigit (N : Nat) (x0 : Int32) (h : PH) : Option (Bool × PH) :=
  if x0 < 48 then
    some (false, h)
  else
    if 57 < x0 then
      some (false, h)
    else
      some (true, h)
set_option maxRecDepth 20000 in
theorem Ta_isDigit_ok (g : GT) (N : Nat) (x0 : Int32) (h : PH) (v : Bool) (h' : PH) (hE : Ta_isDigit N x0 h = some (v, h')) (D : Nat) (hD : 0 ≤ D) : Calls g D pTa_isDigit [.int x0] h (oZ v) h' := by
  refine Calls.of cok_Ta_isDigit ht_Ta_isDigit pl_Ta_isDigit (fun ad => by rw [lg_len, sL_cat]; simp only [List.map_cons, List.map_nil, rf_cat, cat_i, cat_l, List.sum_cons, List.sum_nil]; decide) ?_
  rw [show lv_args 0 [.int x0] = [(0, .int x0)] from (by simp only [lv_args, rf_cat, cat_i, cat_l]; try rfl)]
  unfold Ta_isDigit at hE
  refine r_iload_n 0 rfl rfl rfl ?_
  refine r_bipush 48 rfl cb_48 ?_
  refine r_icmp_lt (tgt := 16) rfl (by decide) (fun hc1 => ?_) (fun hc1 => ?_)
  · have hE := ifP hc1 hE
    refine r_iconst 0 rfl ci_0 ?_
    cases hE
    exact r_ret rfl (Or.inl ⟨rfl, _, _, rfl, rfl, rfl, rfl⟩)
  · have hE := ifN hc1 hE
    refine r_iload_n 0 rfl rfl rfl ?_
    refine r_bipush 57 rfl cb_57 ?_
    refine r_icmp_gt (tgt := 16) rfl (by decide) (fun hc2 => ?_) (fun hc2 => ?_)
    · have hE := ifP hc2 hE
      refine r_iconst 0 rfl ci_0 ?_
      cases hE
      exact r_ret rfl (Or.inl ⟨rfl, _, _, rfl, rfl, rfl, rfl⟩)
    · have hE := ifN hc2 hE
      refine r_iconst 1 rfl ci_1 ?_
      refine r_goto (tgt := 17) rfl (by decide) ?_
      cases hE
      exact r_ret rfl (Or.inl ⟨rfl, _, _, rfl, rfl, rfl, rfl⟩)
def Ta_readNumber_b79 (N : Nat) (s0 : Nat) (s1 : Int32) (h : PH) : Option (Unit × PH) :=
  ck ((hK h s0).1 = 8) <|
  lt0 (wI h s0 2 s1) fun h2 =>
  some ((), h2)
set_option maxRecDepth 20000 in
theorem Ta_readNumber_b79_ok (g : GT) (N : Nat) (D : Nat) (hD : 1 ≤ D) : ∀ (s0 : Nat) (s1 : Int32) (h : PH) (v : Unit) (h' : PH), Ta_readNumber_b79 N s0 s1 h = some (v, h') → Run g pTa_readNumber D 79 [] [.int s1, va_rf (some s0)] h (rV v) h' := by
  obtain ⟨D2, rfl⟩ : ∃ d, D = d + 1 := ⟨D - 1, by omega⟩
  intro s0 s1 h v h' hE
  unfold Ta_readNumber_b79 at hE
  obtain ⟨hk1, hE⟩ := ckE hE
  obtain ⟨h2, he3, hE⟩ := ltE hE
  refine r_putI rfl (fl_8_19 rfl) finF rfl hk1 he3 ?_
  cases hE
  exact r_ret rfl (Or.inr (Or.inr (Or.inr ⟨rfl, rfl, rfl, rfl⟩)))
def Ta_readNumber_b65 (N : Nat) (a0 : Nat) (h : PH) : Option (Unit × PH) :=
  ck ((hK h a0).1 = 8) <|
  if 4 < (hI h a0 4) then
    Ta_readNumber_b79 N  a0 0 h
  else
    Ta_readNumber_b79 N  a0 1 h
set_option maxRecDepth 20000 in
theorem Ta_readNumber_b65_ok (g : GT) (N : Nat) (D : Nat) (hD : 1 ≤ D) : ∀ (a0 : Nat) (h : PH) (v : Unit) (h' : PH), Ta_readNumber_b65 N a0 h = some (v, h') → Run g pTa_readNumber D 65 [(0, va_rf (some a0))] [] h (rV v) h' := by
  obtain ⟨D2, rfl⟩ : ∃ d, D = d + 1 := ⟨D - 1, by omega⟩
  intro a0 h v h' hE
  unfold Ta_readNumber_b65 at hE
  refine r_aload_n (t := some a0) 0 rfl rfl rfl ?_
  refine r_aload_n (t := some a0) 0 rfl rfl rfl ?_
  obtain ⟨hk1, hE⟩ := ckE hE
  refine r_getI rfl (fl_8_25 rfl) (Or.inl rfl) rfl hk1 ?_
  refine r_iconst 4 rfl ci_4 ?_
  refine r_icmp_gt (tgt := 78) rfl (by decide) (fun hc2 => ?_) (fun hc2 => ?_)
  · have hE := ifP hc2 hE
    refine r_iconst 0 rfl ci_0 ?_
    exact r_sb (Ta_readNumber_b79_ok g N _ hD   _ _ _ _ _ hE) trivial
  · have hE := ifN hc2 hE
    refine r_iconst 1 rfl ci_1 ?_
    refine r_goto (tgt := 79) rfl (by decide) ?_
    exact r_sb (Ta_readNumber_b79_ok g N _ hD   _ _ _ _ _ hE) trivial
def Ta_readNumber_b10 (N : Nat) : Nat → Nat → Int32 → PH → Option (Unit × PH)
  | 0 => fun _ _ _ => none
  | n + 1 => fun a0 x1 h =>
    ck ((hK h a0).1 = 8) <|
    if (hI h a0 1) ≤ x1 then
      Ta_readNumber_b65 N  a0 h
    else
      bd (Ta_signAt N a0 x1 h) fun v3 h4 =>
      bd (Ta_isDigit N v3 h4) fun v6 h7 =>
      if (bI v6) = 0 then
        Ta_readNumber_b65 N  a0 h7
      else
        ck ((hK h7 a0).1 = 8) <|
        bd (Ta_signAt N a0 x1 h7) fun v11 h12 =>
        ck ((hK h12 a0).1 = 8) <|
        lt0 (wI h12 a0 5 ((((hI h7 a0 5) * 10) + v11) - 48)) fun h15 =>
        lt0 (wI h15 a0 4 ((hI h15 a0 4) + 1)) fun h17 =>
        (Ta_readNumber_b10 N n) a0 (x1 + 1) h17
set_option maxRecDepth 20000 in
theorem Ta_readNumber_b10_ok (g : GT) (N : Nat) (D : Nat) (hD : 1 ≤ D) : ∀ (n : Nat) (a0 : Nat) (x1 : Int32) (h : PH) (v : Unit) (h' : PH), Ta_readNumber_b10 N n a0 x1 h = some (v, h') → Run g pTa_readNumber D 10 [(0, va_rf (some a0)), (1, .int x1)] [] h (rV v) h' := by
  obtain ⟨D2, rfl⟩ : ∃ d, D = d + 1 := ⟨D - 1, by omega⟩
  intro n
  induction n with
  | zero => exact fun _ _ _ _ _ hE => nomatch (show none = some _ from hE)
  | succ n ih =>
    intro a0 x1 h v h' hE
    unfold Ta_readNumber_b10 at hE
    refine r_iload_n 1 rfl rfl rfl ?_
    refine r_aload_n (t := some a0) 0 rfl rfl rfl ?_
    obtain ⟨hk1, hE⟩ := ckE hE
    refine r_getI rfl (fl_8_15 rfl) (Or.inl rfl) rfl hk1 ?_
    refine r_icmp_ge (tgt := 65) rfl (by decide) (fun hc2 => ?_) (fun hc2 => ?_)
    · have hE := ifP hc2 hE
      first | exact r_sb (Ta_readNumber_b65_ok g N _ hD   _ _ _ _ hE) ⟨rfl, trivial⟩ | exact r_sb (Ta_readNumber_b65_ok g N _ hD   _ _ _ _ hE) (by simp only [su1, su2, dr1_rf, dr1_in, dr1_lo, dr2_rf, dr2_in, dr2_lo]; exact ⟨rfl, trivial⟩)
    · have hE := ifN hc2 hE
      refine r_aload_n (t := some a0) 0 rfl rfl rfl ?_
      refine r_iload_n 1 rfl rfl rfl ?_
      obtain ⟨v3, h4, hq5, hE⟩ := bdE hE
      refine r_callV1 (rest := []) (hc := (Ta_signAt_ok g N _ _ _ _ _ hq5 D2 (by omega))) rfl pm_Ta_signAt lw_8_68 im_Ta_signAt sl_Ta_signAt rfl rfl rfl (rcOK hk1 rfl) (by decide) ?_
      obtain ⟨v6, h7, hq8, hE⟩ := bdE hE
      refine r_callS1 (rest := []) (hc := (Ta_isDigit_ok g N _ _ _ _ hq8 D2 (by omega))) rfl pm_Ta_isDigit lw_8_79 st_Ta_isDigit rfl rfl (by decide) ?_
      refine r_if_eq (tgt := 65) rfl (by decide) (fun hc9 => ?_) (fun hc9 => ?_)
      · have hE := ifP hc9 hE
        first | exact r_sb (Ta_readNumber_b65_ok g N _ hD   _ _ _ _ hE) ⟨rfl, trivial⟩ | exact r_sb (Ta_readNumber_b65_ok g N _ hD   _ _ _ _ hE) (by simp only [su1, su2, dr1_rf, dr1_in, dr1_lo, dr2_rf, dr2_in, dr2_lo]; exact ⟨rfl, trivial⟩)
      · have hE := ifN hc9 hE
        refine r_aload_n (t := some a0) 0 rfl rfl rfl ?_
        refine r_aload_n (t := some a0) 0 rfl rfl rfl ?_
        obtain ⟨hk10, hE⟩ := ckE hE
        refine r_getI rfl (fl_8_28 rfl) (Or.inl rfl) rfl hk10 ?_
        refine r_bipush 10 rfl cb_10 ?_
        refine r_imul rfl ?_
        refine r_aload_n (t := some a0) 0 rfl rfl rfl ?_
        refine r_iload_n 1 rfl rfl rfl ?_
        obtain ⟨v11, h12, hq13, hE⟩ := bdE hE
        refine r_callV1 (rest := [.int ((hI h7 a0 5) * 10), va_rf (some a0)]) (hc := (Ta_signAt_ok g N _ _ _ _ _ hq13 D2 (by omega))) rfl pm_Ta_signAt lw_8_68 im_Ta_signAt sl_Ta_signAt rfl rfl rfl (rcOK hk10 rfl) (by simp only [List.map_cons, List.map_nil, rf_cat, cat_i, cat_l, List.sum_cons, List.sum_nil]; decide) ?_
        refine r_iadd rfl ?_
        refine r_bipush 48 rfl cb_48 ?_
        refine r_isub rfl ?_
        obtain ⟨hk14, hE⟩ := ckE hE
        obtain ⟨h15, he16, hE⟩ := ltE hE
        refine r_putI rfl (fl_8_28 rfl) finF rfl hk14 he16 ?_
        refine r_aload_n (t := some a0) 0 rfl rfl rfl ?_
        refine r_dup rfl (rf_cat _) ?_
        refine r_getI rfl (fl_8_25 rfl) (Or.inl rfl) rfl (kwI he16 hk14) ?_
        refine r_iconst 1 rfl ci_1 ?_
        refine r_iadd rfl ?_
        obtain ⟨h17, he18, hE⟩ := ltE hE
        refine r_putI rfl (fl_8_25 rfl) finF rfl (kwI he16 hk14) he18 ?_
        refine r_iinc _ rfl rfl (congrArg _ ci_1) (by decide) ?_
        refine r_goto (tgt := 10) rfl (by decide) ?_
        first | exact r_sb (ih _ _ _ _ _ hE) ⟨rfl, rfl, trivial⟩ | exact r_sb (ih _ _ _ _ _ hE) (by simp only [su1, su2, dr1_rf, dr1_in, dr1_lo, dr2_rf, dr2_in, dr2_lo]; exact ⟨rfl, rfl, trivial⟩)
def Ta_readNumber (N : Nat) (a0 : Nat) (h : PH) : Option (Unit × PH) :=
  ck ((hK h a0).1 = 8) <|
  lt0 (wI h a0 4 0) fun h2 =>
  Ta_readNumber_b10 N N a0 (hI h2 a0 3) h2
set_option maxRecDepth 20000 in
theorem Ta_readNumber_ok (g : GT) (N : Nat) (a0 : Nat) (h : PH) (v : Unit) (h' : PH) (hE : Ta_readNumber N a0 h = some (v, h')) (D : Nat) (hD : 1 ≤ D) : Calls g D pTa_readNumber [va_rf (some a0)] h (oV v) h' := by
  refine Calls.of cok_Ta_readNumber ht_Ta_readNumber pl_Ta_readNumber (fun ad => by rw [lg_len, sL_cat]; simp only [List.map_cons, List.map_nil, rf_cat, cat_i, cat_l, List.sum_cons, List.sum_nil]; decide) ?_
  rw [show lv_args 0 [va_rf (some a0)] = [(0, va_rf (some a0))] from (by simp only [lv_args, rf_cat, cat_i, cat_l]; try rfl)]
  obtain ⟨D2, rfl⟩ : ∃ d, D = d + 1 := ⟨D - 1, by omega⟩
  unfold Ta_readNumber at hE
  refine r_aload_n (t := some a0) 0 rfl rfl rfl ?_
  refine r_iconst 0 rfl ci_0 ?_
  obtain ⟨hk1, hE⟩ := ckE hE
  obtain ⟨h2, he3, hE⟩ := ltE hE
  refine r_putI rfl (fl_8_25 rfl) finF rfl hk1 he3 ?_
  refine r_aload_n (t := some a0) 0 rfl rfl rfl ?_
  refine r_getI rfl (fl_8_22 rfl) (Or.inl rfl) rfl (kwI he3 hk1) ?_
  refine r_istore_n 1 rfl rfl (by decide) ?_
  first | exact r_sb (Ta_readNumber_b10_ok g N _ hD  N _ _ _ _ _ hE) ⟨rfl, rfl, trivial⟩ | exact r_sb (Ta_readNumber_b10_ok g N _ hD  N _ _ _ _ _ hE) (by simp only [su1, su2, dr1_rf, dr1_in, dr1_lo, dr2_rf, dr2_in, dr2_lo]; exact ⟨rfl, rfl, trivial⟩)
def Ta_step_b98 (N : Nat) (s0 : Nat) (s1 : Int32) (h : PH) : Option (Unit × PH) :=
  ck ((hK h s0).1 = 8) <|
  lt0 (wI h s0 2 s1) fun h2 =>
  some ((), h2)
set_option maxRecDepth 20000 in
theorem Ta_step_b98_ok (g : GT) (N : Nat) (D : Nat) (hD : 4 ≤ D) : ∀ (s0 : Nat) (s1 : Int32) (h : PH) (v : Unit) (h' : PH), Ta_step_b98 N s0 s1 h = some (v, h') → Run g pTa_step D 98 [] [.int s1, va_rf (some s0)] h (rV v) h' := by
  obtain ⟨D2, rfl⟩ : ∃ d, D = d + 1 := ⟨D - 1, by omega⟩
  intro s0 s1 h v h' hE
  unfold Ta_step_b98 at hE
  obtain ⟨hk1, hE⟩ := ckE hE
  obtain ⟨h2, he3, hE⟩ := ltE hE
  refine r_putI rfl (fl_8_19 rfl) finF rfl hk1 he3 ?_
  cases hE
  exact r_ret rfl (Or.inr (Or.inr (Or.inr ⟨rfl, rfl, rfl, rfl⟩)))
def Ta_step (N : Nat) (a0 : Nat) (h : PH) : Option (Unit × PH) :=
  ck ((hK h a0).1 = 8) <|
  if (hI h a0 8) = 0 then
    bd (Ta_skipBlanks N a0 h) fun v3 h4 =>
    ck ((hK h4 a0).1 = 8) <|
    bd (Ta_signAt N a0 (hI h4 a0 3) h4) fun v7 h8 =>
    ck ((hK h8 a0).1 = 8) <|
    lt0 (wI h8 a0 5 0) fun h11 =>
    lt0 (wI h11 a0 6 (-1)) fun h13 =>
    lt0 (wI h13 a0 4 1) fun h15 =>
    if v7 = (-1) then
      lt0 (wI h15 a0 2 3) fun h18 =>
      lt0 (wI h18 a0 4 0) fun h20 =>
      some ((), h20)
    else
      bd (Ta_isLetter N v7 h15) fun v22 h23 =>
      if (bI v22) = 0 then
        bd (Ta_isDigit N v7 h23) fun v26 h27 =>
        if (bI v26) = 0 then
          ck ((hK h27 3).1 = 28) <|
          bd (Js_indexOf N 3 ((Int32.toUInt32 v7 % 65536).toInt32) h27) fun v31 h32 =>
          if v31 < 0 then
            Ta_step_b98 N  a0 0 h32
          else
            Ta_step_b98 N  a0 v7 h32
        else
          ck ((hK h27 a0).1 = 8) <|
          bd (Ta_readNumber N a0 h27) fun v36 h37 =>
          some ((), h37)
      else
        ck ((hK h23 a0).1 = 8) <|
        bd (Ta_readWord N a0 h23) fun v40 h41 =>
        some ((), h41)
  else
    some ((), h)
set_option maxRecDepth 20000 in
theorem Ta_step_ok (g : GT) (N : Nat) (a0 : Nat) (h : PH) (v : Unit) (h' : PH) (hE : Ta_step N a0 h = some (v, h')) (D : Nat) (hD : 4 ≤ D) : Calls g D pTa_step [va_rf (some a0)] h (oV v) h' := by
  refine Calls.of cok_Ta_step ht_Ta_step pl_Ta_step (fun ad => by rw [lg_len, sL_cat]; simp only [List.map_cons, List.map_nil, rf_cat, cat_i, cat_l, List.sum_cons, List.sum_nil]; decide) ?_
  rw [show lv_args 0 [va_rf (some a0)] = [(0, va_rf (some a0))] from (by simp only [lv_args, rf_cat, cat_i, cat_l]; try rfl)]
  obtain ⟨D2, rfl⟩ : ∃ d, D = d + 1 := ⟨D - 1, by omega⟩
  unfold Ta_step at hE
  refine r_aload_n (t := some a0) 0 rfl rfl rfl ?_
  obtain ⟨hk1, hE⟩ := ckE hE
  refine r_getI rfl (fl_8_38 rfl) (Or.inl rfl) rfl hk1 ?_
  refine r_if_eq (tgt := 8) rfl (by decide) (fun hc2 => ?_) (fun hc2 => ?_)
  · have hE := ifP hc2 hE
    refine r_aload_n (t := some a0) 0 rfl rfl rfl ?_
    obtain ⟨v3, h4, hq5, hE⟩ := bdE hE
    refine r_callV0 (rest := []) (hc := (Ta_skipBlanks_ok g N _ _ _ _ hq5 D2 (by omega))) rfl pm_Ta_skipBlanks lw_8_65 im_Ta_skipBlanks sl_Ta_skipBlanks rfl rfl rfl (rcOK hk1 rfl) (by decide) ?_
    refine r_aload_n (t := some a0) 0 rfl rfl rfl ?_
    refine r_aload_n (t := some a0) 0 rfl rfl rfl ?_
    obtain ⟨hk6, hE⟩ := ckE hE
    refine r_getI rfl (fl_8_22 rfl) (Or.inl rfl) rfl hk6 ?_
    obtain ⟨v7, h8, hq9, hE⟩ := bdE hE
    refine r_callV1 (rest := []) (hc := (Ta_signAt_ok g N _ _ _ _ _ hq9 D2 (by omega))) rfl pm_Ta_signAt lw_8_68 im_Ta_signAt sl_Ta_signAt rfl rfl rfl (rcOK hk6 rfl) (by decide) ?_
    refine r_istore_n 1 rfl rfl (by decide) ?_
    refine r_aload_n (t := some a0) 0 rfl rfl rfl ?_
    refine r_iconst 0 rfl ci_0 ?_
    obtain ⟨hk10, hE⟩ := ckE hE
    obtain ⟨h11, he12, hE⟩ := ltE hE
    refine r_putI rfl (fl_8_28 rfl) finF rfl hk10 he12 ?_
    refine r_aload_n (t := some a0) 0 rfl rfl rfl ?_
    refine r_iconst (-1) rfl ci_m1 ?_
    obtain ⟨h13, he14, hE⟩ := ltE hE
    refine r_putI rfl (fl_8_31 rfl) finF rfl (kwI he12 hk10) he14 ?_
    refine r_aload_n (t := some a0) 0 rfl rfl rfl ?_
    refine r_iconst 1 rfl ci_1 ?_
    obtain ⟨h15, he16, hE⟩ := ltE hE
    refine r_putI rfl (fl_8_25 rfl) finF rfl (kwI he14 (kwI he12 hk10)) he16 ?_
    refine r_iload_n 1 rfl rfl rfl ?_
    refine r_iconst (-1) rfl ci_m1 ?_
    refine r_icmp_ne (tgt := 54) rfl (by decide) (fun hc17 => ?_) (fun hc17 => ?_)
    · have hE := ifP hc17 hE
      refine r_aload_n (t := some a0) 0 rfl rfl rfl ?_
      refine r_iconst 3 rfl ci_3 ?_
      obtain ⟨h18, he19, hE⟩ := ltE hE
      refine r_putI rfl (fl_8_19 rfl) finF rfl (kwI he16 (kwI he14 (kwI he12 hk10))) he19 ?_
      refine r_aload_n (t := some a0) 0 rfl rfl rfl ?_
      refine r_iconst 0 rfl ci_0 ?_
      obtain ⟨h20, he21, hE⟩ := ltE hE
      refine r_putI rfl (fl_8_25 rfl) finF rfl (kwI he19 (kwI he16 (kwI he14 (kwI he12 hk10)))) he21 ?_
      refine r_goto (tgt := 101) rfl (by decide) ?_
      cases hE
      exact r_ret rfl (Or.inr (Or.inr (Or.inr ⟨rfl, rfl, rfl, rfl⟩)))
    · have hE := ifN hc17 hE
      refine r_iload_n 1 rfl rfl rfl ?_
      obtain ⟨v22, h23, hq24, hE⟩ := bdE hE
      refine r_callS1 (rest := []) (hc := (Ta_isLetter_ok g N _ _ _ _ hq24 D2 (by omega))) rfl pm_Ta_isLetter lw_8_72 st_Ta_isLetter rfl rfl (by decide) ?_
      refine r_if_eq (tgt := 68) rfl (by decide) (fun hc25 => ?_) (fun hc25 => ?_)
      · have hE := ifP hc25 hE
        refine r_iload_n 1 rfl rfl rfl ?_
        obtain ⟨v26, h27, hq28, hE⟩ := bdE hE
        refine r_callS1 (rest := []) (hc := (Ta_isDigit_ok g N _ _ _ _ hq28 D2 (by omega))) rfl pm_Ta_isDigit lw_8_79 st_Ta_isDigit rfl rfl (by decide) ?_
        refine r_if_eq (tgt := 82) rfl (by decide) (fun hc29 => ?_) (fun hc29 => ?_)
        · have hE := ifP hc29 hE
          refine r_aload_n (t := some a0) 0 rfl rfl rfl ?_
          refine r_ldcS (k := 3) rfl rfl (by decide) ?_
          refine r_iload_n 1 rfl rfl rfl ?_
          refine r_i2c rfl ?_
          obtain ⟨hk30, hE⟩ := ckE hE
          obtain ⟨v31, h32, hq33, hE⟩ := bdE hE
          refine r_callV1 (rest := [va_rf (some a0)]) (hc := (Js_indexOf_ok g N _ _ _ _ _ hq33 D2 (by omega))) rfl pm_Js_indexOf lw_8_87 im_Js_indexOf sl_Js_indexOf rfl rfl rfl (rcOK hk30 rfl) (by simp only [List.map_cons, List.map_nil, rf_cat, cat_i, cat_l, List.sum_cons, List.sum_nil]; decide) ?_
          refine r_if_lt (tgt := 97) rfl (by decide) (fun hc34 => ?_) (fun hc34 => ?_)
          · have hE := ifP hc34 hE
            refine r_iconst 0 rfl ci_0 ?_
            exact r_sb (Ta_step_b98_ok g N _ hD   _ _ _ _ _ hE) trivial
          · have hE := ifN hc34 hE
            refine r_iload_n 1 rfl rfl rfl ?_
            refine r_goto (tgt := 98) rfl (by decide) ?_
            exact r_sb (Ta_step_b98_ok g N _ hD   _ _ _ _ _ hE) trivial
        · have hE := ifN hc29 hE
          refine r_aload_n (t := some a0) 0 rfl rfl rfl ?_
          obtain ⟨hk35, hE⟩ := ckE hE
          obtain ⟨v36, h37, hq38, hE⟩ := bdE hE
          refine r_callV0 (rest := []) (hc := (Ta_readNumber_ok g N _ _ _ _ hq38 D2 (by omega))) rfl pm_Ta_readNumber lw_8_82 im_Ta_readNumber sl_Ta_readNumber rfl rfl rfl (rcOK hk35 rfl) (by decide) ?_
          refine r_goto (tgt := 101) rfl (by decide) ?_
          cases hE
          exact r_ret rfl (Or.inr (Or.inr (Or.inr ⟨rfl, rfl, rfl, rfl⟩)))
      · have hE := ifN hc25 hE
        refine r_aload_n (t := some a0) 0 rfl rfl rfl ?_
        obtain ⟨hk39, hE⟩ := ckE hE
        obtain ⟨v40, h41, hq42, hE⟩ := bdE hE
        refine r_callV0 (rest := []) (hc := (Ta_readWord_ok g N _ _ _ _ hq42 D2 (by omega))) rfl pm_Ta_readWord lw_8_76 im_Ta_readWord sl_Ta_readWord rfl rfl rfl (rcOK hk39 rfl) (by decide) ?_
        refine r_goto (tgt := 101) rfl (by decide) ?_
        cases hE
        exact r_ret rfl (Or.inr (Or.inr (Or.inr ⟨rfl, rfl, rfl, rfl⟩)))
  · have hE := ifN hc2 hE
    cases hE
    exact r_ret rfl (Or.inr (Or.inr (Or.inr ⟨rfl, rfl, rfl, rfl⟩)))
def Ta_rewind (N : Nat) (a0 : Nat) (h : PH) : Option (Unit × PH) :=
  ck ((hK h a0).1 = 8) <|
  lt0 (wI h a0 8 0) fun h2 =>
  lt0 (wI h2 a0 3 0) fun h4 =>
  lt0 (wI h4 a0 4 0) fun h6 =>
  bd (Ta_step N a0 h6) fun v8 h9 =>
  some ((), h9)
set_option maxRecDepth 20000 in
theorem Ta_rewind_ok (g : GT) (N : Nat) (a0 : Nat) (h : PH) (v : Unit) (h' : PH) (hE : Ta_rewind N a0 h = some (v, h')) (D : Nat) (hD : 5 ≤ D) : Calls g D pTa_rewind [va_rf (some a0)] h (oV v) h' := by
  refine Calls.of cok_Ta_rewind ht_Ta_rewind pl_Ta_rewind (fun ad => by rw [lg_len, sL_cat]; simp only [List.map_cons, List.map_nil, rf_cat, cat_i, cat_l, List.sum_cons, List.sum_nil]; decide) ?_
  rw [show lv_args 0 [va_rf (some a0)] = [(0, va_rf (some a0))] from (by simp only [lv_args, rf_cat, cat_i, cat_l]; try rfl)]
  obtain ⟨D2, rfl⟩ : ∃ d, D = d + 1 := ⟨D - 1, by omega⟩
  unfold Ta_rewind at hE
  refine r_aload_n (t := some a0) 0 rfl rfl rfl ?_
  refine r_iconst 0 rfl ci_0 ?_
  obtain ⟨hk1, hE⟩ := ckE hE
  obtain ⟨h2, he3, hE⟩ := ltE hE
  refine r_putI rfl (fl_8_38 rfl) finF rfl hk1 he3 ?_
  refine r_aload_n (t := some a0) 0 rfl rfl rfl ?_
  refine r_iconst 0 rfl ci_0 ?_
  obtain ⟨h4, he5, hE⟩ := ltE hE
  refine r_putI rfl (fl_8_22 rfl) finF rfl (kwI he3 hk1) he5 ?_
  refine r_aload_n (t := some a0) 0 rfl rfl rfl ?_
  refine r_iconst 0 rfl ci_0 ?_
  obtain ⟨h6, he7, hE⟩ := ltE hE
  refine r_putI rfl (fl_8_25 rfl) finF rfl (kwI he5 (kwI he3 hk1)) he7 ?_
  refine r_aload_n (t := some a0) 0 rfl rfl rfl ?_
  obtain ⟨v8, h9, hq10, hE⟩ := bdE hE
  refine r_callV0 (rest := []) (hc := (Ta_step_ok g N _ _ _ _ hq10 D2 (by omega))) rfl pm_Ta_step lw_8_62 im_Ta_step sl_Ta_step rfl rfl rfl (rcOK (kwI he7 (kwI he5 (kwI he3 hk1))) rfl) (by decide) ?_
  cases hE
  exact r_ret rfl (Or.inr (Or.inr (Or.inr ⟨rfl, rfl, rfl, rfl⟩)))
def Ta_isWord (N : Nat) (a0 : Nat) (x1 : Int32) (h : PH) : Option (Bool × PH) :=
  ck ((hK h a0).1 = 8) <|
  if (hI h a0 2) = 2 then
    if (hI h a0 6) = x1 then
      some (true, h)
    else
      some (false, h)
  else
    some (false, h)
set_option maxRecDepth 20000 in
theorem Ta_isWord_ok (g : GT) (N : Nat) (a0 : Nat) (x1 : Int32) (h : PH) (v : Bool) (h' : PH) (hE : Ta_isWord N a0 x1 h = some (v, h')) (D : Nat) (hD : 0 ≤ D) : Calls g D pTa_isWord [va_rf (some a0), .int x1] h (oZ v) h' := by
  refine Calls.of cok_Ta_isWord ht_Ta_isWord pl_Ta_isWord (fun ad => by rw [lg_len, sL_cat]; simp only [List.map_cons, List.map_nil, rf_cat, cat_i, cat_l, List.sum_cons, List.sum_nil]; decide) ?_
  rw [show lv_args 0 [va_rf (some a0), .int x1] = [(0, va_rf (some a0)), (1, .int x1)] from (by simp only [lv_args, rf_cat, cat_i, cat_l]; try rfl)]
  unfold Ta_isWord at hE
  refine r_aload_n (t := some a0) 0 rfl rfl rfl ?_
  obtain ⟨hk1, hE⟩ := ckE hE
  refine r_getI rfl (fl_8_19 rfl) (Or.inl rfl) rfl hk1 ?_
  refine r_iconst 2 rfl ci_2 ?_
  refine r_icmp_ne (tgt := 20) rfl (by decide) (fun hc2 => ?_) (fun hc2 => ?_)
  · have hE := ifP hc2 hE
    refine r_aload_n (t := some a0) 0 rfl rfl rfl ?_
    refine r_getI rfl (fl_8_31 rfl) (Or.inl rfl) rfl hk1 ?_
    refine r_iload_n 1 rfl rfl rfl ?_
    refine r_icmp_ne (tgt := 20) rfl (by decide) (fun hc3 => ?_) (fun hc3 => ?_)
    · have hE := ifP hc3 hE
      refine r_iconst 1 rfl ci_1 ?_
      refine r_goto (tgt := 21) rfl (by decide) ?_
      cases hE
      exact r_ret rfl (Or.inl ⟨rfl, _, _, rfl, rfl, rfl, rfl⟩)
    · have hE := ifN hc3 hE
      refine r_iconst 0 rfl ci_0 ?_
      cases hE
      exact r_ret rfl (Or.inl ⟨rfl, _, _, rfl, rfl, rfl, rfl⟩)
  · have hE := ifN hc2 hE
    refine r_iconst 0 rfl ci_0 ?_
    cases hE
    exact r_ret rfl (Or.inl ⟨rfl, _, _, rfl, rfl, rfl, rfl⟩)
def Ta_blame (N : Nat) (a0 : Nat) (x1 : Int32) (h : PH) : Option (Unit × PH) :=
  ck ((hK h a0).1 = 8) <|
  if (hI h a0 8) = 0 then
    lt0 (wI h a0 8 (x1 + (16 * (hI h a0 3)))) fun h3 =>
    some ((), h3)
  else
    some ((), h)
set_option maxRecDepth 20000 in
theorem Ta_blame_ok (g : GT) (N : Nat) (a0 : Nat) (x1 : Int32) (h : PH) (v : Unit) (h' : PH) (hE : Ta_blame N a0 x1 h = some (v, h')) (D : Nat) (hD : 0 ≤ D) : Calls g D pTa_blame [va_rf (some a0), .int x1] h (oV v) h' := by
  refine Calls.of cok_Ta_blame ht_Ta_blame pl_Ta_blame (fun ad => by rw [lg_len, sL_cat]; simp only [List.map_cons, List.map_nil, rf_cat, cat_i, cat_l, List.sum_cons, List.sum_nil]; decide) ?_
  rw [show lv_args 0 [va_rf (some a0), .int x1] = [(0, va_rf (some a0)), (1, .int x1)] from (by simp only [lv_args, rf_cat, cat_i, cat_l]; try rfl)]
  unfold Ta_blame at hE
  refine r_aload_n (t := some a0) 0 rfl rfl rfl ?_
  obtain ⟨hk1, hE⟩ := ckE hE
  refine r_getI rfl (fl_8_38 rfl) (Or.inl rfl) rfl hk1 ?_
  refine r_if_ne (tgt := 20) rfl (by decide) (fun hc2 => ?_) (fun hc2 => ?_)
  · have hE := ifP hc2 hE
    refine r_aload_n (t := some a0) 0 rfl rfl rfl ?_
    refine r_iload_n 1 rfl rfl rfl ?_
    refine r_bipush 16 rfl cb_16 ?_
    refine r_aload_n (t := some a0) 0 rfl rfl rfl ?_
    refine r_getI rfl (fl_8_22 rfl) (Or.inl rfl) rfl hk1 ?_
    refine r_imul rfl ?_
    refine r_iadd rfl ?_
    obtain ⟨h3, he4, hE⟩ := ltE hE
    refine r_putI rfl (fl_8_38 rfl) finF rfl hk1 he4 ?_
    cases hE
    exact r_ret rfl (Or.inr (Or.inr (Or.inr ⟨rfl, rfl, rfl, rfl⟩)))
  · have hE := ifN hc2 hE
    cases hE
    exact r_ret rfl (Or.inr (Or.inr (Or.inr ⟨rfl, rfl, rfl, rfl⟩)))
def Ta_isNumber (N : Nat) (a0 : Nat) (x1 : Int32) (x2 : Int32) (h : PH) : Option (Bool × PH) :=
  ck ((hK h a0).1 = 8) <|
  if (hI h a0 2) = 1 then
    if (hI h a0 5) < x1 then
      some (false, h)
    else
      if x2 < (hI h a0 5) then
        some (false, h)
      else
        some (true, h)
  else
    some (false, h)
set_option maxRecDepth 20000 in
theorem Ta_isNumber_ok (g : GT) (N : Nat) (a0 : Nat) (x1 : Int32) (x2 : Int32) (h : PH) (v : Bool) (h' : PH) (hE : Ta_isNumber N a0 x1 x2 h = some (v, h')) (D : Nat) (hD : 0 ≤ D) : Calls g D pTa_isNumber [va_rf (some a0), .int x1, .int x2] h (oZ v) h' := by
  refine Calls.of cok_Ta_isNumber ht_Ta_isNumber pl_Ta_isNumber (fun ad => by rw [lg_len, sL_cat]; simp only [List.map_cons, List.map_nil, rf_cat, cat_i, cat_l, List.sum_cons, List.sum_nil]; decide) ?_
  rw [show lv_args 0 [va_rf (some a0), .int x1, .int x2] = [(0, va_rf (some a0)), (1, .int x1), (2, .int x2)] from (by simp only [lv_args, rf_cat, cat_i, cat_l]; try rfl)]
  unfold Ta_isNumber at hE
  refine r_aload_n (t := some a0) 0 rfl rfl rfl ?_
  obtain ⟨hk1, hE⟩ := ckE hE
  refine r_getI rfl (fl_8_19 rfl) (Or.inl rfl) rfl hk1 ?_
  refine r_iconst 1 rfl ci_1 ?_
  refine r_icmp_ne (tgt := 28) rfl (by decide) (fun hc2 => ?_) (fun hc2 => ?_)
  · have hE := ifP hc2 hE
    refine r_aload_n (t := some a0) 0 rfl rfl rfl ?_
    refine r_getI rfl (fl_8_28 rfl) (Or.inl rfl) rfl hk1 ?_
    refine r_iload_n 1 rfl rfl rfl ?_
    refine r_icmp_lt (tgt := 28) rfl (by decide) (fun hc3 => ?_) (fun hc3 => ?_)
    · have hE := ifP hc3 hE
      refine r_iconst 0 rfl ci_0 ?_
      cases hE
      exact r_ret rfl (Or.inl ⟨rfl, _, _, rfl, rfl, rfl, rfl⟩)
    · have hE := ifN hc3 hE
      refine r_aload_n (t := some a0) 0 rfl rfl rfl ?_
      refine r_getI rfl (fl_8_28 rfl) (Or.inl rfl) rfl hk1 ?_
      refine r_iload_n 2 rfl rfl rfl ?_
      refine r_icmp_gt (tgt := 28) rfl (by decide) (fun hc4 => ?_) (fun hc4 => ?_)
      · have hE := ifP hc4 hE
        refine r_iconst 0 rfl ci_0 ?_
        cases hE
        exact r_ret rfl (Or.inl ⟨rfl, _, _, rfl, rfl, rfl, rfl⟩)
      · have hE := ifN hc4 hE
        refine r_iconst 1 rfl ci_1 ?_
        refine r_goto (tgt := 29) rfl (by decide) ?_
        cases hE
        exact r_ret rfl (Or.inl ⟨rfl, _, _, rfl, rfl, rfl, rfl⟩)
  · have hE := ifN hc2 hE
    refine r_iconst 0 rfl ci_0 ?_
    cases hE
    exact r_ret rfl (Or.inl ⟨rfl, _, _, rfl, rfl, rfl, rfl⟩)
