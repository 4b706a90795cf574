theorem dr1_rf {i j : Nat} {t : Option Nat} {l : List (Nat × Value)} : dr1 i ((j, va_rf t) :: l) = (match Nat.beq j i with | true => dr1 i l | false => (j, va_rf t) :: dr1 i l) := by
  rw [dr1]
  cases Nat.beq j i with
  | true => rfl
  | false =>
    cases Nat.beq (j + 1) i <;> first | rfl | (cases t <;> rfl)
theorem dr2_rf {i j : Nat} {t : Option Nat} {l : List (Nat × Value)} : dr2 i ((j, va_rf t) :: l) = (match Nat.beq j i with | true => dr2 i l | false => (match Nat.beq j (i + 1) with | true => dr2 i l | false => (j, va_rf t) :: dr2 i l)) := by
  rw [dr2]
  cases Nat.beq j i with
  | true => rfl
  | false =>
    cases Nat.beq j (i + 1) with
    | true => rfl
    | false =>
      cases Nat.beq (j + 1) i <;> first | rfl | (cases t <;> rfl)
theorem dr1_in {i j : Nat} {t : Int32} {l : List (Nat × Value)} : dr1 i ((j, .int t) :: l) = (match Nat.beq j i with | true => dr1 i l | false => (j, .int t) :: dr1 i l) := by
  rw [dr1]
  cases Nat.beq j i with
  | true => rfl
  | false =>
    cases Nat.beq (j + 1) i <;> first | rfl | (cases t <;> rfl)
theorem dr2_in {i j : Nat} {t : Int32} {l : List (Nat × Value)} : dr2 i ((j, .int t) :: l) = (match Nat.beq j i with | true => dr2 i l | false => (match Nat.beq j (i + 1) with | true => dr2 i l | false => (j, .int t) :: dr2 i l)) := by
  rw [dr2]
  cases Nat.beq j i with
  | true => rfl
  | false =>
    cases Nat.beq j (i + 1) with
    | true => rfl
    | false =>
      cases Nat.beq (j + 1) i <;> first | rfl | (cases t <;> rfl)
theorem dr1_lo {i j : Nat} {t : Int64} {l : List (Nat × Value)} : dr1 i ((j, .long t) :: l) = (match Nat.beq j i with | true => dr1 i l | false => (match Nat.beq (j + 1) i with | false => (j, .long t) :: dr1 i l | true => dr1 i l)) := by
  rw [dr1]
  cases Nat.beq j i with
  | true => rfl
  | false =>
    cases Nat.beq (j + 1) i <;> first | rfl | (cases t <;> rfl)
theorem dr2_lo {i j : Nat} {t : Int64} {l : List (Nat × Value)} : dr2 i ((j, .long t) :: l) = (match Nat.beq j i with | true => dr2 i l | false => (match Nat.beq j (i + 1) with | true => dr2 i l | false => (match Nat.beq (j + 1) i with | false => (j, .long t) :: dr2 i l | true => dr2 i l))) := by
  rw [dr2]
  cases Nat.beq j i with
  | true => rfl
  | false =>
    cases Nat.beq j (i + 1) with
    | true => rfl
    | false =>
      cases Nat.beq (j + 1) i <;> first | rfl | (cases t <;> rfl)
theorem su1 (l : List (Nat × Value)) (i : Nat) (v : Value) : s1 l i v = (i, v) :: dr1 i l := rfl
theorem su2 (l : List (Nat × Value)) (i : Nat) (v : Value) : s2 l i v = (i, v) :: dr2 i l := rfl
def Le_put (N : Nat) (x0 : Option Nat) (x1 : Int32) (x2 : Int32) (h : PH) : Option (Unit × PH) :=
  if x1 < 0 then
    some ((), h)
  else
    (x0).bind fun a_2 =>
    ck ((hK h a_2).1 = 20) <|
    if (Int32.ofNat (hK h a_2).2) ≤ x1 then
      some ((), h)
    else
      ck (inb x1 (hK h a_2).2 = true) <|
      lt0 (wI h a_2 (ix x1) x2) fun h7 =>
      some ((), h7)
set_option maxRecDepth 20000 in
theorem Le_put_ok (g : GT) (N : Nat) (x0 : Option Nat) (x1 : Int32) (x2 : Int32) (h : PH) (v : Unit) (h' : PH) (hE : Le_put N x0 x1 x2 h = some (v, h')) (D : Nat) (hD : 0 ≤ D) : Calls g D pLe_put [va_rf x0, .int x1, .int x2] h (oV v) h' := by
  refine Calls.of cok_Le_put ht_Le_put pl_Le_put (fun ad => by rw [lg_len, sL_cat]; simp only [List.map_cons, List.map_nil, rf_cat, cat_i, cat_l, List.sum_cons, List.sum_nil]; decide) ?_
  rw [show lv_args 0 [va_rf x0, .int x1, .int x2] = [(0, va_rf x0), (1, .int x1), (2, .int x2)] from (by simp only [lv_args, rf_cat, cat_i, cat_l]; try rfl)]
  unfold Le_put at hE
  refine r_iload_n 1 rfl rfl rfl ?_
  refine r_if_lt (tgt := 14) rfl (by decide) (fun hc1 => ?_) (fun hc1 => ?_)
  · have hE := ifP hc1 hE
    cases hE
    exact r_ret rfl (Or.inr (Or.inr (Or.inr ⟨rfl, rfl, rfl, rfl⟩)))
  · have hE := ifN hc1 hE
    refine r_iload_n 1 rfl rfl rfl ?_
    refine r_aload_n (t := x0) 0 rfl rfl rfl ?_
    obtain ⟨a_2, ha3, hE⟩ := bnE hE
    obtain ⟨hk4, hE⟩ := ckE hE
    refine r_alen (kd := 20) rfl (by decide) (by decide) ha3 hk4 ?_
    refine r_icmp_ge (tgt := 14) rfl (by decide) (fun hc5 => ?_) (fun hc5 => ?_)
    · have hE := ifP hc5 hE
      cases hE
      exact r_ret rfl (Or.inr (Or.inr (Or.inr ⟨rfl, rfl, rfl, rfl⟩)))
    · have hE := ifN hc5 hE
      refine r_aload_n (t := x0) 0 rfl rfl rfl ?_
      refine r_iload_n 1 rfl rfl rfl ?_
      refine r_iload_n 2 rfl rfl rfl ?_
      obtain ⟨hi6, hE⟩ := ckE hE
      obtain ⟨h7, he8, hE⟩ := ltE hE
      refine r_iast rfl ha3 hk4 hi6 he8 ?_
      cases hE
      exact r_ret rfl (Or.inr (Or.inr (Or.inr ⟨rfl, rfl, rfl, rfl⟩)))
def Le_at (N : Nat) (x0 : Option Nat) (x1 : Int32) (h : PH) : Option (Int32 × PH) :=
  if x1 < 0 then
    some (0, h)
  else
    (x0).bind fun a_2 =>
    ck ((hK h a_2).1 = 20) <|
    if (Int32.ofNat (hK h a_2).2) ≤ x1 then
      some (0, h)
    else
      ck (inb x1 (hK h a_2).2 = true) <|
      some ((hI h a_2 (ix x1)), h)
set_option maxRecDepth 20000 in
theorem Le_at_ok (g : GT) (N : Nat) (x0 : Option Nat) (x1 : Int32) (h : PH) (v : Int32) (h' : PH) (hE : Le_at N x0 x1 h = some (v, h')) (D : Nat) (hD : 0 ≤ D) : Calls g D pLe_at [va_rf x0, .int x1] h (oI v) h' := by
  refine Calls.of cok_Le_at ht_Le_at pl_Le_at (fun ad => by rw [lg_len, sL_cat]; simp only [List.map_cons, List.map_nil, rf_cat, cat_i, cat_l, List.sum_cons, List.sum_nil]; decide) ?_
  rw [show lv_args 0 [va_rf x0, .int x1] = [(0, va_rf x0), (1, .int x1)] from (by simp only [lv_args, rf_cat, cat_i, cat_l]; try rfl)]
  unfold Le_at at hE
  refine r_iload_n 1 rfl rfl rfl ?_
  refine r_if_lt (tgt := 16) rfl (by decide) (fun hc1 => ?_) (fun hc1 => ?_)
  · have hE := ifP hc1 hE
    refine r_iconst 0 rfl ci_0 ?_
    cases hE
    exact r_ret rfl (Or.inl ⟨rfl, _, _, rfl, rfl, rfl, rfl⟩)
  · have hE := ifN hc1 hE
    refine r_iload_n 1 rfl rfl rfl ?_
    refine r_aload_n (t := x0) 0 rfl rfl rfl ?_
    obtain ⟨a_2, ha3, hE⟩ := bnE hE
    obtain ⟨hk4, hE⟩ := ckE hE
    refine r_alen (kd := 20) rfl (by decide) (by decide) ha3 hk4 ?_
    refine r_icmp_ge (tgt := 16) rfl (by decide) (fun hc5 => ?_) (fun hc5 => ?_)
    · have hE := ifP hc5 hE
      refine r_iconst 0 rfl ci_0 ?_
      cases hE
      exact r_ret rfl (Or.inl ⟨rfl, _, _, rfl, rfl, rfl, rfl⟩)
    · have hE := ifN hc5 hE
      refine r_aload_n (t := x0) 0 rfl rfl rfl ?_
      refine r_iload_n 1 rfl rfl rfl ?_
      obtain ⟨hi6, hE⟩ := ckE hE
      refine r_iald rfl ha3 hk4 hi6 ?_
      refine r_goto (tgt := 17) rfl (by decide) ?_
      cases hE
      exact r_ret rfl (Or.inl ⟨rfl, _, _, rfl, rfl, rfl, rfl⟩)
def Le_copyRow_b2 (N : Nat) : Nat → Option Nat → Option Nat → Int32 → Int32 → PH → Option (Unit × PH)
  | 0 => fun _ _ _ _ _ => none
  | n + 1 => fun x0 x1 x2 x3 h =>
    if x2 ≤ x3 then
      some ((), h)
    else
      (x0).bind fun a_2 =>
      ck ((hK h a_2).1 = 20) <|
      if (Int32.ofNat (hK h a_2).2) ≤ x3 then
        some ((), h)
      else
        (x1).bind fun a_6 =>
        ck ((hK h a_6).1 = 20) <|
        if (Int32.ofNat (hK h a_6).2) ≤ x3 then
          some ((), h)
        else
          ck (inb x3 (hK h a_6).2 = true) <|
          ck (inb x3 (hK h a_2).2 = true) <|
          lt0 (wI h a_2 (ix x3) (hI h a_6 (ix x3))) fun h12 =>
          (Le_copyRow_b2 N n) x0 x1 x2 (x3 + 1) h12
set_option maxRecDepth 20000 in
theorem Le_copyRow_b2_ok (g : GT) (N : Nat) (D : Nat) (hD : 0 ≤ D) : ∀ (n : Nat) (x0 : Option Nat) (x1 : Option Nat) (x2 : Int32) (x3 : Int32) (h : PH) (v : Unit) (h' : PH), Le_copyRow_b2 N n x0 x1 x2 x3 h = some (v, h') → Run g pLe_copyRow D 2 [(0, va_rf x0), (1, va_rf x1), (2, .int x2), (3, .int x3)] [] h (rV v) h' := by
  intro n
  induction n with
  | zero => exact fun _ _ _ _ _ _ _ hE => nomatch (show none = some _ from hE)
  | succ n ih =>
    intro x0 x1 x2 x3 h v h' hE
    unfold Le_copyRow_b2 at hE
    refine r_iload_n 3 rfl rfl rfl ?_
    refine r_iload_n 2 rfl rfl rfl ?_
    refine r_icmp_ge (tgt := 31) rfl (by decide) (fun hc1 => ?_) (fun hc1 => ?_)
    · have hE := ifP hc1 hE
      cases hE
      exact r_ret rfl (Or.inr (Or.inr (Or.inr ⟨rfl, rfl, rfl, rfl⟩)))
    · have hE := ifN hc1 hE
      refine r_iload_n 3 rfl rfl rfl ?_
      refine r_aload_n (t := x0) 0 rfl rfl rfl ?_
      obtain ⟨a_2, ha3, hE⟩ := bnE hE
      obtain ⟨hk4, hE⟩ := ckE hE
      refine r_alen (kd := 20) rfl (by decide) (by decide) ha3 hk4 ?_
      refine r_icmp_ge (tgt := 31) rfl (by decide) (fun hc5 => ?_) (fun hc5 => ?_)
      · have hE := ifP hc5 hE
        cases hE
        exact r_ret rfl (Or.inr (Or.inr (Or.inr ⟨rfl, rfl, rfl, rfl⟩)))
      · have hE := ifN hc5 hE
        refine r_iload_n 3 rfl rfl rfl ?_
        refine r_aload_n (t := x1) 1 rfl rfl rfl ?_
        obtain ⟨a_6, ha7, hE⟩ := bnE hE
        obtain ⟨hk8, hE⟩ := ckE hE
        refine r_alen (kd := 20) rfl (by decide) (by decide) ha7 hk8 ?_
        refine r_icmp_ge (tgt := 31) rfl (by decide) (fun hc9 => ?_) (fun hc9 => ?_)
        · have hE := ifP hc9 hE
          cases hE
          exact r_ret rfl (Or.inr (Or.inr (Or.inr ⟨rfl, rfl, rfl, rfl⟩)))
        · have hE := ifN hc9 hE
          refine r_aload_n (t := x0) 0 rfl rfl rfl ?_
          refine r_iload_n 3 rfl rfl rfl ?_
          refine r_aload_n (t := x1) 1 rfl rfl rfl ?_
          refine r_iload_n 3 rfl rfl rfl ?_
          obtain ⟨hi10, hE⟩ := ckE hE
          refine r_iald rfl ha7 hk8 hi10 ?_
          obtain ⟨hi11, hE⟩ := ckE hE
          obtain ⟨h12, he13, hE⟩ := ltE hE
          refine r_iast rfl ha3 hk4 hi11 he13 ?_
          refine r_iinc _ rfl rfl (congrArg _ ci_1) (by decide) ?_
          refine r_goto (tgt := 2) rfl (by decide) ?_
          first | exact r_sb (ih _ _ _ _ _ _ _ hE) ⟨rfl, rfl, rfl, rfl, trivial⟩ | exact r_sb (ih _ _ _ _ _ _ _ hE) (by simp only [su1, su2, dr1_rf, dr1_in, dr1_lo, dr2_rf, dr2_in, dr2_lo]; exact ⟨rfl, rfl, rfl, rfl, trivial⟩)
def Le_copyRow (N : Nat) (x0 : Option Nat) (x1 : Option Nat) (x2 : Int32) (h : PH) : Option (Unit × PH) :=
  Le_copyRow_b2 N N x0 x1 x2 0 h
set_option maxRecDepth 20000 in
theorem Le_copyRow_ok (g : GT) (N : Nat) (x0 : Option Nat) (x1 : Option Nat) (x2 : Int32) (h : PH) (v : Unit) (h' : PH) (hE : Le_copyRow N x0 x1 x2 h = some (v, h')) (D : Nat) (hD : 0 ≤ D) : Calls g D pLe_copyRow [va_rf x0, va_rf x1, .int x2] h (oV v) h' := by
  refine Calls.of cok_Le_copyRow ht_Le_copyRow pl_Le_copyRow (fun ad => by rw [lg_len, sL_cat]; simp only [List.map_cons, List.map_nil, rf_cat, cat_i, cat_l, List.sum_cons, List.sum_nil]; decide) ?_
  rw [show lv_args 0 [va_rf x0, va_rf x1, .int x2] = [(0, va_rf x0), (1, va_rf x1), (2, .int x2)] from (by simp only [lv_args, rf_cat, cat_i, cat_l]; try rfl)]
  unfold Le_copyRow at hE
  refine r_iconst 0 rfl ci_0 ?_
  refine r_istore_n 3 rfl rfl (by decide) ?_
  first | exact r_sb (Le_copyRow_b2_ok g N _ hD  N _ _ _ _ _ _ _ hE) ⟨rfl, rfl, rfl, rfl, trivial⟩ | exact r_sb (Le_copyRow_b2_ok g N _ hD  N _ _ _ _ _ _ _ hE) (by simp only [su1, su2, dr1_rf, dr1_in, dr1_lo, dr2_rf, dr2_in, dr2_lo]; exact ⟨rfl, rfl, rfl, rfl, trivial⟩)
def Le_nightAt_b16 (N : Nat)  (h : PH) : Option (Option Nat × PH) :=
  some (none, h)
set_option maxRecDepth 20000 in
theorem Le_nightAt_b16_ok (g : GT) (N : Nat) (D : Nat) (hD : 0 ≤ D) : ∀  (h : PH) (v : Option Nat) (h' : PH), Le_nightAt_b16 N  h = some (v, h') → Run g pLe_nightAt D 16 [] [] h (rR v) h' := by
  intro  h v h' hE
  unfold Le_nightAt_b16 at hE
  refine r_null rfl ?_
  cases hE
  exact r_ret rfl (Or.inr (Or.inr (Or.inl ⟨rfl, _, _, rfl, rfl, rfl, Or.inl ⟨_, rfl⟩⟩)))
def Le_nightAt (N : Nat) (x0 : Option Nat) (x1 : Int32) (h : PH) : Option (Option Nat × PH) :=
  if x1 < 0 then
    Le_nightAt_b16 N   h
  else
    (x0).bind fun a_2 =>
    ck ((hK h a_2).1 = 24) <|
    if (Int32.ofNat (hK h a_2).2) ≤ x1 then
      Le_nightAt_b16 N   h
    else
      ck (inb x1 (hK h a_2).2 = true) <|
      some ((hR h a_2 (ix x1)), h)
set_option maxRecDepth 20000 in
theorem Le_nightAt_ok (g : GT) (N : Nat) (x0 : Option Nat) (x1 : Int32) (h : PH) (v : Option Nat) (h' : PH) (hE : Le_nightAt N x0 x1 h = some (v, h')) (D : Nat) (hD : 0 ≤ D) : Calls g D pLe_nightAt [va_rf x0, .int x1] h (oR v) h' := by
  refine Calls.of cok_Le_nightAt ht_Le_nightAt pl_Le_nightAt (fun ad => by rw [lg_len, sL_cat]; simp only [List.map_cons, List.map_nil, rf_cat, cat_i, cat_l, List.sum_cons, List.sum_nil]; decide) ?_
  rw [show lv_args 0 [va_rf x0, .int x1] = [(0, va_rf x0), (1, .int x1)] from (by simp only [lv_args, rf_cat, cat_i, cat_l]; try rfl)]
  unfold Le_nightAt at hE
  refine r_iload_n 1 rfl rfl rfl ?_
  refine r_if_lt (tgt := 16) rfl (by decide) (fun hc1 => ?_) (fun hc1 => ?_)
  · have hE := ifP hc1 hE
    exact r_sb (Le_nightAt_b16_ok g N _ hD    _ _ _ hE) trivial
  · have hE := ifN hc1 hE
    refine r_iload_n 1 rfl rfl rfl ?_
    refine r_aload_n (t := x0) 0 rfl rfl rfl ?_
    obtain ⟨a_2, ha3, hE⟩ := bnE hE
    obtain ⟨hk4, hE⟩ := ckE hE
    refine r_alen (kd := 24) rfl (by decide) (by decide) ha3 hk4 ?_
    refine r_icmp_ge (tgt := 16) rfl (by decide) (fun hc5 => ?_) (fun hc5 => ?_)
    · have hE := ifP hc5 hE
      exact r_sb (Le_nightAt_b16_ok g N _ hD    _ _ _ hE) trivial
    · have hE := ifN hc5 hE
      refine r_aload_n (t := x0) 0 rfl rfl rfl ?_
      refine r_iload_n 1 rfl rfl rfl ?_
      obtain ⟨hi6, hE⟩ := ckE hE
      refine r_aald rfl (Or.inl rfl) ha3 hk4 hi6 ?_
      refine r_goto (tgt := 17) rfl (by decide) ?_
      cases hE
      exact r_ret rfl (Or.inr (Or.inr (Or.inl ⟨rfl, _, _, rfl, rfl, rfl, Or.inl ⟨_, rfl⟩⟩)))
def Le_roomFor_b28 (N : Nat) (s0 : Int32) (x0 : Option Nat) (h : PH) : Option (Option Nat × PH) :=
  if s0 < 0 then
    some (x0, h)
  else
    ck (nb s0 = true) <|
    lt0 (nw h (20, ix s0) (ix s0)) fun h3 =>
    some ((some (hN h)), h3)
set_option maxRecDepth 20000 in
theorem Le_roomFor_b28_ok (g : GT) (N : Nat) (D : Nat) (hD : 1 ≤ D) : ∀ (s0 : Int32) (x0 : Option Nat) (h : PH) (v : Option Nat) (h' : PH), Le_roomFor_b28 N s0 x0 h = some (v, h') → Run g pLe_roomFor D 28 [(0, va_rf x0)] [.int s0] h (rR v) h' := by
  obtain ⟨D2, rfl⟩ : ∃ d, D = d + 1 := ⟨D - 1, by omega⟩
  intro s0 x0 h v h' hE
  unfold Le_roomFor_b28 at hE
  refine r_istore_n 2 rfl rfl (by decide) ?_
  refine r_iload_n 2 rfl rfl rfl ?_
  refine r_if_lt (tgt := 39) rfl (by decide) (fun hc1 => ?_) (fun hc1 => ?_)
  · have hE := ifP hc1 hE
    refine r_aload_n (t := x0) 0 rfl rfl rfl ?_
    cases hE
    exact r_ret rfl (Or.inr (Or.inr (Or.inl ⟨rfl, _, _, rfl, rfl, rfl, Or.inr ⟨_, rfl⟩⟩)))
  · have hE := ifN hc1 hE
    refine r_iload_n 2 rfl rfl rfl ?_
    obtain ⟨hc2, hE⟩ := ckE hE
    obtain ⟨h3, he4, hE⟩ := ltE hE
    refine r_newa (kd := 20) rfl (by decide) (by decide) rfl aw_20 hc2 he4 ?_
    refine r_goto (tgt := 40) rfl (by decide) ?_
    cases hE
    exact r_ret rfl (Or.inr (Or.inr (Or.inl ⟨rfl, _, _, rfl, rfl, rfl, Or.inr ⟨_, rfl⟩⟩)))
def Le_roomFor (N : Nat) (x0 : Option Nat) (x1 : Int32) (h : PH) : Option (Option Nat × PH) :=
  (x0).bind fun a_1 =>
  ck ((hK h a_1).1 = 20) <|
  if (Int32.ofNat (hK h a_1).2) < x1 then
    if 37752 < x1 then
      Le_roomFor_b28 N  (mxI x1 75504) x0 h
    else
      Le_roomFor_b28 N  (x1 * 2) x0 h
  else
    some (x0, h)
set_option maxRecDepth 20000 in
theorem Le_roomFor_ok (g : GT) (N : Nat) (x0 : Option Nat) (x1 : Int32) (h : PH) (v : Option Nat) (h' : PH) (hE : Le_roomFor N x0 x1 h = some (v, h')) (D : Nat) (hD : 1 ≤ D) : Calls g D pLe_roomFor [va_rf x0, .int x1] h (oR v) h' := by
  refine Calls.of cok_Le_roomFor ht_Le_roomFor pl_Le_roomFor (fun ad => by rw [lg_len, sL_cat]; simp only [List.map_cons, List.map_nil, rf_cat, cat_i, cat_l, List.sum_cons, List.sum_nil]; decide) ?_
  rw [show lv_args 0 [va_rf x0, .int x1] = [(0, va_rf x0), (1, .int x1)] from (by simp only [lv_args, rf_cat, cat_i, cat_l]; try rfl)]
  obtain ⟨D2, rfl⟩ : ∃ d, D = d + 1 := ⟨D - 1, by omega⟩
  unfold Le_roomFor at hE
  refine r_iload_n 1 rfl rfl rfl ?_
  refine r_aload_n (t := x0) 0 rfl rfl rfl ?_
  obtain ⟨a_1, ha2, hE⟩ := bnE hE
  obtain ⟨hk3, hE⟩ := ckE hE
  refine r_alen (kd := 20) rfl (by decide) (by decide) ha2 hk3 ?_
  refine r_icmp_gt (tgt := 8) rfl (by decide) (fun hc4 => ?_) (fun hc4 => ?_)
  · have hE := ifP hc4 hE
    refine r_iload_n 1 rfl rfl rfl ?_
    refine r_ldcw rfl kc_10_348 ?_
    refine r_icmp_gt (tgt := 21) rfl (by decide) (fun hc5 => ?_) (fun hc5 => ?_)
    · have hE := ifP hc5 hE
      refine r_iload_n 1 rfl rfl rfl ?_
      refine r_ldcw rfl kc_10_349 ?_
      refine r_mmax rfl (gt4 178 rfl rfl) mm_max1 mm_2 mm_max3 (by decide) ?_
      first | exact r_sb (Le_roomFor_b28_ok g N _ hD   _ _ _ _ _ hE) ⟨rfl, trivial⟩ | exact r_sb (Le_roomFor_b28_ok g N _ hD   _ _ _ _ _ hE) (by simp only [su1, su2, dr1_rf, dr1_in, dr1_lo, dr2_rf, dr2_in, dr2_lo]; exact ⟨rfl, trivial⟩)
    · have hE := ifN hc5 hE
      refine r_iload_n 1 rfl rfl rfl ?_
      refine r_iconst 2 rfl ci_2 ?_
      refine r_imul rfl ?_
      refine r_goto (tgt := 28) rfl (by decide) ?_
      first | exact r_sb (Le_roomFor_b28_ok g N _ hD   _ _ _ _ _ hE) ⟨rfl, trivial⟩ | exact r_sb (Le_roomFor_b28_ok g N _ hD   _ _ _ _ _ hE) (by simp only [su1, su2, dr1_rf, dr1_in, dr1_lo, dr2_rf, dr2_in, dr2_lo]; exact ⟨rfl, trivial⟩)
  · have hE := ifN hc4 hE
    refine r_aload_n (t := x0) 0 rfl rfl rfl ?_
    cases hE
    exact r_ret rfl (Or.inr (Or.inr (Or.inl ⟨rfl, _, _, rfl, rfl, rfl, Or.inr ⟨_, rfl⟩⟩)))
def Ho_begin_b127 (N : Nat) (self_101 : Nat → Int32 → PH → Option (Unit × PH)) (s0 : Option Nat) (s1 : Int32) (s2 : Int32) (a0 : Nat) (x1 : Int32) (h : PH) : Option (Unit × PH) :=
  (s0).bind fun a_1 =>
  ck ((hK h a_1).1 = 20) <|
  ck (inb s1 (hK h a_1).2 = true) <|
  lt0 (wI h a_1 (ix s1) s2) fun h5 =>
  self_101 a0 (x1 + 1) h5
set_option maxRecDepth 20000 in
theorem Ho_begin_b127_ok (g : GT) (N : Nat) (D : Nat) (hD : 1 ≤ D) (self_101 : Nat → Int32 → PH → Option (Unit × PH)) (hself_101 : ∀ (a0 : Nat) (x1 : Int32) (h : PH) (v : Unit) (h' : PH), self_101 a0 x1 h = some (v, h') → Run g pHo_begin D 101 [(0, va_rf (some a0)), (1, .int x1)] [] h (rV v) h') : ∀ (s0 : Option Nat) (s1 : Int32) (s2 : Int32) (a0 : Nat) (x1 : Int32) (h : PH) (v : Unit) (h' : PH), Ho_begin_b127 N self_101 s0 s1 s2 a0 x1 h = some (v, h') → Run g pHo_begin D 127 [(0, va_rf (some a0)), (1, .int x1)] [.int s2, .int s1, va_rf s0] h (rV v) h' := by
  obtain ⟨D2, rfl⟩ : ∃ d, D = d + 1 := ⟨D - 1, by omega⟩
  intro s0 s1 s2 a0 x1 h v h' hE
  unfold Ho_begin_b127 at hE
  obtain ⟨a_1, ha2, hE⟩ := bnE hE
  obtain ⟨hk3, hE⟩ := ckE hE
  obtain ⟨hi4, hE⟩ := ckE hE
  obtain ⟨h5, he6, hE⟩ := ltE hE
  refine r_iast rfl ha2 hk3 hi4 he6 ?_
  refine r_iinc _ rfl rfl (congrArg _ ci_1) (by decide) ?_
  refine r_goto (tgt := 101) rfl (by decide) ?_
  first | exact r_sb (hself_101 _ _ _ _ _ hE) ⟨rfl, rfl, trivial⟩ | exact r_sb (hself_101 _ _ _ _ _ hE) (by simp only [su1, su2, dr1_rf, dr1_in, dr1_lo, dr2_rf, dr2_in, dr2_lo]; exact ⟨rfl, rfl, trivial⟩)
def Ho_begin_b101 (N : Nat) : Nat → Nat → Int32 → PH → Option (Unit × PH)
  | 0 => fun _ _ _ => none
  | n + 1 => fun a0 x1 h =>
    ck ((hK h a0).1 = 0) <|
    ((hR h a0 15)).bind fun a_2 =>
    ck ((hK h a_2).1 = 20) <|
    if (Int32.ofNat (hK h a_2).2) ≤ x1 then
      some ((), h)
    else
      ck (¬ (4 : Int32) = 0) <|
      if (x1 - x1 / 4 * 4) = 0 then
        Ho_begin_b127 N (Ho_begin_b101 N n)  (hR h a0 15) x1 10 a0 x1 h
      else
        Ho_begin_b127 N (Ho_begin_b101 N n)  (hR h a0 15) x1 0 a0 x1 h
set_option maxRecDepth 20000 in
theorem Ho_begin_b101_ok (g : GT) (N : Nat) (D : Nat) (hD : 1 ≤ D) : ∀ (n : Nat) (a0 : Nat) (x1 : Int32) (h : PH) (v : Unit) (h' : PH), Ho_begin_b101 N n a0 x1 h = some (v, h') → Run g pHo_begin D 101 [(0, va_rf (some a0)), (1, .int x1)] [] h (rV v) h' := by
  obtain ⟨D2, rfl⟩ : ∃ d, D = d + 1 := ⟨D - 1, by omega⟩
  intro n
  induction n with
  | zero => exact fun _ _ _ _ _ hE => nomatch (show none = some _ from hE)
  | succ n ih =>
    intro a0 x1 h v h' hE
    unfold Ho_begin_b101 at hE
    refine r_iload_n 1 rfl rfl rfl ?_
    refine r_aload_n (t := some a0) 0 rfl rfl rfl ?_
    obtain ⟨hk1, hE⟩ := ckE hE
    refine r_getR rfl (fl_0_58 rfl) (Or.inr ⟨_, rfl⟩) rfl hk1 ?_
    obtain ⟨a_2, ha3, hE⟩ := bnE hE
    obtain ⟨hk4, hE⟩ := ckE hE
    refine r_alen (kd := 20) rfl (by decide) (by decide) ha3 hk4 ?_
    refine r_icmp_ge (tgt := 134) rfl (by decide) (fun hc5 => ?_) (fun hc5 => ?_)
    · have hE := ifP hc5 hE
      cases hE
      exact r_ret rfl (Or.inr (Or.inr (Or.inr ⟨rfl, rfl, rfl, rfl⟩)))
    · have hE := ifN hc5 hE
      refine r_aload_n (t := some a0) 0 rfl rfl rfl ?_
      refine r_getR rfl (fl_0_58 rfl) (Or.inr ⟨_, rfl⟩) rfl hk1 ?_
      refine r_iload_n 1 rfl rfl rfl ?_
      refine r_iload_n 1 rfl rfl rfl ?_
      refine r_iconst 4 rfl ci_4 ?_
      obtain ⟨hc6, hE⟩ := ckE hE
      refine r_irem rfl hc6 ?_
      refine r_if_ne (tgt := 126) rfl (by decide) (fun hc7 => ?_) (fun hc7 => ?_)
      · have hE := ifP hc7 hE
        refine r_bipush 10 rfl cb_10 ?_
        refine r_goto (tgt := 127) rfl (by decide) ?_
        first | exact r_sb (Ho_begin_b127_ok g N _ hD _ ih  _ _ _ _ _ _ _ _ hE) ⟨rfl, rfl, trivial⟩ | exact r_sb (Ho_begin_b127_ok g N _ hD _ ih  _ _ _ _ _ _ _ _ hE) (by simp only [su1, su2, dr1_rf, dr1_in, dr1_lo, dr2_rf, dr2_in, dr2_lo]; exact ⟨rfl, rfl, trivial⟩)
      · have hE := ifN hc7 hE
        refine r_iconst 0 rfl ci_0 ?_
        first | exact r_sb (Ho_begin_b127_ok g N _ hD _ ih  _ _ _ _ _ _ _ _ hE) ⟨rfl, rfl, trivial⟩ | exact r_sb (Ho_begin_b127_ok g N _ hD _ ih  _ _ _ _ _ _ _ _ hE) (by simp only [su1, su2, dr1_rf, dr1_in, dr1_lo, dr2_rf, dr2_in, dr2_lo]; exact ⟨rfl, rfl, trivial⟩)
def Ho_begin (N : Nat) (a0 : Nat) (h : PH) : Option (Unit × PH) :=
  ck ((hK h a0).1 = 0) <|
  lt0 (wI h a0 0 1) fun h2 =>
  lt0 (wI h2 a0 1 0) fun h4 =>
  lt0 (wI h4 a0 2 0) fun h6 =>
  lt0 (wI h6 a0 3 0) fun h8 =>
  lt0 (wI h8 a0 4 0) fun h10 =>
  lt0 (wI h10 a0 5 0) fun h12 =>
  lt0 (wI h12 a0 6 0) fun h14 =>
  lt0 (wI h14 a0 7 24) fun h16 =>
  lt0 (wI h16 a0 8 0) fun h18 =>
  lt0 (wI h18 a0 9 0) fun h20 =>
  lt0 (wI h20 a0 10 0) fun h22 =>
  lt0 (wI h22 a0 11 0) fun h24 =>
  lt0 (wI h24 a0 12 0) fun h26 =>
  lt0 (wI h26 a0 13 0) fun h28 =>
  bd (Le_put N (hR h28 a0 14) 1 3 h28) fun v30 h31 =>
  ck ((hK h31 a0).1 = 0) <|
  bd (Le_put N (hR h31 a0 14) 2 5 h31) fun v34 h35 =>
  ck ((hK h35 a0).1 = 0) <|
  bd (Le_put N (hR h35 a0 14) 3 6 h35) fun v38 h39 =>
  Ho_begin_b101 N N a0 0 h39
set_option maxRecDepth 20000 in
theorem Ho_begin_ok (g : GT) (N : Nat) (a0 : Nat) (h : PH) (v : Unit) (h' : PH) (hE : Ho_begin N a0 h = some (v, h')) (D : Nat) (hD : 1 ≤ D) : Calls g D pHo_begin [va_rf (some a0)] h (oV v) h' := by
  refine Calls.of cok_Ho_begin ht_Ho_begin pl_Ho_begin (fun ad => by rw [lg_len, sL_cat]; simp only [List.map_cons, List.map_nil, rf_cat, cat_i, cat_l, List.sum_cons, List.sum_nil]; decide) ?_
  rw [show lv_args 0 [va_rf (some a0)] = [(0, va_rf (some a0))] from (by simp only [lv_args, rf_cat, cat_i, cat_l]; try rfl)]
  obtain ⟨D2, rfl⟩ : ∃ d, D = d + 1 := ⟨D - 1, by omega⟩
  unfold Ho_begin at hE
  refine r_aload_n (t := some a0) 0 rfl rfl rfl ?_
  refine r_iconst 1 rfl ci_1 ?_
  obtain ⟨hk1, hE⟩ := ckE hE
  obtain ⟨h2, he3, hE⟩ := ltE hE
  refine r_putI rfl (fl_0_9 rfl) finF rfl hk1 he3 ?_
  refine r_aload_n (t := some a0) 0 rfl rfl rfl ?_
  refine r_iconst 0 rfl ci_0 ?_
  obtain ⟨h4, he5, hE⟩ := ltE hE
  refine r_putI rfl (fl_0_15 rfl) finF rfl (kwI he3 hk1) he5 ?_
  refine r_aload_n (t := some a0) 0 rfl rfl rfl ?_
  refine r_iconst 0 rfl ci_0 ?_
  obtain ⟨h6, he7, hE⟩ := ltE hE
  refine r_putI rfl (fl_0_18 rfl) finF rfl (kwI he5 (kwI he3 hk1)) he7 ?_
  refine r_aload_n (t := some a0) 0 rfl rfl rfl ?_
  refine r_iconst 0 rfl ci_0 ?_
  obtain ⟨h8, he9, hE⟩ := ltE hE
  refine r_putI rfl (fl_0_21 rfl) finF rfl (kwI he7 (kwI he5 (kwI he3 hk1))) he9 ?_
  refine r_aload_n (t := some a0) 0 rfl rfl rfl ?_
  refine r_iconst 0 rfl ci_0 ?_
  obtain ⟨h10, he11, hE⟩ := ltE hE
  refine r_putI rfl (fl_0_24 rfl) finF rfl (kwI he9 (kwI he7 (kwI he5 (kwI he3 hk1)))) he11 ?_
  refine r_aload_n (t := some a0) 0 rfl rfl rfl ?_
  refine r_iconst 0 rfl ci_0 ?_
  obtain ⟨h12, he13, hE⟩ := ltE hE
  refine r_putI rfl (fl_0_27 rfl) finF rfl (kwI he11 (kwI he9 (kwI he7 (kwI he5 (kwI he3 hk1))))) he13 ?_
  refine r_aload_n (t := some a0) 0 rfl rfl rfl ?_
  refine r_iconst 0 rfl ci_0 ?_
  obtain ⟨h14, he15, hE⟩ := ltE hE
  refine r_putI rfl (fl_0_30 rfl) finF rfl (kwI he13 (kwI he11 (kwI he9 (kwI he7 (kwI he5 (kwI he3 hk1)))))) he15 ?_
  refine r_aload_n (t := some a0) 0 rfl rfl rfl ?_
  refine r_bipush 24 rfl cb_24 ?_
  obtain ⟨h16, he17, hE⟩ := ltE hE
  refine r_putI rfl (fl_0_33 rfl) finF rfl (kwI he15 (kwI he13 (kwI he11 (kwI he9 (kwI he7 (kwI he5 (kwI he3 hk1))))))) he17 ?_
  refine r_aload_n (t := some a0) 0 rfl rfl rfl ?_
  refine r_iconst 0 rfl ci_0 ?_
  obtain ⟨h18, he19, hE⟩ := ltE hE
  refine r_putI rfl (fl_0_36 rfl) finF rfl (kwI he17 (kwI he15 (kwI he13 (kwI he11 (kwI he9 (kwI he7 (kwI he5 (kwI he3 hk1)))))))) he19 ?_
  refine r_aload_n (t := some a0) 0 rfl rfl rfl ?_
  refine r_iconst 0 rfl ci_0 ?_
  obtain ⟨h20, he21, hE⟩ := ltE hE
  refine r_putI rfl (fl_0_39 rfl) finF rfl (kwI he19 (kwI he17 (kwI he15 (kwI he13 (kwI he11 (kwI he9 (kwI he7 (kwI he5 (kwI he3 hk1))))))))) he21 ?_
  refine r_aload_n (t := some a0) 0 rfl rfl rfl ?_
  refine r_iconst 0 rfl ci_0 ?_
  obtain ⟨h22, he23, hE⟩ := ltE hE
  refine r_putI rfl (fl_0_42 rfl) finF rfl (kwI he21 (kwI he19 (kwI he17 (kwI he15 (kwI he13 (kwI he11 (kwI he9 (kwI he7 (kwI he5 (kwI he3 hk1)))))))))) he23 ?_
  refine r_aload_n (t := some a0) 0 rfl rfl rfl ?_
  refine r_iconst 0 rfl ci_0 ?_
  obtain ⟨h24, he25, hE⟩ := ltE hE
  refine r_putI rfl (fl_0_45 rfl) finF rfl (kwI he23 (kwI he21 (kwI he19 (kwI he17 (kwI he15 (kwI he13 (kwI he11 (kwI he9 (kwI he7 (kwI he5 (kwI he3 hk1))))))))))) he25 ?_
  refine r_aload_n (t := some a0) 0 rfl rfl rfl ?_
  refine r_iconst 0 rfl ci_0 ?_
  obtain ⟨h26, he27, hE⟩ := ltE hE
  refine r_putI rfl (fl_0_48 rfl) finF rfl (kwI he25 (kwI he23 (kwI he21 (kwI he19 (kwI he17 (kwI he15 (kwI he13 (kwI he11 (kwI he9 (kwI he7 (kwI he5 (kwI he3 hk1)))))))))))) he27 ?_
  refine r_aload_n (t := some a0) 0 rfl rfl rfl ?_
  refine r_iconst 0 rfl ci_0 ?_
  obtain ⟨h28, he29, hE⟩ := ltE hE
  refine r_putI rfl (fl_0_51 rfl) finF rfl (kwI he27 (kwI he25 (kwI he23 (kwI he21 (kwI he19 (kwI he17 (kwI he15 (kwI he13 (kwI he11 (kwI he9 (kwI he7 (kwI he5 (kwI he3 hk1))))))))))))) he29 ?_
  refine r_aload_n (t := some a0) 0 rfl rfl rfl ?_
  refine r_getR rfl (fl_0_54 rfl) (Or.inr ⟨_, rfl⟩) rfl (kwI he29 (kwI he27 (kwI he25 (kwI he23 (kwI he21 (kwI he19 (kwI he17 (kwI he15 (kwI he13 (kwI he11 (kwI he9 (kwI he7 (kwI he5 (kwI he3 hk1)))))))))))))) ?_
  refine r_iconst 1 rfl ci_1 ?_
  refine r_iconst 3 rfl ci_3 ?_
  obtain ⟨v30, h31, hq32, hE⟩ := bdE hE
  refine r_callSN0 (rest := []) (hc := (Le_put_ok g N _ _ _ _ _ _ hq32 D2 (by omega))) rfl pm_Le_put lw_0_76 st_Le_put rfl rfl (by decide) ?_
  refine r_aload_n (t := some a0) 0 rfl rfl rfl ?_
  obtain ⟨hk33, hE⟩ := ckE hE
  refine r_getR rfl (fl_0_54 rfl) (Or.inr ⟨_, rfl⟩) rfl hk33 ?_
  refine r_iconst 2 rfl ci_2 ?_
  refine r_iconst 5 rfl ci_5 ?_
  obtain ⟨v34, h35, hq36, hE⟩ := bdE hE
  refine r_callSN0 (rest := []) (hc := (Le_put_ok g N _ _ _ _ _ _ hq36 D2 (by omega))) rfl pm_Le_put lw_0_76 st_Le_put rfl rfl (by decide) ?_
  refine r_aload_n (t := some a0) 0 rfl rfl rfl ?_
  obtain ⟨hk37, hE⟩ := ckE hE
  refine r_getR rfl (fl_0_54 rfl) (Or.inr ⟨_, rfl⟩) rfl hk37 ?_
  refine r_iconst 3 rfl ci_3 ?_
  refine r_bipush 6 rfl cb_6 ?_
  obtain ⟨v38, h39, hq40, hE⟩ := bdE hE
  refine r_callSN0 (rest := []) (hc := (Le_put_ok g N _ _ _ _ _ _ hq40 D2 (by omega))) rfl pm_Le_put lw_0_76 st_Le_put rfl rfl (by decide) ?_
  refine r_iconst 0 rfl ci_0 ?_
  refine r_istore_n 1 rfl rfl (by decide) ?_
  first | exact r_sb (Ho_begin_b101_ok g N _ hD  N _ _ _ _ _ hE) ⟨rfl, rfl, trivial⟩ | exact r_sb (Ho_begin_b101_ok g N _ hD  N _ _ _ _ _ hE) (by simp only [su1, su2, dr1_rf, dr1_in, dr1_lo, dr2_rf, dr2_in, dr2_lo]; exact ⟨rfl, rfl, trivial⟩)
def Ho_settle_b2 (N : Nat) : Nat → Nat → Int32 → PH → Option (Unit × PH)
  | 0 => fun _ _ _ => none
  | n + 1 => fun a0 x1 h =>
    if 24 ≤ x1 then
      some ((), h)
    else
      ck ((hK h a0).1 = 0) <|
      bd (Le_at N (hR h a0 15) (x1 * 4) h) fun v3 h4 =>
      ck ((hK h4 a0).1 = 0) <|
      bd (Le_at N (hR h4 a0 15) ((x1 * 4) + 1) h4) fun v7 h8 =>
      bd (Le_put N (hR h a0 16) (x1 * 4) (v3 + v7) h8) fun v10 h11 =>
      ck ((hK h11 a0).1 = 0) <|
      bd (Le_at N (hR h11 a0 15) ((x1 * 4) + 2) h11) fun v14 h15 =>
      bd (Le_put N (hR h11 a0 16) ((x1 * 4) + 1) v14 h15) fun v17 h18 =>
      ck ((hK h18 a0).1 = 0) <|
      bd (Le_at N (hR h18 a0 15) ((x1 * 4) + 3) h18) fun v21 h22 =>
      bd (Le_put N (hR h18 a0 16) ((x1 * 4) + 2) v21 h22) fun v24 h25 =>
      ck ((hK h25 a0).1 = 0) <|
      bd (Le_put N (hR h25 a0 16) ((x1 * 4) + 3) 0 h25) fun v28 h29 =>
      (Ho_settle_b2 N n) a0 (x1 + 1) h29
set_option maxRecDepth 20000 in
theorem Ho_settle_b2_ok (g : GT) (N : Nat) (D : Nat) (hD : 1 ≤ D) : ∀ (n : Nat) (a0 : Nat) (x1 : Int32) (h : PH) (v : Unit) (h' : PH), Ho_settle_b2 N n a0 x1 h = some (v, h') → Run g pHo_settle D 2 [(0, va_rf (some a0)), (1, .int x1)] [] h (rV v) h' := by
  obtain ⟨D2, rfl⟩ : ∃ d, D = d + 1 := ⟨D - 1, by omega⟩
  intro n
  induction n with
  | zero => exact fun _ _ _ _ _ hE => nomatch (show none = some _ from hE)
  | succ n ih =>
    intro a0 x1 h v h' hE
    unfold Ho_settle_b2 at hE
    refine r_iload_n 1 rfl rfl rfl ?_
    refine r_bipush 24 rfl cb_24 ?_
    refine r_icmp_ge (tgt := 96) rfl (by decide) (fun hc1 => ?_) (fun hc1 => ?_)
    · have hE := ifP hc1 hE
      cases hE
      exact r_ret rfl (Or.inr (Or.inr (Or.inr ⟨rfl, rfl, rfl, rfl⟩)))
    · have hE := ifN hc1 hE
      refine r_iload_n 1 rfl rfl rfl ?_
      refine r_iconst 4 rfl ci_4 ?_
      refine r_imul rfl ?_
      refine r_istore_n 2 rfl rfl (by decide) ?_
      refine r_aload_n (t := some a0) 0 rfl rfl rfl ?_
      obtain ⟨hk2, hE⟩ := ckE hE
      refine r_getR rfl (fl_0_61 rfl) (Or.inr ⟨_, rfl⟩) rfl hk2 ?_
      refine r_iload_n 2 rfl rfl rfl ?_
      refine r_aload_n (t := some a0) 0 rfl rfl rfl ?_
      refine r_getR rfl (fl_0_58 rfl) (Or.inr ⟨_, rfl⟩) rfl hk2 ?_
      refine r_iload_n 2 rfl rfl rfl ?_
      obtain ⟨v3, h4, hq5, hE⟩ := bdE hE
      refine r_callSN1 (rest := [.int (x1 * 4), va_rf (hR h a0 16)]) (hc := (Le_at_ok g N _ _ _ _ _ hq5 D2 (by omega))) rfl pm_Le_at lw_0_80 st_Le_at rfl rfl (by simp only [List.map_cons, List.map_nil, rf_cat, cat_i, cat_l, List.sum_cons, List.sum_nil]; decide) ?_
      refine r_aload_n (t := some a0) 0 rfl rfl rfl ?_
      obtain ⟨hk6, hE⟩ := ckE hE
      refine r_getR rfl (fl_0_58 rfl) (Or.inr ⟨_, rfl⟩) rfl hk6 ?_
      refine r_iload_n 2 rfl rfl rfl ?_
      refine r_iconst 1 rfl ci_1 ?_
      refine r_iadd rfl ?_
      obtain ⟨v7, h8, hq9, hE⟩ := bdE hE
      refine r_callSN1 (rest := [.int v3, .int (x1 * 4), va_rf (hR h a0 16)]) (hc := (Le_at_ok g N _ _ _ _ _ hq9 D2 (by omega))) rfl pm_Le_at lw_0_80 st_Le_at rfl rfl (by simp only [List.map_cons, List.map_nil, rf_cat, cat_i, cat_l, List.sum_cons, List.sum_nil]; decide) ?_
      refine r_iadd rfl ?_
      obtain ⟨v10, h11, hq12, hE⟩ := bdE hE
      refine r_callSN0 (rest := []) (hc := (Le_put_ok g N _ _ _ _ _ _ hq12 D2 (by omega))) rfl pm_Le_put lw_0_76 st_Le_put rfl rfl (by decide) ?_
      refine r_aload_n (t := some a0) 0 rfl rfl rfl ?_
      obtain ⟨hk13, hE⟩ := ckE hE
      refine r_getR rfl (fl_0_61 rfl) (Or.inr ⟨_, rfl⟩) rfl hk13 ?_
      refine r_iload_n 2 rfl rfl rfl ?_
      refine r_iconst 1 rfl ci_1 ?_
      refine r_iadd rfl ?_
      refine r_aload_n (t := some a0) 0 rfl rfl rfl ?_
      refine r_getR rfl (fl_0_58 rfl) (Or.inr ⟨_, rfl⟩) rfl hk13 ?_
      refine r_iload_n 2 rfl rfl rfl ?_
      refine r_iconst 2 rfl ci_2 ?_
      refine r_iadd rfl ?_
      obtain ⟨v14, h15, hq16, hE⟩ := bdE hE
      refine r_callSN1 (rest := [.int ((x1 * 4) + 1), va_rf (hR h11 a0 16)]) (hc := (Le_at_ok g N _ _ _ _ _ hq16 D2 (by omega))) rfl pm_Le_at lw_0_80 st_Le_at rfl rfl (by simp only [List.map_cons, List.map_nil, rf_cat, cat_i, cat_l, List.sum_cons, List.sum_nil]; decide) ?_
      obtain ⟨v17, h18, hq19, hE⟩ := bdE hE
      refine r_callSN0 (rest := []) (hc := (Le_put_ok g N _ _ _ _ _ _ hq19 D2 (by omega))) rfl pm_Le_put lw_0_76 st_Le_put rfl rfl (by decide) ?_
      refine r_aload_n (t := some a0) 0 rfl rfl rfl ?_
      obtain ⟨hk20, hE⟩ := ckE hE
      refine r_getR rfl (fl_0_61 rfl) (Or.inr ⟨_, rfl⟩) rfl hk20 ?_
      refine r_iload_n 2 rfl rfl rfl ?_
      refine r_iconst 2 rfl ci_2 ?_
      refine r_iadd rfl ?_
      refine r_aload_n (t := some a0) 0 rfl rfl rfl ?_
      refine r_getR rfl (fl_0_58 rfl) (Or.inr ⟨_, rfl⟩) rfl hk20 ?_
      refine r_iload_n 2 rfl rfl rfl ?_
      refine r_iconst 3 rfl ci_3 ?_
      refine r_iadd rfl ?_
      obtain ⟨v21, h22, hq23, hE⟩ := bdE hE
      refine r_callSN1 (rest := [.int ((x1 * 4) + 2), va_rf (hR h18 a0 16)]) (hc := (Le_at_ok g N _ _ _ _ _ hq23 D2 (by omega))) rfl pm_Le_at lw_0_80 st_Le_at rfl rfl (by simp only [List.map_cons, List.map_nil, rf_cat, cat_i, cat_l, List.sum_cons, List.sum_nil]; decide) ?_
      obtain ⟨v24, h25, hq26, hE⟩ := bdE hE
      refine r_callSN0 (rest := []) (hc := (Le_put_ok g N _ _ _ _ _ _ hq26 D2 (by omega))) rfl pm_Le_put lw_0_76 st_Le_put rfl rfl (by decide) ?_
      refine r_aload_n (t := some a0) 0 rfl rfl rfl ?_
      obtain ⟨hk27, hE⟩ := ckE hE
      refine r_getR rfl (fl_0_61 rfl) (Or.inr ⟨_, rfl⟩) rfl hk27 ?_
      refine r_iload_n 2 rfl rfl rfl ?_
      refine r_iconst 3 rfl ci_3 ?_
      refine r_iadd rfl ?_
      refine r_iconst 0 rfl ci_0 ?_
      obtain ⟨v28, h29, hq30, hE⟩ := bdE hE
      refine r_callSN0 (rest := []) (hc := (Le_put_ok g N _ _ _ _ _ _ hq30 D2 (by omega))) rfl pm_Le_put lw_0_76 st_Le_put rfl rfl (by decide) ?_
      refine r_iinc _ rfl rfl (congrArg _ ci_1) (by decide) ?_
      refine r_goto (tgt := 2) rfl (by decide) ?_
      first | exact r_sb (ih _ _ _ _ _ hE) ⟨rfl, rfl, trivial⟩ | exact r_sb (ih _ _ _ _ _ hE) (by simp only [su1, su2, dr1_rf, dr1_in, dr1_lo, dr2_rf, dr2_in, dr2_lo]; exact ⟨rfl, rfl, trivial⟩)
def Ho_settle (N : Nat) (a0 : Nat) (h : PH) : Option (Unit × PH) :=
  Ho_settle_b2 N N a0 0 h
set_option maxRecDepth 20000 in
theorem Ho_settle_ok (g : GT) (N : Nat) (a0 : Nat) (h : PH) (v : Unit) (h' : PH) (hE : Ho_settle N a0 h = some (v, h')) (D : Nat) (hD : 1 ≤ D) : Calls g D pHo_settle [va_rf (some a0)] h (oV v) h' := by
  refine Calls.of cok_Ho_settle ht_Ho_settle pl_Ho_settle (fun ad => by rw [lg_len, sL_cat]; simp only [List.map_cons, List.map_nil, rf_cat, cat_i, cat_l, List.sum_cons, List.sum_nil]; decide) ?_
  rw [show lv_args 0 [va_rf (some a0)] = [(0, va_rf (some a0))] from (by simp only [lv_args, rf_cat, cat_i, cat_l]; try rfl)]
  obtain ⟨D2, rfl⟩ : ∃ d, D = d + 1 := ⟨D - 1, by omega⟩
  unfold Ho_settle at hE
  refine r_iconst 0 rfl ci_0 ?_
  refine r_istore_n 1 rfl rfl (by decide) ?_
  first | exact r_sb (Ho_settle_b2_ok g N _ hD  N _ _ _ _ _ hE) ⟨rfl, rfl, trivial⟩ | exact r_sb (Ho_settle_b2_ok g N _ hD  N _ _ _ _ _ hE) (by simp only [su1, su2, dr1_rf, dr1_in, dr1_lo, dr2_rf, dr2_in, dr2_lo]; exact ⟨rfl, rfl, trivial⟩)
def Ho_init (N : Nat) (a0 : Nat) (h : PH) : Option (Unit × PH) :=
  ck ((hK h a0).1 = 0) <|
  lt0 (wI h a0 0 1) fun h2 =>
  lt0 (wI h2 a0 1 0) fun h4 =>
  lt0 (wI h4 a0 2 0) fun h6 =>
  lt0 (wI h6 a0 3 0) fun h8 =>
  lt0 (wI h8 a0 4 0) fun h10 =>
  lt0 (wI h10 a0 5 0) fun h12 =>
  lt0 (wI h12 a0 6 0) fun h14 =>
  lt0 (wI h14 a0 7 24) fun h16 =>
  lt0 (wI h16 a0 8 0) fun h18 =>
  lt0 (wI h18 a0 9 0) fun h20 =>
  lt0 (wI h20 a0 10 0) fun h22 =>
  lt0 (wI h22 a0 11 0) fun h24 =>
  lt0 (wI h24 a0 12 0) fun h26 =>
  lt0 (wI h26 a0 13 0) fun h28 =>
  ck (nb 4 = true) <|
  lt0 (nw h28 (20, ix 4) (ix 4)) fun h31 =>
  ck ((hK h31 a0).1 = 0) <|
  lt0 (wR h31 a0 14 (some (hN h28))) fun h34 =>
  ck (nb 96 = true) <|
  lt0 (nw h34 (20, ix 96) (ix 96)) fun h37 =>
  ck ((hK h37 a0).1 = 0) <|
  lt0 (wR h37 a0 15 (some (hN h34))) fun h40 =>
  ck (nb 96 = true) <|
  lt0 (nw h40 (20, ix 96) (ix 96)) fun h43 =>
  ck ((hK h43 a0).1 = 0) <|
  lt0 (wR h43 a0 16 (some (hN h40))) fun h46 =>
  ck (nb 1000 = true) <|
  lt0 (nw h46 (20, ix 1000) (ix 1000)) fun h49 =>
  ck ((hK h49 a0).1 = 0) <|
  lt0 (wR h49 a0 17 (some (hN h46))) fun h52 =>
  ck (nb 4 = true) <|
  lt0 (nw h52 (20, ix 4) (ix 4)) fun h55 =>
  ck ((hK h55 a0).1 = 0) <|
  lt0 (wR h55 a0 18 (some (hN h52))) fun h58 =>
  bd (Ho_begin N a0 h58) fun v60 h61 =>
  ck ((hK h61 a0).1 = 0) <|
  bd (Ho_settle N a0 h61) fun v64 h65 =>
  some ((), h65)
set_option maxRecDepth 20000 in
theorem Ho_init_ok (g : GT) (N : Nat) (a0 : Nat) (h : PH) (v : Unit) (h' : PH) (hE : Ho_init N a0 h = some (v, h')) (D : Nat) (hD : 2 ≤ D) : Calls g D pHo_init [va_rf (some a0)] h (oV v) h' := by
  refine Calls.of cok_Ho_init ht_Ho_init pl_Ho_init (fun ad => by rw [lg_len, sL_cat]; simp only [List.map_cons, List.map_nil, rf_cat, cat_i, cat_l, List.sum_cons, List.sum_nil]; decide) ?_
  rw [show lv_args 0 [va_rf (some a0)] = [(0, va_rf (some a0))] from (by simp only [lv_args, rf_cat, cat_i, cat_l]; try rfl)]
  obtain ⟨D2, rfl⟩ : ∃ d, D = d + 1 := ⟨D - 1, by omega⟩
  unfold Ho_init at hE
  refine r_aload_n (t := some a0) 0 rfl rfl rfl ?_
  refine r_objinit rfl rfl (gt1 134 rfl rfl) oi_1 oi_2 (by decide) ?_
  refine r_aload_n (t := some a0) 0 rfl rfl rfl ?_
  refine r_iconst 1 rfl ci_1 ?_
  obtain ⟨hk1, hE⟩ := ckE hE
  obtain ⟨h2, he3, hE⟩ := ltE hE
  refine r_putI rfl (fl_0_9 rfl) finF rfl hk1 he3 ?_
  refine r_aload_n (t := some a0) 0 rfl rfl rfl ?_
  refine r_iconst 0 rfl ci_0 ?_
  obtain ⟨h4, he5, hE⟩ := ltE hE
  refine r_putI rfl (fl_0_15 rfl) finF rfl (kwI he3 hk1) he5 ?_
  refine r_aload_n (t := some a0) 0 rfl rfl rfl ?_
  refine r_iconst 0 rfl ci_0 ?_
  obtain ⟨h6, he7, hE⟩ := ltE hE
  refine r_putI rfl (fl_0_18 rfl) finF rfl (kwI he5 (kwI he3 hk1)) he7 ?_
  refine r_aload_n (t := some a0) 0 rfl rfl rfl ?_
  refine r_iconst 0 rfl ci_0 ?_
  obtain ⟨h8, he9, hE⟩ := ltE hE
  refine r_putI rfl (fl_0_21 rfl) finF rfl (kwI he7 (kwI he5 (kwI he3 hk1))) he9 ?_
  refine r_aload_n (t := some a0) 0 rfl rfl rfl ?_
  refine r_iconst 0 rfl ci_0 ?_
  obtain ⟨h10, he11, hE⟩ := ltE hE
  refine r_putI rfl (fl_0_24 rfl) finF rfl (kwI he9 (kwI he7 (kwI he5 (kwI he3 hk1)))) he11 ?_
  refine r_aload_n (t := some a0) 0 rfl rfl rfl ?_
  refine r_iconst 0 rfl ci_0 ?_
  obtain ⟨h12, he13, hE⟩ := ltE hE
  refine r_putI rfl (fl_0_27 rfl) finF rfl (kwI he11 (kwI he9 (kwI he7 (kwI he5 (kwI he3 hk1))))) he13 ?_
  refine r_aload_n (t := some a0) 0 rfl rfl rfl ?_
  refine r_iconst 0 rfl ci_0 ?_
  obtain ⟨h14, he15, hE⟩ := ltE hE
  refine r_putI rfl (fl_0_30 rfl) finF rfl (kwI he13 (kwI he11 (kwI he9 (kwI he7 (kwI he5 (kwI he3 hk1)))))) he15 ?_
  refine r_aload_n (t := some a0) 0 rfl rfl rfl ?_
  refine r_bipush 24 rfl cb_24 ?_
  obtain ⟨h16, he17, hE⟩ := ltE hE
  refine r_putI rfl (fl_0_33 rfl) finF rfl (kwI he15 (kwI he13 (kwI he11 (kwI he9 (kwI he7 (kwI he5 (kwI he3 hk1))))))) he17 ?_
  refine r_aload_n (t := some a0) 0 rfl rfl rfl ?_
  refine r_iconst 0 rfl ci_0 ?_
  obtain ⟨h18, he19, hE⟩ := ltE hE
  refine r_putI rfl (fl_0_36 rfl) finF rfl (kwI he17 (kwI he15 (kwI he13 (kwI he11 (kwI he9 (kwI he7 (kwI he5 (kwI he3 hk1)))))))) he19 ?_
  refine r_aload_n (t := some a0) 0 rfl rfl rfl ?_
  refine r_iconst 0 rfl ci_0 ?_
  obtain ⟨h20, he21, hE⟩ := ltE hE
  refine r_putI rfl (fl_0_39 rfl) finF rfl (kwI he19 (kwI he17 (kwI he15 (kwI he13 (kwI he11 (kwI he9 (kwI he7 (kwI he5 (kwI he3 hk1))))))))) he21 ?_
  refine r_aload_n (t := some a0) 0 rfl rfl rfl ?_
  refine r_iconst 0 rfl ci_0 ?_
  obtain ⟨h22, he23, hE⟩ := ltE hE
  refine r_putI rfl (fl_0_42 rfl) finF rfl (kwI he21 (kwI he19 (kwI he17 (kwI he15 (kwI he13 (kwI he11 (kwI he9 (kwI he7 (kwI he5 (kwI he3 hk1)))))))))) he23 ?_
  refine r_aload_n (t := some a0) 0 rfl rfl rfl ?_
  refine r_iconst 0 rfl ci_0 ?_
  obtain ⟨h24, he25, hE⟩ := ltE hE
  refine r_putI rfl (fl_0_45 rfl) finF rfl (kwI he23 (kwI he21 (kwI he19 (kwI he17 (kwI he15 (kwI he13 (kwI he11 (kwI he9 (kwI he7 (kwI he5 (kwI he3 hk1))))))))))) he25 ?_
  refine r_aload_n (t := some a0) 0 rfl rfl rfl ?_
  refine r_iconst 0 rfl ci_0 ?_
  obtain ⟨h26, he27, hE⟩ := ltE hE
  refine r_putI rfl (fl_0_48 rfl) finF rfl (kwI he25 (kwI he23 (kwI he21 (kwI he19 (kwI he17 (kwI he15 (kwI he13 (kwI he11 (kwI he9 (kwI he7 (kwI he5 (kwI he3 hk1)))))))))))) he27 ?_
  refine r_aload_n (t := some a0) 0 rfl rfl rfl ?_
  refine r_iconst 0 rfl ci_0 ?_
  obtain ⟨h28, he29, hE⟩ := ltE hE
  refine r_putI rfl (fl_0_51 rfl) finF rfl (kwI he27 (kwI he25 (kwI he23 (kwI he21 (kwI he19 (kwI he17 (kwI he15 (kwI he13 (kwI he11 (kwI he9 (kwI he7 (kwI he5 (kwI he3 hk1))))))))))))) he29 ?_
  refine r_aload_n (t := some a0) 0 rfl rfl rfl ?_
  refine r_iconst 4 rfl ci_4 ?_
  obtain ⟨hc30, hE⟩ := ckE hE
  obtain ⟨h31, he32, hE⟩ := ltE hE
  refine r_newa (kd := 20) rfl (by decide) (by decide) rfl aw_20 hc30 he32 ?_
  obtain ⟨hk33, hE⟩ := ckE hE
  obtain ⟨h34, he35, hE⟩ := ltE hE
  refine r_putR rfl (fl_0_54 rfl) (Or.inr ⟨_, rfl⟩) (fun _ => ⟨rfl, _, _, rfl⟩) rfl hk33 he35 ?_
  refine r_aload_n (t := some a0) 0 rfl rfl rfl ?_
  refine r_bipush 96 rfl cb_96 ?_
  obtain ⟨hc36, hE⟩ := ckE hE
  obtain ⟨h37, he38, hE⟩ := ltE hE
  refine r_newa (kd := 20) rfl (by decide) (by decide) rfl aw_20 hc36 he38 ?_
  obtain ⟨hk39, hE⟩ := ckE hE
  obtain ⟨h40, he41, hE⟩ := ltE hE
  refine r_putR rfl (fl_0_58 rfl) (Or.inr ⟨_, rfl⟩) (fun _ => ⟨rfl, _, _, rfl⟩) rfl hk39 he41 ?_
  refine r_aload_n (t := some a0) 0 rfl rfl rfl ?_
  refine r_bipush 96 rfl cb_96 ?_
  obtain ⟨hc42, hE⟩ := ckE hE
  obtain ⟨h43, he44, hE⟩ := ltE hE
  refine r_newa (kd := 20) rfl (by decide) (by decide) rfl aw_20 hc42 he44 ?_
  obtain ⟨hk45, hE⟩ := ckE hE
  obtain ⟨h46, he47, hE⟩ := ltE hE
  refine r_putR rfl (fl_0_61 rfl) (Or.inr ⟨_, rfl⟩) (fun _ => ⟨rfl, _, _, rfl⟩) rfl hk45 he47 ?_
  refine r_aload_n (t := some a0) 0 rfl rfl rfl ?_
  refine r_sipush 1000 rfl cs_1000 ?_
  obtain ⟨hc48, hE⟩ := ckE hE
  obtain ⟨h49, he50, hE⟩ := ltE hE
  refine r_newa (kd := 20) rfl (by decide) (by decide) rfl aw_20 hc48 he50 ?_
  obtain ⟨hk51, hE⟩ := ckE hE
  obtain ⟨h52, he53, hE⟩ := ltE hE
  refine r_putR rfl (fl_0_64 rfl) (Or.inr ⟨_, rfl⟩) (fun _ => ⟨rfl, _, _, rfl⟩) rfl hk51 he53 ?_
  refine r_aload_n (t := some a0) 0 rfl rfl rfl ?_
  refine r_iconst 4 rfl ci_4 ?_
  obtain ⟨hc54, hE⟩ := ckE hE
  obtain ⟨h55, he56, hE⟩ := ltE hE
  refine r_newa (kd := 20) rfl (by decide) (by decide) rfl aw_20 hc54 he56 ?_
  obtain ⟨hk57, hE⟩ := ckE hE
  obtain ⟨h58, he59, hE⟩ := ltE hE
  refine r_putR rfl (fl_0_67 rfl) (Or.inr ⟨_, rfl⟩) (fun _ => ⟨rfl, _, _, rfl⟩) rfl hk57 he59 ?_
  refine r_aload_n (t := some a0) 0 rfl rfl rfl ?_
  obtain ⟨v60, h61, hq62, hE⟩ := bdE hE
  refine r_callV0 (rest := []) (hc := (Ho_begin_ok g N _ _ _ _ hq62 D2 (by omega))) rfl pm_Ho_begin lw_0_70 im_Ho_begin sl_Ho_begin rfl rfl rfl (rcOK (kwR he59 hk57) rfl) (by decide) ?_
  refine r_aload_n (t := some a0) 0 rfl rfl rfl ?_
  obtain ⟨hk63, hE⟩ := ckE hE
  obtain ⟨v64, h65, hq66, hE⟩ := bdE hE
  refine r_callV0 (rest := []) (hc := (Ho_settle_ok g N _ _ _ _ hq66 D2 (by omega))) rfl pm_Ho_settle lw_0_73 im_Ho_settle sl_Ho_settle rfl rfl rfl (rcOK hk63 rfl) (by decide) ?_
  cases hE
  exact r_ret rfl (Or.inr (Or.inr (Or.inr ⟨rfl, rfl, rfl, rfl⟩)))
def Sc_init (N : Nat) (a0 : Nat) (h : PH) : Option (Unit × PH) :=
  ck (nb 60 = true) <|
  lt0 (nw h (20, ix 60) (ix 60)) fun h2 =>
  ck ((hK h2 a0).1 = 6) <|
  lt0 (wR h2 a0 0 (some (hN h))) fun h5 =>
  ck (nb 60 = true) <|
  lt0 (nw h5 (20, ix 60) (ix 60)) fun h8 =>
  ck ((hK h8 a0).1 = 6) <|
  lt0 (wR h8 a0 1 (some (hN h5))) fun h11 =>
  lt0 (wI h11 a0 2 0) fun h13 =>
  some ((), h13)
set_option maxRecDepth 20000 in
theorem Sc_init_ok (g : GT) (N : Nat) (a0 : Nat) (h : PH) (v : Unit) (h' : PH) (hE : Sc_init N a0 h = some (v, h')) (D : Nat) (hD : 1 ≤ D) : Calls g D pSc_init [va_rf (some a0)] h (oV v) h' := by
  refine Calls.of cok_Sc_init ht_Sc_init pl_Sc_init (fun ad => by rw [lg_len, sL_cat]; simp only [List.map_cons, List.map_nil, rf_cat, cat_i, cat_l, List.sum_cons, List.sum_nil]; decide) ?_
  rw [show lv_args 0 [va_rf (some a0)] = [(0, va_rf (some a0))] from (by simp only [lv_args, rf_cat, cat_i, cat_l]; try rfl)]
  obtain ⟨D2, rfl⟩ : ∃ d, D = d + 1 := ⟨D - 1, by omega⟩
  unfold Sc_init at hE
  refine r_aload_n (t := some a0) 0 rfl rfl rfl ?_
  refine r_objinit rfl rfl (gt2 9 rfl rfl) oi_1 oi_2 (by decide) ?_
  refine r_aload_n (t := some a0) 0 rfl rfl rfl ?_
  refine r_bipush 60 rfl cb_60 ?_
  obtain ⟨hc1, hE⟩ := ckE hE
  obtain ⟨h2, he3, hE⟩ := ltE hE
  refine r_newa (kd := 20) rfl (by decide) (by decide) rfl aw_20 hc1 he3 ?_
  obtain ⟨hk4, hE⟩ := ckE hE
  obtain ⟨h5, he6, hE⟩ := ltE hE
  refine r_putR rfl (fl_6_9 rfl) (Or.inr ⟨_, rfl⟩) (fun _ => ⟨rfl, _, _, rfl⟩) rfl hk4 he6 ?_
  refine r_aload_n (t := some a0) 0 rfl rfl rfl ?_
  refine r_bipush 60 rfl cb_60 ?_
  obtain ⟨hc7, hE⟩ := ckE hE
  obtain ⟨h8, he9, hE⟩ := ltE hE
  refine r_newa (kd := 20) rfl (by decide) (by decide) rfl aw_20 hc7 he9 ?_
  obtain ⟨hk10, hE⟩ := ckE hE
  obtain ⟨h11, he12, hE⟩ := ltE hE
  refine r_putR rfl (fl_6_15 rfl) (Or.inr ⟨_, rfl⟩) (fun _ => ⟨rfl, _, _, rfl⟩) rfl hk10 he12 ?_
  refine r_aload_n (t := some a0) 0 rfl rfl rfl ?_
  refine r_iconst 0 rfl ci_0 ?_
  obtain ⟨h13, he14, hE⟩ := ltE hE
  refine r_putI rfl (fl_6_18 rfl) finF rfl (kwR he12 hk10) he14 ?_
  cases hE
  exact r_ret rfl (Or.inr (Or.inr (Or.inr ⟨rfl, rfl, rfl, rfl⟩)))
def Ni_init (N : Nat) (a0 : Nat) (h : PH) : Option (Unit × PH) :=
  ck ((hK h a0).1 = 3) <|
  lt0 (wI h a0 0 0) fun h2 =>
  lt0 (wI h2 a0 1 0) fun h4 =>
  lt0 (wI h4 a0 2 0) fun h6 =>
  lt0 (wI h6 a0 3 0) fun h8 =>
  lt0 (wI h8 a0 4 0) fun h10 =>
  lt0 (wI h10 a0 5 0) fun h12 =>
  lt0 (wI h12 a0 6 0) fun h14 =>
  lt0 (wI h14 a0 7 0) fun h16 =>
  lt0 (wZ h16 a0 8 (tb 0)) fun h18 =>
  lt0 (wZ h18 a0 9 (tb 0)) fun h20 =>
  lt0 (wZ h20 a0 10 (tb 1)) fun h22 =>
  lt0 (wZ h22 a0 11 (tb 0)) fun h24 =>
  lt0 (wZ h24 a0 12 (tb 0)) fun h26 =>
  lt0 (wZ h26 a0 13 (tb 0)) fun h28 =>
  some ((), h28)
set_option maxRecDepth 20000 in
theorem Ni_init_ok (g : GT) (N : Nat) (a0 : Nat) (h : PH) (v : Unit) (h' : PH) (hE : Ni_init N a0 h = some (v, h')) (D : Nat) (hD : 1 ≤ D) : Calls g D pNi_init [va_rf (some a0)] h (oV v) h' := by
  refine Calls.of cok_Ni_init ht_Ni_init pl_Ni_init (fun ad => by rw [lg_len, sL_cat]; simp only [List.map_cons, List.map_nil, rf_cat, cat_i, cat_l, List.sum_cons, List.sum_nil]; decide) ?_
  rw [show lv_args 0 [va_rf (some a0)] = [(0, va_rf (some a0))] from (by simp only [lv_args, rf_cat, cat_i, cat_l]; try rfl)]
  obtain ⟨D2, rfl⟩ : ∃ d, D = d + 1 := ⟨D - 1, by omega⟩
  unfold Ni_init at hE
  refine r_aload_n (t := some a0) 0 rfl rfl rfl ?_
  refine r_objinit rfl rfl (gt2 58 rfl rfl) oi_1 oi_2 (by decide) ?_
  refine r_aload_n (t := some a0) 0 rfl rfl rfl ?_
  refine r_iconst 0 rfl ci_0 ?_
  obtain ⟨hk1, hE⟩ := ckE hE
  obtain ⟨h2, he3, hE⟩ := ltE hE
  refine r_putI rfl (fl_3_9 rfl) finF rfl hk1 he3 ?_
  refine r_aload_n (t := some a0) 0 rfl rfl rfl ?_
  refine r_iconst 0 rfl ci_0 ?_
  obtain ⟨h4, he5, hE⟩ := ltE hE
  refine r_putI rfl (fl_3_15 rfl) finF rfl (kwI he3 hk1) he5 ?_
  refine r_aload_n (t := some a0) 0 rfl rfl rfl ?_
  refine r_iconst 0 rfl ci_0 ?_
  obtain ⟨h6, he7, hE⟩ := ltE hE
  refine r_putI rfl (fl_3_18 rfl) finF rfl (kwI he5 (kwI he3 hk1)) he7 ?_
  refine r_aload_n (t := some a0) 0 rfl rfl rfl ?_
  refine r_iconst 0 rfl ci_0 ?_
  obtain ⟨h8, he9, hE⟩ := ltE hE
  refine r_putI rfl (fl_3_21 rfl) finF rfl (kwI he7 (kwI he5 (kwI he3 hk1))) he9 ?_
  refine r_aload_n (t := some a0) 0 rfl rfl rfl ?_
  refine r_iconst 0 rfl ci_0 ?_
  obtain ⟨h10, he11, hE⟩ := ltE hE
  refine r_putI rfl (fl_3_24 rfl) finF rfl (kwI he9 (kwI he7 (kwI he5 (kwI he3 hk1)))) he11 ?_
  refine r_aload_n (t := some a0) 0 rfl rfl rfl ?_
  refine r_iconst 0 rfl ci_0 ?_
  obtain ⟨h12, he13, hE⟩ := ltE hE
  refine r_putI rfl (fl_3_27 rfl) finF rfl (kwI he11 (kwI he9 (kwI he7 (kwI he5 (kwI he3 hk1))))) he13 ?_
  refine r_aload_n (t := some a0) 0 rfl rfl rfl ?_
  refine r_iconst 0 rfl ci_0 ?_
  obtain ⟨h14, he15, hE⟩ := ltE hE
  refine r_putI rfl (fl_3_30 rfl) finF rfl (kwI he13 (kwI he11 (kwI he9 (kwI he7 (kwI he5 (kwI he3 hk1)))))) he15 ?_
  refine r_aload_n (t := some a0) 0 rfl rfl rfl ?_
  refine r_iconst 0 rfl ci_0 ?_
  obtain ⟨h16, he17, hE⟩ := ltE hE
  refine r_putI rfl (fl_3_33 rfl) finF rfl (kwI he15 (kwI he13 (kwI he11 (kwI he9 (kwI he7 (kwI he5 (kwI he3 hk1))))))) he17 ?_
  refine r_aload_n (t := some a0) 0 rfl rfl rfl ?_
  refine r_iconst 0 rfl ci_0 ?_
  obtain ⟨h18, he19, hE⟩ := ltE hE
  refine r_putZ rfl (fl_3_36 rfl) finF rfl (kwI he17 (kwI he15 (kwI he13 (kwI he11 (kwI he9 (kwI he7 (kwI he5 (kwI he3 hk1)))))))) rfl he19 ?_
  refine r_aload_n (t := some a0) 0 rfl rfl rfl ?_
  refine r_iconst 0 rfl ci_0 ?_
  obtain ⟨h20, he21, hE⟩ := ltE hE
  refine r_putZ rfl (fl_3_40 rfl) finF rfl (kwZ he19 (kwI he17 (kwI he15 (kwI he13 (kwI he11 (kwI he9 (kwI he7 (kwI he5 (kwI he3 hk1))))))))) rfl he21 ?_
  refine r_aload_n (t := some a0) 0 rfl rfl rfl ?_
  refine r_iconst 1 rfl ci_1 ?_
  obtain ⟨h22, he23, hE⟩ := ltE hE
  refine r_putZ rfl (fl_3_43 rfl) finF rfl (kwZ he21 (kwZ he19 (kwI he17 (kwI he15 (kwI he13 (kwI he11 (kwI he9 (kwI he7 (kwI he5 (kwI he3 hk1)))))))))) rfl he23 ?_
  refine r_aload_n (t := some a0) 0 rfl rfl rfl ?_
  refine r_iconst 0 rfl ci_0 ?_
  obtain ⟨h24, he25, hE⟩ := ltE hE
  refine r_putZ rfl (fl_3_46 rfl) finF rfl (kwZ he23 (kwZ he21 (kwZ he19 (kwI he17 (kwI he15 (kwI he13 (kwI he11 (kwI he9 (kwI he7 (kwI he5 (kwI he3 hk1))))))))))) rfl he25 ?_
  refine r_aload_n (t := some a0) 0 rfl rfl rfl ?_
  refine r_iconst 0 rfl ci_0 ?_
  obtain ⟨h26, he27, hE⟩ := ltE hE
  refine r_putZ rfl (fl_3_49 rfl) finF rfl (kwZ he25 (kwZ he23 (kwZ he21 (kwZ he19 (kwI he17 (kwI he15 (kwI he13 (kwI he11 (kwI he9 (kwI he7 (kwI he5 (kwI he3 hk1)))))))))))) rfl he27 ?_
  refine r_aload_n (t := some a0) 0 rfl rfl rfl ?_
  refine r_iconst 0 rfl ci_0 ?_
  obtain ⟨h28, he29, hE⟩ := ltE hE
  refine r_putZ rfl (fl_3_52 rfl) finF rfl (kwZ he27 (kwZ he25 (kwZ he23 (kwZ he21 (kwZ he19 (kwI he17 (kwI he15 (kwI he13 (kwI he11 (kwI he9 (kwI he7 (kwI he5 (kwI he3 hk1))))))))))))) rfl he29 ?_
  cases hE
  exact r_ret rfl (Or.inr (Or.inr (Or.inr ⟨rfl, rfl, rfl, rfl⟩)))
def Ma_init (N : Nat) (a0 : Nat) (h : PH) : Option (Unit × PH) :=
  lt0 (nw h (3, 0) 14) fun h1 =>
  ck ((hK h1 (hN h)).1 = 3) <|
  bd (Ni_init N (hN h) h1) fun v4 h5 =>
  ck ((hK h5 a0).1 = 1) <|
  lt0 (wR h5 a0 0 (some (hN h))) fun h8 =>
  lt0 (nw h8 (6, 0) 3) fun h10 =>
  ck ((hK h10 (hN h8)).1 = 6) <|
  bd (Sc_init N (hN h8) h10) fun v13 h14 =>
  ck ((hK h14 a0).1 = 1) <|
  lt0 (wR h14 a0 1 (some (hN h8))) fun h17 =>
  lt0 (wZ h17 a0 2 (tb 0)) fun h19 =>
  some ((), h19)
set_option maxRecDepth 20000 in
theorem Ma_init_ok (g : GT) (N : Nat) (a0 : Nat) (h : PH) (v : Unit) (h' : PH) (hE : Ma_init N a0 h = some (v, h')) (D : Nat) (hD : 2 ≤ D) : Calls g D pMa_init [va_rf (some a0)] h (oV v) h' := by
  refine Calls.of cok_Ma_init ht_Ma_init pl_Ma_init (fun ad => by rw [lg_len, sL_cat]; simp only [List.map_cons, List.map_nil, rf_cat, cat_i, cat_l, List.sum_cons, List.sum_nil]; decide) ?_
  rw [show lv_args 0 [va_rf (some a0)] = [(0, va_rf (some a0))] from (by simp only [lv_args, rf_cat, cat_i, cat_l]; try rfl)]
  obtain ⟨D2, rfl⟩ : ∃ d, D = d + 1 := ⟨D - 1, by omega⟩
  unfold Ma_init at hE
  refine r_aload_n (t := some a0) 0 rfl rfl rfl ?_
  refine r_objinit rfl rfl (gt2 225 rfl rfl) oi_1 oi_2 (by decide) ?_
  refine r_aload_n (t := some a0) 0 rfl rfl rfl ?_
  obtain ⟨h1, he2, hE⟩ := ltE hE
  refine r_new (ci := 3) rfl rfl cw_1_7 ins_3 ini_3 he2 ?_
  refine r_dup rfl (rf_cat _) ?_
  obtain ⟨hk3, hE⟩ := ckE hE
  obtain ⟨v4, h5, hq6, hE⟩ := bdE hE
  refine r_callIN0 (rest := [va_rf (some (hN h)), va_rf (some a0)]) (hc := (Ni_init_ok g N _ _ _ _ hq6 D2 (by omega))) rfl pm_Ni_init rfl rfl lw_1_9 im_Ni_init rfl rfl rfl (by simp only [List.map_cons, List.map_nil, rf_cat, cat_i, cat_l, List.sum_cons, List.sum_nil]; decide) ?_
  obtain ⟨hk7, hE⟩ := ckE hE
  obtain ⟨h8, he9, hE⟩ := ltE hE
  refine r_putR rfl (fl_1_10 rfl) (Or.inl ⟨_, rfl⟩) (fun _ => ⟨rfl, _, _, rfl⟩) rfl hk7 he9 ?_
  refine r_aload_n (t := some a0) 0 rfl rfl rfl ?_
  obtain ⟨h10, he11, hE⟩ := ltE hE
  refine r_new (ci := 6) rfl rfl cw_1_16 ins_6 ini_6 he11 ?_
  refine r_dup rfl (rf_cat _) ?_
  obtain ⟨hk12, hE⟩ := ckE hE
  obtain ⟨v13, h14, hq15, hE⟩ := bdE hE
  refine r_callIN0 (rest := [va_rf (some (hN h8)), va_rf (some a0)]) (hc := (Sc_init_ok g N _ _ _ _ hq15 D2 (by omega))) rfl pm_Sc_init rfl rfl lw_1_18 im_Sc_init rfl rfl rfl (by simp only [List.map_cons, List.map_nil, rf_cat, cat_i, cat_l, List.sum_cons, List.sum_nil]; decide) ?_
  obtain ⟨hk16, hE⟩ := ckE hE
  obtain ⟨h17, he18, hE⟩ := ltE hE
  refine r_putR rfl (fl_1_19 rfl) (Or.inl ⟨_, rfl⟩) (fun _ => ⟨rfl, _, _, rfl⟩) rfl hk16 he18 ?_
  refine r_aload_n (t := some a0) 0 rfl rfl rfl ?_
  refine r_iconst 0 rfl ci_0 ?_
  obtain ⟨h19, he20, hE⟩ := ltE hE
  refine r_putZ rfl (fl_1_23 rfl) finF rfl (kwR he18 hk16) rfl he20 ?_
  cases hE
  exact r_ret rfl (Or.inr (Or.inr (Or.inr ⟨rfl, rfl, rfl, rfl⟩)))
def Ho_copy (N : Nat) (a0 : Nat) (x1 : Option Nat) (h : PH) : Option (Unit × PH) :=
  (x1).bind fun a_1 =>
  ck ((hK h a_1).1 = 0) <|
  ck ((hK h a0).1 = 0) <|
  lt0 (wI h a0 0 (hI h a_1 0)) fun h5 =>
  lt0 (wI h5 a0 1 (hI h5 a_1 1)) fun h7 =>
  lt0 (wI h7 a0 2 (hI h7 a_1 2)) fun h9 =>
  lt0 (wI h9 a0 3 (hI h9 a_1 3)) fun h11 =>
  lt0 (wI h11 a0 4 (hI h11 a_1 4)) fun h13 =>
  lt0 (wI h13 a0 5 (hI h13 a_1 5)) fun h15 =>
  lt0 (wI h15 a0 6 (hI h15 a_1 6)) fun h17 =>
  lt0 (wI h17 a0 7 (hI h17 a_1 7)) fun h19 =>
  lt0 (wI h19 a0 8 (hI h19 a_1 8)) fun h21 =>
  lt0 (wI h21 a0 9 (hI h21 a_1 9)) fun h23 =>
  lt0 (wI h23 a0 10 (hI h23 a_1 10)) fun h25 =>
  lt0 (wI h25 a0 11 (hI h25 a_1 11)) fun h27 =>
  lt0 (wI h27 a0 12 (hI h27 a_1 12)) fun h29 =>
  lt0 (wI h29 a0 13 (hI h29 a_1 13)) fun h31 =>
  bd (Le_copyRow N (hR h31 a0 14) (hR h31 a_1 14) 4 h31) fun v33 h34 =>
  ck ((hK h34 a0).1 = 0) <|
  ck ((hK h34 a_1).1 = 0) <|
  bd (Le_copyRow N (hR h34 a0 15) (hR h34 a_1 15) 96 h34) fun v38 h39 =>
  ck ((hK h39 a0).1 = 0) <|
  ck ((hK h39 a_1).1 = 0) <|
  bd (Le_copyRow N (hR h39 a0 16) (hR h39 a_1 16) 96 h39) fun v43 h44 =>
  ck ((hK h44 a0).1 = 0) <|
  ck ((hK h44 a_1).1 = 0) <|
  bd (Le_copyRow N (hR h44 a0 17) (hR h44 a_1 17) (hI h44 a_1 13) h44) fun v48 h49 =>
  ck ((hK h49 a0).1 = 0) <|
  ck ((hK h49 a_1).1 = 0) <|
  bd (Le_copyRow N (hR h49 a0 18) (hR h49 a_1 18) (hI h49 a_1 12) h49) fun v53 h54 =>
  some ((), h54)
set_option maxRecDepth 20000 in
theorem Ho_copy_ok (g : GT) (N : Nat) (a0 : Nat) (x1 : Option Nat) (h : PH) (v : Unit) (h' : PH) (hE : Ho_copy N a0 x1 h = some (v, h')) (D : Nat) (hD : 1 ≤ D) : Calls g D pHo_copy [va_rf (some a0), va_rf x1] h (oV v) h' := by
  refine Calls.of cok_Ho_copy ht_Ho_copy pl_Ho_copy (fun ad => by rw [lg_len, sL_cat]; simp only [List.map_cons, List.map_nil, rf_cat, cat_i, cat_l, List.sum_cons, List.sum_nil]; decide) ?_
  rw [show lv_args 0 [va_rf (some a0), va_rf x1] = [(0, va_rf (some a0)), (1, va_rf x1)] from (by simp only [lv_args, rf_cat, cat_i, cat_l]; try rfl)]
  obtain ⟨D2, rfl⟩ : ∃ d, D = d + 1 := ⟨D - 1, by omega⟩
  unfold Ho_copy at hE
  refine r_aload_n (t := some a0) 0 rfl rfl rfl ?_
  refine r_aload_n (t := x1) 1 rfl rfl rfl ?_
  obtain ⟨a_1, ha2, hE⟩ := bnE hE
  obtain ⟨hk3, hE⟩ := ckE hE
  refine r_getI rfl (fl_0_9 rfl) (Or.inl rfl) ha2 hk3 ?_
  obtain ⟨hk4, hE⟩ := ckE hE
  obtain ⟨h5, he6, hE⟩ := ltE hE
  refine r_putI rfl (fl_0_9 rfl) finF rfl hk4 he6 ?_
  refine r_aload_n (t := some a0) 0 rfl rfl rfl ?_
  refine r_aload_n (t := x1) 1 rfl rfl rfl ?_
  refine r_getI rfl (fl_0_15 rfl) (Or.inl rfl) ha2 (kwI he6 hk3) ?_
  obtain ⟨h7, he8, hE⟩ := ltE hE
  refine r_putI rfl (fl_0_15 rfl) finF rfl (kwI he6 hk4) he8 ?_
  refine r_aload_n (t := some a0) 0 rfl rfl rfl ?_
  refine r_aload_n (t := x1) 1 rfl rfl rfl ?_
  refine r_getI rfl (fl_0_18 rfl) (Or.inl rfl) ha2 (kwI he8 (kwI he6 hk3)) ?_
  obtain ⟨h9, he10, hE⟩ := ltE hE
  refine r_putI rfl (fl_0_18 rfl) finF rfl (kwI he8 (kwI he6 hk4)) he10 ?_
  refine r_aload_n (t := some a0) 0 rfl rfl rfl ?_
  refine r_aload_n (t := x1) 1 rfl rfl rfl ?_
  refine r_getI rfl (fl_0_21 rfl) (Or.inl rfl) ha2 (kwI he10 (kwI he8 (kwI he6 hk3))) ?_
  obtain ⟨h11, he12, hE⟩ := ltE hE
  refine r_putI rfl (fl_0_21 rfl) finF rfl (kwI he10 (kwI he8 (kwI he6 hk4))) he12 ?_
  refine r_aload_n (t := some a0) 0 rfl rfl rfl ?_
  refine r_aload_n (t := x1) 1 rfl rfl rfl ?_
  refine r_getI rfl (fl_0_24 rfl) (Or.inl rfl) ha2 (kwI he12 (kwI he10 (kwI he8 (kwI he6 hk3)))) ?_
  obtain ⟨h13, he14, hE⟩ := ltE hE
  refine r_putI rfl (fl_0_24 rfl) finF rfl (kwI he12 (kwI he10 (kwI he8 (kwI he6 hk4)))) he14 ?_
  refine r_aload_n (t := some a0) 0 rfl rfl rfl ?_
  refine r_aload_n (t := x1) 1 rfl rfl rfl ?_
  refine r_getI rfl (fl_0_27 rfl) (Or.inl rfl) ha2 (kwI he14 (kwI he12 (kwI he10 (kwI he8 (kwI he6 hk3))))) ?_
  obtain ⟨h15, he16, hE⟩ := ltE hE
  refine r_putI rfl (fl_0_27 rfl) finF rfl (kwI he14 (kwI he12 (kwI he10 (kwI he8 (kwI he6 hk4))))) he16 ?_
  refine r_aload_n (t := some a0) 0 rfl rfl rfl ?_
  refine r_aload_n (t := x1) 1 rfl rfl rfl ?_
  refine r_getI rfl (fl_0_30 rfl) (Or.inl rfl) ha2 (kwI he16 (kwI he14 (kwI he12 (kwI he10 (kwI he8 (kwI he6 hk3)))))) ?_
  obtain ⟨h17, he18, hE⟩ := ltE hE
  refine r_putI rfl (fl_0_30 rfl) finF rfl (kwI he16 (kwI he14 (kwI he12 (kwI he10 (kwI he8 (kwI he6 hk4)))))) he18 ?_
  refine r_aload_n (t := some a0) 0 rfl rfl rfl ?_
  refine r_aload_n (t := x1) 1 rfl rfl rfl ?_
  refine r_getI rfl (fl_0_33 rfl) (Or.inl rfl) ha2 (kwI he18 (kwI he16 (kwI he14 (kwI he12 (kwI he10 (kwI he8 (kwI he6 hk3))))))) ?_
  obtain ⟨h19, he20, hE⟩ := ltE hE
  refine r_putI rfl (fl_0_33 rfl) finF rfl (kwI he18 (kwI he16 (kwI he14 (kwI he12 (kwI he10 (kwI he8 (kwI he6 hk4))))))) he20 ?_
  refine r_aload_n (t := some a0) 0 rfl rfl rfl ?_
  refine r_aload_n (t := x1) 1 rfl rfl rfl ?_
  refine r_getI rfl (fl_0_36 rfl) (Or.inl rfl) ha2 (kwI he20 (kwI he18 (kwI he16 (kwI he14 (kwI he12 (kwI he10 (kwI he8 (kwI he6 hk3)))))))) ?_
  obtain ⟨h21, he22, hE⟩ := ltE hE
  refine r_putI rfl (fl_0_36 rfl) finF rfl (kwI he20 (kwI he18 (kwI he16 (kwI he14 (kwI he12 (kwI he10 (kwI he8 (kwI he6 hk4)))))))) he22 ?_
  refine r_aload_n (t := some a0) 0 rfl rfl rfl ?_
  refine r_aload_n (t := x1) 1 rfl rfl rfl ?_
  refine r_getI rfl (fl_0_39 rfl) (Or.inl rfl) ha2 (kwI he22 (kwI he20 (kwI he18 (kwI he16 (kwI he14 (kwI he12 (kwI he10 (kwI he8 (kwI he6 hk3))))))))) ?_
  obtain ⟨h23, he24, hE⟩ := ltE hE
  refine r_putI rfl (fl_0_39 rfl) finF rfl (kwI he22 (kwI he20 (kwI he18 (kwI he16 (kwI he14 (kwI he12 (kwI he10 (kwI he8 (kwI he6 hk4))))))))) he24 ?_
  refine r_aload_n (t := some a0) 0 rfl rfl rfl ?_
  refine r_aload_n (t := x1) 1 rfl rfl rfl ?_
  refine r_getI rfl (fl_0_42 rfl) (Or.inl rfl) ha2 (kwI he24 (kwI he22 (kwI he20 (kwI he18 (kwI he16 (kwI he14 (kwI he12 (kwI he10 (kwI he8 (kwI he6 hk3)))))))))) ?_
  obtain ⟨h25, he26, hE⟩ := ltE hE
  refine r_putI rfl (fl_0_42 rfl) finF rfl (kwI he24 (kwI he22 (kwI he20 (kwI he18 (kwI he16 (kwI he14 (kwI he12 (kwI he10 (kwI he8 (kwI he6 hk4)))))))))) he26 ?_
  refine r_aload_n (t := some a0) 0 rfl rfl rfl ?_
  refine r_aload_n (t := x1) 1 rfl rfl rfl ?_
  refine r_getI rfl (fl_0_45 rfl) (Or.inl rfl) ha2 (kwI he26 (kwI he24 (kwI he22 (kwI he20 (kwI he18 (kwI he16 (kwI he14 (kwI he12 (kwI he10 (kwI he8 (kwI he6 hk3))))))))))) ?_
  obtain ⟨h27, he28, hE⟩ := ltE hE
  refine r_putI rfl (fl_0_45 rfl) finF rfl (kwI he26 (kwI he24 (kwI he22 (kwI he20 (kwI he18 (kwI he16 (kwI he14 (kwI he12 (kwI he10 (kwI he8 (kwI he6 hk4))))))))))) he28 ?_
  refine r_aload_n (t := some a0) 0 rfl rfl rfl ?_
  refine r_aload_n (t := x1) 1 rfl rfl rfl ?_
  refine r_getI rfl (fl_0_48 rfl) (Or.inl rfl) ha2 (kwI he28 (kwI he26 (kwI he24 (kwI he22 (kwI he20 (kwI he18 (kwI he16 (kwI he14 (kwI he12 (kwI he10 (kwI he8 (kwI he6 hk3)))))))))))) ?_
  obtain ⟨h29, he30, hE⟩ := ltE hE
  refine r_putI rfl (fl_0_48 rfl) finF rfl (kwI he28 (kwI he26 (kwI he24 (kwI he22 (kwI he20 (kwI he18 (kwI he16 (kwI he14 (kwI he12 (kwI he10 (kwI he8 (kwI he6 hk4)))))))))))) he30 ?_
  refine r_aload_n (t := some a0) 0 rfl rfl rfl ?_
  refine r_aload_n (t := x1) 1 rfl rfl rfl ?_
  refine r_getI rfl (fl_0_51 rfl) (Or.inl rfl) ha2 (kwI he30 (kwI he28 (kwI he26 (kwI he24 (kwI he22 (kwI he20 (kwI he18 (kwI he16 (kwI he14 (kwI he12 (kwI he10 (kwI he8 (kwI he6 hk3))))))))))))) ?_
  obtain ⟨h31, he32, hE⟩ := ltE hE
  refine r_putI rfl (fl_0_51 rfl) finF rfl (kwI he30 (kwI he28 (kwI he26 (kwI he24 (kwI he22 (kwI he20 (kwI he18 (kwI he16 (kwI he14 (kwI he12 (kwI he10 (kwI he8 (kwI he6 hk4))))))))))))) he32 ?_
  refine r_aload_n (t := some a0) 0 rfl rfl rfl ?_
  refine r_getR rfl (fl_0_54 rfl) (Or.inr ⟨_, rfl⟩) rfl (kwI he32 (kwI he30 (kwI he28 (kwI he26 (kwI he24 (kwI he22 (kwI he20 (kwI he18 (kwI he16 (kwI he14 (kwI he12 (kwI he10 (kwI he8 (kwI he6 hk4)))))))))))))) ?_
  refine r_aload_n (t := x1) 1 rfl rfl rfl ?_
  refine r_getR rfl (fl_0_54 rfl) (Or.inr ⟨_, rfl⟩) ha2 (kwI he32 (kwI he30 (kwI he28 (kwI he26 (kwI he24 (kwI he22 (kwI he20 (kwI he18 (kwI he16 (kwI he14 (kwI he12 (kwI he10 (kwI he8 (kwI he6 hk3)))))))))))))) ?_
  refine r_iconst 4 rfl ci_4 ?_
  obtain ⟨v33, h34, hq35, hE⟩ := bdE hE
  refine r_callSN0 (rest := []) (hc := (Le_copyRow_ok g N _ _ _ _ _ _ hq35 D2 (by omega))) rfl pm_Le_copyRow lw_0_84 st_Le_copyRow rfl rfl (by decide) ?_
  refine r_aload_n (t := some a0) 0 rfl rfl rfl ?_
  obtain ⟨hk36, hE⟩ := ckE hE
  refine r_getR rfl (fl_0_58 rfl) (Or.inr ⟨_, rfl⟩) rfl hk36 ?_
  refine r_aload_n (t := x1) 1 rfl rfl rfl ?_
  obtain ⟨hk37, hE⟩ := ckE hE
  refine r_getR rfl (fl_0_58 rfl) (Or.inr ⟨_, rfl⟩) ha2 hk37 ?_
  refine r_bipush 96 rfl cb_96 ?_
  obtain ⟨v38, h39, hq40, hE⟩ := bdE hE
  refine r_callSN0 (rest := []) (hc := (Le_copyRow_ok g N _ _ _ _ _ _ hq40 D2 (by omega))) rfl pm_Le_copyRow lw_0_84 st_Le_copyRow rfl rfl (by decide) ?_
  refine r_aload_n (t := some a0) 0 rfl rfl rfl ?_
  obtain ⟨hk41, hE⟩ := ckE hE
  refine r_getR rfl (fl_0_61 rfl) (Or.inr ⟨_, rfl⟩) rfl hk41 ?_
  refine r_aload_n (t := x1) 1 rfl rfl rfl ?_
  obtain ⟨hk42, hE⟩ := ckE hE
  refine r_getR rfl (fl_0_61 rfl) (Or.inr ⟨_, rfl⟩) ha2 hk42 ?_
  refine r_bipush 96 rfl cb_96 ?_
  obtain ⟨v43, h44, hq45, hE⟩ := bdE hE
  refine r_callSN0 (rest := []) (hc := (Le_copyRow_ok g N _ _ _ _ _ _ hq45 D2 (by omega))) rfl pm_Le_copyRow lw_0_84 st_Le_copyRow rfl rfl (by decide) ?_
  refine r_aload_n (t := some a0) 0 rfl rfl rfl ?_
  obtain ⟨hk46, hE⟩ := ckE hE
  refine r_getR rfl (fl_0_64 rfl) (Or.inr ⟨_, rfl⟩) rfl hk46 ?_
  refine r_aload_n (t := x1) 1 rfl rfl rfl ?_
  obtain ⟨hk47, hE⟩ := ckE hE
  refine r_getR rfl (fl_0_64 rfl) (Or.inr ⟨_, rfl⟩) ha2 hk47 ?_
  refine r_aload_n (t := x1) 1 rfl rfl rfl ?_
  refine r_getI rfl (fl_0_51 rfl) (Or.inl rfl) ha2 hk47 ?_
  obtain ⟨v48, h49, hq50, hE⟩ := bdE hE
  refine r_callSN0 (rest := []) (hc := (Le_copyRow_ok g N _ _ _ _ _ _ hq50 D2 (by omega))) rfl pm_Le_copyRow lw_0_84 st_Le_copyRow rfl rfl (by decide) ?_
  refine r_aload_n (t := some a0) 0 rfl rfl rfl ?_
  obtain ⟨hk51, hE⟩ := ckE hE
  refine r_getR rfl (fl_0_67 rfl) (Or.inr ⟨_, rfl⟩) rfl hk51 ?_
  refine r_aload_n (t := x1) 1 rfl rfl rfl ?_
  obtain ⟨hk52, hE⟩ := ckE hE
  refine r_getR rfl (fl_0_67 rfl) (Or.inr ⟨_, rfl⟩) ha2 hk52 ?_
  refine r_aload_n (t := x1) 1 rfl rfl rfl ?_
  refine r_getI rfl (fl_0_48 rfl) (Or.inl rfl) ha2 hk52 ?_
  obtain ⟨v53, h54, hq55, hE⟩ := bdE hE
  refine r_callSN0 (rest := []) (hc := (Le_copyRow_ok g N _ _ _ _ _ _ hq55 D2 (by omega))) rfl pm_Le_copyRow lw_0_84 st_Le_copyRow rfl rfl (by decide) ?_
  cases hE
  exact r_ret rfl (Or.inr (Or.inr (Or.inr ⟨rfl, rfl, rfl, rfl⟩)))
def Ni_begin (N : Nat) (a0 : Nat) (x1 : Option Nat) (h : PH) : Option (Unit × PH) :=
  ck ((hK h a0).1 = 3) <|
  lt0 (wI h a0 0 0) fun h2 =>
  (x1).bind fun a_4 =>
  ck ((hK h2 a_4).1 = 0) <|
  lt0 (wI h2 a0 1 (hI h2 a_4 1)) fun h7 =>
  lt0 (wI h7 a0 2 (hI h7 a_4 2)) fun h9 =>
  lt0 (wI h9 a0 3 0) fun h11 =>
  lt0 (wI h11 a0 4 ((hI h11 a_4 10) * 100000)) fun h13 =>
  lt0 (wI h13 a0 5 0) fun h15 =>
  lt0 (wI h15 a0 6 0) fun h17 =>
  lt0 (wI h17 a0 7 0) fun h19 =>
  lt0 (wZ h19 a0 8 (tb 0)) fun h21 =>
  lt0 (wZ h21 a0 9 (tb 0)) fun h23 =>
  lt0 (wZ h23 a0 10 (tb 1)) fun h25 =>
  lt0 (wZ h25 a0 11 (tb 0)) fun h27 =>
  lt0 (wZ h27 a0 12 (tb 0)) fun h29 =>
  lt0 (wZ h29 a0 13 (tb 0)) fun h31 =>
  some ((), h31)
set_option maxRecDepth 20000 in
theorem Ni_begin_ok (g : GT) (N : Nat) (a0 : Nat) (x1 : Option Nat) (h : PH) (v : Unit) (h' : PH) (hE : Ni_begin N a0 x1 h = some (v, h')) (D : Nat) (hD : 0 ≤ D) : Calls g D pNi_begin [va_rf (some a0), va_rf x1] h (oV v) h' := by
  refine Calls.of cok_Ni_begin ht_Ni_begin pl_Ni_begin (fun ad => by rw [lg_len, sL_cat]; simp only [List.map_cons, List.map_nil, rf_cat, cat_i, cat_l, List.sum_cons, List.sum_nil]; decide) ?_
  rw [show lv_args 0 [va_rf (some a0), va_rf x1] = [(0, va_rf (some a0)), (1, va_rf x1)] from (by simp only [lv_args, rf_cat, cat_i, cat_l]; try rfl)]
  unfold Ni_begin at hE
  refine r_aload_n (t := some a0) 0 rfl rfl rfl ?_
  refine r_iconst 0 rfl ci_0 ?_
  obtain ⟨hk1, hE⟩ := ckE hE
  obtain ⟨h2, he3, hE⟩ := ltE hE
  refine r_putI rfl (fl_3_9 rfl) finF rfl hk1 he3 ?_
  refine r_aload_n (t := some a0) 0 rfl rfl rfl ?_
  refine r_aload_n (t := x1) 1 rfl rfl rfl ?_
  obtain ⟨a_4, ha5, hE⟩ := bnE hE
  obtain ⟨hk6, hE⟩ := ckE hE
  refine r_getI rfl (fl_3_55 rfl) (Or.inl rfl) ha5 hk6 ?_
  obtain ⟨h7, he8, hE⟩ := ltE hE
  refine r_putI rfl (fl_3_15 rfl) finF rfl (kwI he3 hk1) he8 ?_
  refine r_aload_n (t := some a0) 0 rfl rfl rfl ?_
  refine r_aload_n (t := x1) 1 rfl rfl rfl ?_
  refine r_getI rfl (fl_3_60 rfl) (Or.inl rfl) ha5 (kwI he8 hk6) ?_
  obtain ⟨h9, he10, hE⟩ := ltE hE
  refine r_putI rfl (fl_3_18 rfl) finF rfl (kwI he8 (kwI he3 hk1)) he10 ?_
  refine r_aload_n (t := some a0) 0 rfl rfl rfl ?_
  refine r_iconst 0 rfl ci_0 ?_
  obtain ⟨h11, he12, hE⟩ := ltE hE
  refine r_putI rfl (fl_3_21 rfl) finF rfl (kwI he10 (kwI he8 (kwI he3 hk1))) he12 ?_
  refine r_aload_n (t := some a0) 0 rfl rfl rfl ?_
  refine r_aload_n (t := x1) 1 rfl rfl rfl ?_
  refine r_getI rfl (fl_3_61 rfl) (Or.inl rfl) ha5 (kwI he12 (kwI he10 (kwI he8 hk6))) ?_
  refine r_ldc rfl kc_3_64 ?_
  refine r_imul rfl ?_
  obtain ⟨h13, he14, hE⟩ := ltE hE
  refine r_putI rfl (fl_3_24 rfl) finF rfl (kwI he12 (kwI he10 (kwI he8 (kwI he3 hk1)))) he14 ?_
  refine r_aload_n (t := some a0) 0 rfl rfl rfl ?_
  refine r_iconst 0 rfl ci_0 ?_
  obtain ⟨h15, he16, hE⟩ := ltE hE
  refine r_putI rfl (fl_3_27 rfl) finF rfl (kwI he14 (kwI he12 (kwI he10 (kwI he8 (kwI he3 hk1))))) he16 ?_
  refine r_aload_n (t := some a0) 0 rfl rfl rfl ?_
  refine r_iconst 0 rfl ci_0 ?_
  obtain ⟨h17, he18, hE⟩ := ltE hE
  refine r_putI rfl (fl_3_30 rfl) finF rfl (kwI he16 (kwI he14 (kwI he12 (kwI he10 (kwI he8 (kwI he3 hk1)))))) he18 ?_
  refine r_aload_n (t := some a0) 0 rfl rfl rfl ?_
  refine r_iconst 0 rfl ci_0 ?_
  obtain ⟨h19, he20, hE⟩ := ltE hE
  refine r_putI rfl (fl_3_33 rfl) finF rfl (kwI he18 (kwI he16 (kwI he14 (kwI he12 (kwI he10 (kwI he8 (kwI he3 hk1))))))) he20 ?_
  refine r_aload_n (t := some a0) 0 rfl rfl rfl ?_
  refine r_iconst 0 rfl ci_0 ?_
  obtain ⟨h21, he22, hE⟩ := ltE hE
  refine r_putZ rfl (fl_3_36 rfl) finF rfl (kwI he20 (kwI he18 (kwI he16 (kwI he14 (kwI he12 (kwI he10 (kwI he8 (kwI he3 hk1)))))))) rfl he22 ?_
  refine r_aload_n (t := some a0) 0 rfl rfl rfl ?_
  refine r_iconst 0 rfl ci_0 ?_
  obtain ⟨h23, he24, hE⟩ := ltE hE
  refine r_putZ rfl (fl_3_40 rfl) finF rfl (kwZ he22 (kwI he20 (kwI he18 (kwI he16 (kwI he14 (kwI he12 (kwI he10 (kwI he8 (kwI he3 hk1))))))))) rfl he24 ?_
  refine r_aload_n (t := some a0) 0 rfl rfl rfl ?_
  refine r_iconst 1 rfl ci_1 ?_
  obtain ⟨h25, he26, hE⟩ := ltE hE
  refine r_putZ rfl (fl_3_43 rfl) finF rfl (kwZ he24 (kwZ he22 (kwI he20 (kwI he18 (kwI he16 (kwI he14 (kwI he12 (kwI he10 (kwI he8 (kwI he3 hk1)))))))))) rfl he26 ?_
  refine r_aload_n (t := some a0) 0 rfl rfl rfl ?_
  refine r_iconst 0 rfl ci_0 ?_
  obtain ⟨h27, he28, hE⟩ := ltE hE
  refine r_putZ rfl (fl_3_46 rfl) finF rfl (kwZ he26 (kwZ he24 (kwZ he22 (kwI he20 (kwI he18 (kwI he16 (kwI he14 (kwI he12 (kwI he10 (kwI he8 (kwI he3 hk1))))))))))) rfl he28 ?_
  refine r_aload_n (t := some a0) 0 rfl rfl rfl ?_
  refine r_iconst 0 rfl ci_0 ?_
  obtain ⟨h29, he30, hE⟩ := ltE hE
  refine r_putZ rfl (fl_3_49 rfl) finF rfl (kwZ he28 (kwZ he26 (kwZ he24 (kwZ he22 (kwI he20 (kwI he18 (kwI he16 (kwI he14 (kwI he12 (kwI he10 (kwI he8 (kwI he3 hk1)))))))))))) rfl he30 ?_
  refine r_aload_n (t := some a0) 0 rfl rfl rfl ?_
  refine r_iconst 0 rfl ci_0 ?_
  obtain ⟨h31, he32, hE⟩ := ltE hE
  refine r_putZ rfl (fl_3_52 rfl) finF rfl (kwZ he30 (kwZ he28 (kwZ he26 (kwZ he24 (kwZ he22 (kwI he20 (kwI he18 (kwI he16 (kwI he14 (kwI he12 (kwI he10 (kwI he8 (kwI he3 hk1))))))))))))) rfl he32 ?_
  cases hE
  exact r_ret rfl (Or.inr (Or.inr (Or.inr ⟨rfl, rfl, rfl, rfl⟩)))
def Ho_write (N : Nat) (a0 : Nat) (x1 : Int32) (h : PH) : Option (Unit × PH) :=
  ck ((hK h a0).1 = 0) <|
  bd (Le_put N (hR h a0 17) (hI h a0 13) x1 h) fun v2 h3 =>
  ck ((hK h3 a0).1 = 0) <|
  lt0 (wI h3 a0 13 ((hI h3 a0 13) + 1)) fun h6 =>
  some ((), h6)
set_option maxRecDepth 20000 in
theorem Ho_write_ok (g : GT) (N : Nat) (a0 : Nat) (x1 : Int32) (h : PH) (v : Unit) (h' : PH) (hE : Ho_write N a0 x1 h = some (v, h')) (D : Nat) (hD : 1 ≤ D) : Calls g D pHo_write [va_rf (some a0), .int x1] h (oV v) h' := by
  refine Calls.of cok_Ho_write ht_Ho_write pl_Ho_write (fun ad => by rw [lg_len, sL_cat]; simp only [List.map_cons, List.map_nil, rf_cat, cat_i, cat_l, List.sum_cons, List.sum_nil]; decide) ?_
  rw [show lv_args 0 [va_rf (some a0), .int x1] = [(0, va_rf (some a0)), (1, .int x1)] from (by simp only [lv_args, rf_cat, cat_i, cat_l]; try rfl)]
  obtain ⟨D2, rfl⟩ : ∃ d, D = d + 1 := ⟨D - 1, by omega⟩
  unfold Ho_write at hE
  refine r_aload_n (t := some a0) 0 rfl rfl rfl ?_
  obtain ⟨hk1, hE⟩ := ckE hE
  refine r_getR rfl (fl_0_64 rfl) (Or.inr ⟨_, rfl⟩) rfl hk1 ?_
  refine r_aload_n (t := some a0) 0 rfl rfl rfl ?_
  refine r_getI rfl (fl_0_51 rfl) (Or.inl rfl) rfl hk1 ?_
  refine r_iload_n 1 rfl rfl rfl ?_
  obtain ⟨v2, h3, hq4, hE⟩ := bdE hE
  refine r_callSN0 (rest := []) (hc := (Le_put_ok g N _ _ _ _ _ _ hq4 D2 (by omega))) rfl pm_Le_put lw_0_76 st_Le_put rfl rfl (by decide) ?_
  refine r_aload_n (t := some a0) 0 rfl rfl rfl ?_
  refine r_dup rfl (rf_cat _) ?_
  obtain ⟨hk5, hE⟩ := ckE hE
  refine r_getI rfl (fl_0_51 rfl) (Or.inl rfl) rfl hk5 ?_
  refine r_iconst 1 rfl ci_1 ?_
  refine r_iadd rfl ?_
  obtain ⟨h6, he7, hE⟩ := ltE hE
  refine r_putI rfl (fl_0_51 rfl) finF rfl hk5 he7 ?_
  cases hE
  exact r_ret rfl (Or.inr (Or.inr (Or.inr ⟨rfl, rfl, rfl, rfl⟩)))
def Ho_endHabit (N : Nat) (a0 : Nat) (h : PH) : Option (Unit × PH) :=
  ck ((hK h a0).1 = 0) <|
  bd (Le_put N (hR h a0 18) (hI h a0 12) (hI h a0 13) h) fun v2 h3 =>
  ck ((hK h3 a0).1 = 0) <|
  lt0 (wI h3 a0 12 ((hI h3 a0 12) + 1)) fun h6 =>
  some ((), h6)
set_option maxRecDepth 20000 in
theorem Ho_endHabit_ok (g : GT) (N : Nat) (a0 : Nat) (h : PH) (v : Unit) (h' : PH) (hE : Ho_endHabit N a0 h = some (v, h')) (D : Nat) (hD : 1 ≤ D) : Calls g D pHo_endHabit [va_rf (some a0)] h (oV v) h' := by
  refine Calls.of cok_Ho_endHabit ht_Ho_endHabit pl_Ho_endHabit (fun ad => by rw [lg_len, sL_cat]; simp only [List.map_cons, List.map_nil, rf_cat, cat_i, cat_l, List.sum_cons, List.sum_nil]; decide) ?_
  rw [show lv_args 0 [va_rf (some a0)] = [(0, va_rf (some a0))] from (by simp only [lv_args, rf_cat, cat_i, cat_l]; try rfl)]
  obtain ⟨D2, rfl⟩ : ∃ d, D = d + 1 := ⟨D - 1, by omega⟩
  unfold Ho_endHabit at hE
  refine r_aload_n (t := some a0) 0 rfl rfl rfl ?_
  obtain ⟨hk1, hE⟩ := ckE hE
  refine r_getR rfl (fl_0_67 rfl) (Or.inr ⟨_, rfl⟩) rfl hk1 ?_
  refine r_aload_n (t := some a0) 0 rfl rfl rfl ?_
  refine r_getI rfl (fl_0_48 rfl) (Or.inl rfl) rfl hk1 ?_
  refine r_aload_n (t := some a0) 0 rfl rfl rfl ?_
  refine r_getI rfl (fl_0_51 rfl) (Or.inl rfl) rfl hk1 ?_
  obtain ⟨v2, h3, hq4, hE⟩ := bdE hE
  refine r_callSN0 (rest := []) (hc := (Le_put_ok g N _ _ _ _ _ _ hq4 D2 (by omega))) rfl pm_Le_put lw_0_76 st_Le_put rfl rfl (by decide) ?_
  refine r_aload_n (t := some a0) 0 rfl rfl rfl ?_
  refine r_dup rfl (rf_cat _) ?_
  obtain ⟨hk5, hE⟩ := ckE hE
  refine r_getI rfl (fl_0_48 rfl) (Or.inl rfl) rfl hk5 ?_
  refine r_iconst 1 rfl ci_1 ?_
  refine r_iadd rfl ?_
  obtain ⟨h6, he7, hE⟩ := ltE hE
  refine r_putI rfl (fl_0_48 rfl) finF rfl hk5 he7 ?_
  cases hE
  exact r_ret rfl (Or.inr (Or.inr (Or.inr ⟨rfl, rfl, rfl, rfl⟩)))
def Sc_add (N : Nat) (a0 : Nat) (x1 : Int32) (x2 : Int32) (h : PH) : Option (Unit × PH) :=
  ck ((hK h a0).1 = 6) <|
  bd (Le_put N (hR h a0 0) (hI h a0 2) x1 h) fun v2 h3 =>
  ck ((hK h3 a0).1 = 6) <|
  bd (Le_put N (hR h3 a0 1) (hI h3 a0 2) x2 h3) fun v6 h7 =>
  ck ((hK h7 a0).1 = 6) <|
  lt0 (wI h7 a0 2 ((hI h7 a0 2) + 1)) fun h10 =>
  some ((), h10)
set_option maxRecDepth 20000 in
theorem Sc_add_ok (g : GT) (N : Nat) (a0 : Nat) (x1 : Int32) (x2 : Int32) (h : PH) (v : Unit) (h' : PH) (hE : Sc_add N a0 x1 x2 h = some (v, h')) (D : Nat) (hD : 1 ≤ D) : Calls g D pSc_add [va_rf (some a0), .int x1, .int x2] h (oV v) h' := by
  refine Calls.of cok_Sc_add ht_Sc_add pl_Sc_add (fun ad => by rw [lg_len, sL_cat]; simp only [List.map_cons, List.map_nil, rf_cat, cat_i, cat_l, List.sum_cons, List.sum_nil]; decide) ?_
  rw [show lv_args 0 [va_rf (some a0), .int x1, .int x2] = [(0, va_rf (some a0)), (1, .int x1), (2, .int x2)] from (by simp only [lv_args, rf_cat, cat_i, cat_l]; try rfl)]
  obtain ⟨D2, rfl⟩ : ∃ d, D = d + 1 := ⟨D - 1, by omega⟩
  unfold Sc_add at hE
  refine r_aload_n (t := some a0) 0 rfl rfl rfl ?_
  obtain ⟨hk1, hE⟩ := ckE hE
  refine r_getR rfl (fl_6_9 rfl) (Or.inr ⟨_, rfl⟩) rfl hk1 ?_
  refine r_aload_n (t := some a0) 0 rfl rfl rfl ?_
  refine r_getI rfl (fl_6_18 rfl) (Or.inl rfl) rfl hk1 ?_
  refine r_iload_n 1 rfl rfl rfl ?_
  obtain ⟨v2, h3, hq4, hE⟩ := bdE hE
  refine r_callSN0 (rest := []) (hc := (Le_put_ok g N _ _ _ _ _ _ hq4 D2 (by omega))) rfl pm_Le_put lw_6_22 st_Le_put rfl rfl (by decide) ?_
  refine r_aload_n (t := some a0) 0 rfl rfl rfl ?_
  obtain ⟨hk5, hE⟩ := ckE hE
  refine r_getR rfl (fl_6_15 rfl) (Or.inr ⟨_, rfl⟩) rfl hk5 ?_
  refine r_aload_n (t := some a0) 0 rfl rfl rfl ?_
  refine r_getI rfl (fl_6_18 rfl) (Or.inl rfl) rfl hk5 ?_
  refine r_iload_n 2 rfl rfl rfl ?_
  obtain ⟨v6, h7, hq8, hE⟩ := bdE hE
  refine r_callSN0 (rest := []) (hc := (Le_put_ok g N _ _ _ _ _ _ hq8 D2 (by omega))) rfl pm_Le_put lw_6_22 st_Le_put rfl rfl (by decide) ?_
  refine r_aload_n (t := some a0) 0 rfl rfl rfl ?_
  refine r_dup rfl (rf_cat _) ?_
  obtain ⟨hk9, hE⟩ := ckE hE
  refine r_getI rfl (fl_6_18 rfl) (Or.inl rfl) rfl hk9 ?_
  refine r_iconst 1 rfl ci_1 ?_
  refine r_iadd rfl ?_
  obtain ⟨h10, he11, hE⟩ := ltE hE
  refine r_putI rfl (fl_6_18 rfl) finF rfl hk9 he11 ?_
  cases hE
  exact r_ret rfl (Or.inr (Or.inr (Or.inr ⟨rfl, rfl, rfl, rfl⟩)))
def Sc_copy (N : Nat) (a0 : Nat) (x1 : Option Nat) (h : PH) : Option (Unit × PH) :=
  (x1).bind fun a_1 =>
  ck ((hK h a_1).1 = 6) <|
  ck ((hK h a0).1 = 6) <|
  lt0 (wI h a0 2 (hI h a_1 2)) fun h5 =>
  bd (Le_copyRow N (hR h5 a0 0) (hR h5 a_1 0) (hI h5 a0 2) h5) fun v7 h8 =>
  ck ((hK h8 a0).1 = 6) <|
  ck ((hK h8 a_1).1 = 6) <|
  bd (Le_copyRow N (hR h8 a0 1) (hR h8 a_1 1) (hI h8 a0 2) h8) fun v12 h13 =>
  some ((), h13)
set_option maxRecDepth 20000 in
theorem Sc_copy_ok (g : GT) (N : Nat) (a0 : Nat) (x1 : Option Nat) (h : PH) (v : Unit) (h' : PH) (hE : Sc_copy N a0 x1 h = some (v, h')) (D : Nat) (hD : 1 ≤ D) : Calls g D pSc_copy [va_rf (some a0), va_rf x1] h (oV v) h' := by
  refine Calls.of cok_Sc_copy ht_Sc_copy pl_Sc_copy (fun ad => by rw [lg_len, sL_cat]; simp only [List.map_cons, List.map_nil, rf_cat, cat_i, cat_l, List.sum_cons, List.sum_nil]; decide) ?_
  rw [show lv_args 0 [va_rf (some a0), va_rf x1] = [(0, va_rf (some a0)), (1, va_rf x1)] from (by simp only [lv_args, rf_cat, cat_i, cat_l]; try rfl)]
  obtain ⟨D2, rfl⟩ : ∃ d, D = d + 1 := ⟨D - 1, by omega⟩
  unfold Sc_copy at hE
  refine r_aload_n (t := some a0) 0 rfl rfl rfl ?_
  refine r_aload_n (t := x1) 1 rfl rfl rfl ?_
  obtain ⟨a_1, ha2, hE⟩ := bnE hE
  obtain ⟨hk3, hE⟩ := ckE hE
  refine r_getI rfl (fl_6_18 rfl) (Or.inl rfl) ha2 hk3 ?_
  obtain ⟨hk4, hE⟩ := ckE hE
  obtain ⟨h5, he6, hE⟩ := ltE hE
  refine r_putI rfl (fl_6_18 rfl) finF rfl hk4 he6 ?_
  refine r_aload_n (t := some a0) 0 rfl rfl rfl ?_
  refine r_getR rfl (fl_6_9 rfl) (Or.inr ⟨_, rfl⟩) rfl (kwI he6 hk4) ?_
  refine r_aload_n (t := x1) 1 rfl rfl rfl ?_
  refine r_getR rfl (fl_6_9 rfl) (Or.inr ⟨_, rfl⟩) ha2 (kwI he6 hk3) ?_
  refine r_aload_n (t := some a0) 0 rfl rfl rfl ?_
  refine r_getI rfl (fl_6_18 rfl) (Or.inl rfl) rfl (kwI he6 hk4) ?_
  obtain ⟨v7, h8, hq9, hE⟩ := bdE hE
  refine r_callSN0 (rest := []) (hc := (Le_copyRow_ok g N _ _ _ _ _ _ hq9 D2 (by omega))) rfl pm_Le_copyRow lw_6_26 st_Le_copyRow rfl rfl (by decide) ?_
  refine r_aload_n (t := some a0) 0 rfl rfl rfl ?_
  obtain ⟨hk10, hE⟩ := ckE hE
  refine r_getR rfl (fl_6_15 rfl) (Or.inr ⟨_, rfl⟩) rfl hk10 ?_
  refine r_aload_n (t := x1) 1 rfl rfl rfl ?_
  obtain ⟨hk11, hE⟩ := ckE hE
  refine r_getR rfl (fl_6_15 rfl) (Or.inr ⟨_, rfl⟩) ha2 hk11 ?_
  refine r_aload_n (t := some a0) 0 rfl rfl rfl ?_
  refine r_getI rfl (fl_6_18 rfl) (Or.inl rfl) rfl hk10 ?_
  obtain ⟨v12, h13, hq14, hE⟩ := bdE hE
  refine r_callSN0 (rest := []) (hc := (Le_copyRow_ok g N _ _ _ _ _ _ hq14 D2 (by omega))) rfl pm_Le_copyRow lw_6_26 st_Le_copyRow rfl rfl (by decide) ?_
  cases hE
  exact r_ret rfl (Or.inr (Or.inr (Or.inr ⟨rfl, rfl, rfl, rfl⟩)))
def Ho_chance_b15 (N : Nat) (s0 : Option Nat) (x2 : Int32) (x3 : Int32) (h : PH) : Option (Int32 × PH) :=
  bd (Le_at N s0 ((x2 * 4) + x3) h) fun v1 h2 =>
  some (v1, h2)
set_option maxRecDepth 20000 in
theorem Ho_chance_b15_ok (g : GT) (N : Nat) (D : Nat) (hD : 1 ≤ D) : ∀ (s0 : Option Nat) (x2 : Int32) (x3 : Int32) (h : PH) (v : Int32) (h' : PH), Ho_chance_b15 N s0 x2 x3 h = some (v, h') → Run g pHo_chance D 15 [(2, .int x2), (3, .int x3)] [va_rf s0] h (rI v) h' := by
  obtain ⟨D2, rfl⟩ : ∃ d, D = d + 1 := ⟨D - 1, by omega⟩
  intro s0 x2 x3 h v h' hE
  unfold Ho_chance_b15 at hE
  refine r_iload_n 2 rfl rfl rfl ?_
  refine r_iconst 4 rfl ci_4 ?_
  refine r_imul rfl ?_
  refine r_iload_n 3 rfl rfl rfl ?_
  refine r_iadd rfl ?_
  obtain ⟨v1, h2, hq3, hE⟩ := bdE hE
  refine r_callSN1 (rest := []) (hc := (Le_at_ok g N _ _ _ _ _ hq3 D2 (by omega))) rfl pm_Le_at lw_0_80 st_Le_at rfl rfl (by decide) ?_
  cases hE
  exact r_ret rfl (Or.inl ⟨rfl, _, _, rfl, rfl, rfl, rfl⟩)
def Ho_chance (N : Nat) (a0 : Nat) (x1 : Int32) (x2 : Int32) (x3 : Int32) (h : PH) : Option (Int32 × PH) :=
  if x1 = 0 then
    ck ((hK h a0).1 = 0) <|
    Ho_chance_b15 N  (hR h a0 15) x2 x3 h
  else
    ck ((hK h a0).1 = 0) <|
    Ho_chance_b15 N  (hR h a0 16) x2 x3 h
set_option maxRecDepth 20000 in
theorem Ho_chance_ok (g : GT) (N : Nat) (a0 : Nat) (x1 : Int32) (x2 : Int32) (x3 : Int32) (h : PH) (v : Int32) (h' : PH) (hE : Ho_chance N a0 x1 x2 x3 h = some (v, h')) (D : Nat) (hD : 1 ≤ D) : Calls g D pHo_chance [va_rf (some a0), .int x1, .int x2, .int x3] h (oI v) h' := by
  refine Calls.of cok_Ho_chance ht_Ho_chance pl_Ho_chance (fun ad => by rw [lg_len, sL_cat]; simp only [List.map_cons, List.map_nil, rf_cat, cat_i, cat_l, List.sum_cons, List.sum_nil]; decide) ?_
  rw [show lv_args 0 [va_rf (some a0), .int x1, .int x2, .int x3] = [(0, va_rf (some a0)), (1, .int x1), (2, .int x2), (3, .int x3)] from (by simp only [lv_args, rf_cat, cat_i, cat_l]; try rfl)]
  obtain ⟨D2, rfl⟩ : ∃ d, D = d + 1 := ⟨D - 1, by omega⟩
  unfold Ho_chance at hE
  refine r_iload_n 1 rfl rfl rfl ?_
  refine r_if_eq (tgt := 11) rfl (by decide) (fun hc1 => ?_) (fun hc1 => ?_)
  · have hE := ifP hc1 hE
    refine r_aload_n (t := some a0) 0 rfl rfl rfl ?_
    obtain ⟨hk2, hE⟩ := ckE hE
    refine r_getR rfl (fl_0_58 rfl) (Or.inr ⟨_, rfl⟩) rfl hk2 ?_
    first | exact r_sb (Ho_chance_b15_ok g N _ hD   _ _ _ _ _ _ hE) ⟨rfl, rfl, trivial⟩ | exact r_sb (Ho_chance_b15_ok g N _ hD   _ _ _ _ _ _ hE) (by simp only [su1, su2, dr1_rf, dr1_in, dr1_lo, dr2_rf, dr2_in, dr2_lo]; exact ⟨rfl, rfl, trivial⟩)
  · have hE := ifN hc1 hE
    refine r_aload_n (t := some a0) 0 rfl rfl rfl ?_
    obtain ⟨hk3, hE⟩ := ckE hE
    refine r_getR rfl (fl_0_61 rfl) (Or.inr ⟨_, rfl⟩) rfl hk3 ?_
    refine r_goto (tgt := 15) rfl (by decide) ?_
    first | exact r_sb (Ho_chance_b15_ok g N _ hD   _ _ _ _ _ _ hE) ⟨rfl, rfl, trivial⟩ | exact r_sb (Ho_chance_b15_ok g N _ hD   _ _ _ _ _ _ hE) (by simp only [su1, su2, dr1_rf, dr1_in, dr1_lo, dr2_rf, dr2_in, dr2_lo]; exact ⟨rfl, rfl, trivial⟩)
def Ni_isOver (N : Nat) (a0 : Nat) (x1 : Option Nat) (h : PH) : Option (Bool × PH) :=
  ck ((hK h a0).1 = 3) <|
  (x1).bind fun a_2 =>
  ck ((hK h a_2).1 = 0) <|
  if (hI h a0 0) < (hI h a_2 0) then
    some (false, h)
  else
    some (true, h)
set_option maxRecDepth 20000 in
theorem Ni_isOver_ok (g : GT) (N : Nat) (a0 : Nat) (x1 : Option Nat) (h : PH) (v : Bool) (h' : PH) (hE : Ni_isOver N a0 x1 h = some (v, h')) (D : Nat) (hD : 0 ≤ D) : Calls g D pNi_isOver [va_rf (some a0), va_rf x1] h (oZ v) h' := by
  refine Calls.of cok_Ni_isOver ht_Ni_isOver pl_Ni_isOver (fun ad => by rw [lg_len, sL_cat]; simp only [List.map_cons, List.map_nil, rf_cat, cat_i, cat_l, List.sum_cons, List.sum_nil]; decide) ?_
  rw [show lv_args 0 [va_rf (some a0), va_rf x1] = [(0, va_rf (some a0)), (1, va_rf x1)] from (by simp only [lv_args, rf_cat, cat_i, cat_l]; try rfl)]
  unfold Ni_isOver at hE
  refine r_aload_n (t := some a0) 0 rfl rfl rfl ?_
  obtain ⟨hk1, hE⟩ := ckE hE
  refine r_getI rfl (fl_3_9 rfl) (Or.inl rfl) rfl hk1 ?_
  refine r_aload_n (t := x1) 1 rfl rfl rfl ?_
  obtain ⟨a_2, ha3, hE⟩ := bnE hE
  obtain ⟨hk4, hE⟩ := ckE hE
  refine r_getI rfl (fl_3_65 rfl) (Or.inl rfl) ha3 hk4 ?_
  refine r_icmp_lt (tgt := 15) rfl (by decide) (fun hc5 => ?_) (fun hc5 => ?_)
  · have hE := ifP hc5 hE
    refine r_iconst 0 rfl ci_0 ?_
    cases hE
    exact r_ret rfl (Or.inl ⟨rfl, _, _, rfl, rfl, rfl, rfl⟩)
  · have hE := ifN hc5 hE
    refine r_iconst 1 rfl ci_1 ?_
    refine r_goto (tgt := 16) rfl (by decide) ?_
    cases hE
    exact r_ret rfl (Or.inl ⟨rfl, _, _, rfl, rfl, rfl, rfl⟩)
def Ni_canCome_b14 (N : Nat) (s0 : Int32) (a0 : Nat) (x1 : Option Nat) (h : PH) : Option (Bool × PH) :=
  if s0 < 0 then
    some (false, h)
  else
    if 3 < s0 then
      some (false, h)
    else
      ck ((hK h a0).1 = 3) <|
      if (bI (hZ h a0 8)) = 0 then
        if (bI (hZ h a0 10)) = 0 then
          some (false, h)
        else
          bd (Ni_isOver N a0 x1 h) fun v6 h7 =>
          if (bI v6) = 0 then
            some (true, h7)
          else
            some (false, h7)
      else
        some (false, h)
set_option maxRecDepth 20000 in
theorem Ni_canCome_b14_ok (g : GT) (N : Nat) (D : Nat) (hD : 1 ≤ D) : ∀ (s0 : Int32) (a0 : Nat) (x1 : Option Nat) (h : PH) (v : Bool) (h' : PH), Ni_canCome_b14 N s0 a0 x1 h = some (v, h') → Run g pNi_canCome D 14 [(0, va_rf (some a0)), (1, va_rf x1)] [.int s0] h (rZ v) h' := by
  obtain ⟨D2, rfl⟩ : ∃ d, D = d + 1 := ⟨D - 1, by omega⟩
  intro s0 a0 x1 h v h' hE
  unfold Ni_canCome_b14 at hE
  refine r_istore_n 3 rfl rfl (by decide) ?_
  refine r_iload_n 3 rfl rfl rfl ?_
  refine r_if_lt (tgt := 50) rfl (by decide) (fun hc1 => ?_) (fun hc1 => ?_)
  · have hE := ifP hc1 hE
    refine r_iconst 0 rfl ci_0 ?_
    cases hE
    exact r_ret rfl (Or.inl ⟨rfl, _, _, rfl, rfl, rfl, rfl⟩)
  · have hE := ifN hc1 hE
    refine r_iload_n 3 rfl rfl rfl ?_
    refine r_iconst 3 rfl ci_3 ?_
    refine r_icmp_gt (tgt := 50) rfl (by decide) (fun hc2 => ?_) (fun hc2 => ?_)
    · have hE := ifP hc2 hE
      refine r_iconst 0 rfl ci_0 ?_
      cases hE
      exact r_ret rfl (Or.inl ⟨rfl, _, _, rfl, rfl, rfl, rfl⟩)
    · have hE := ifN hc2 hE
      refine r_aload_n (t := some a0) 0 rfl rfl rfl ?_
      obtain ⟨hk3, hE⟩ := ckE hE
      refine r_getZ rfl (fl_3_36 rfl) rfl hk3 ?_
      refine r_if_ne (tgt := 50) rfl (by decide) (fun hc4 => ?_) (fun hc4 => ?_)
      · have hE := ifP hc4 hE
        refine r_aload_n (t := some a0) 0 rfl rfl rfl ?_
        refine r_getZ rfl (fl_3_43 rfl) rfl hk3 ?_
        refine r_if_eq (tgt := 50) rfl (by decide) (fun hc5 => ?_) (fun hc5 => ?_)
        · have hE := ifP hc5 hE
          refine r_iconst 0 rfl ci_0 ?_
          cases hE
          exact r_ret rfl (Or.inl ⟨rfl, _, _, rfl, rfl, rfl, rfl⟩)
        · have hE := ifN hc5 hE
          refine r_aload_n (t := some a0) 0 rfl rfl rfl ?_
          refine r_aload_n (t := x1) 1 rfl rfl rfl ?_
          obtain ⟨v6, h7, hq8, hE⟩ := bdE hE
          refine r_callV1 (rest := []) (hc := (Ni_isOver_ok g N _ _ _ _ _ hq8 D2 (by omega))) rfl pm_Ni_isOver lw_3_68 im_Ni_isOver sl_Ni_isOver rfl rfl rfl (rcOK hk3 rfl) (by decide) ?_
          refine r_if_ne (tgt := 50) rfl (by decide) (fun hc9 => ?_) (fun hc9 => ?_)
          · have hE := ifP hc9 hE
            refine r_iconst 1 rfl ci_1 ?_
            refine r_goto (tgt := 51) rfl (by decide) ?_
            cases hE
            exact r_ret rfl (Or.inl ⟨rfl, _, _, rfl, rfl, rfl, rfl⟩)
          · have hE := ifN hc9 hE
            refine r_iconst 0 rfl ci_0 ?_
            cases hE
            exact r_ret rfl (Or.inl ⟨rfl, _, _, rfl, rfl, rfl, rfl⟩)
      · have hE := ifN hc4 hE
        refine r_iconst 0 rfl ci_0 ?_
        cases hE
        exact r_ret rfl (Or.inl ⟨rfl, _, _, rfl, rfl, rfl, rfl⟩)
def Ni_canCome (N : Nat) (a0 : Nat) (x1 : Option Nat) (x2 : Int32) (h : PH) : Option (Bool × PH) :=
  ck ((hK h a0).1 = 3) <|
  if (bI (hZ h a0 12)) = 0 then
    Ni_canCome_b14 N  x2 a0 x1 h
  else
    Ni_canCome_b14 N  (x2 - 1) a0 x1 h
set_option maxRecDepth 20000 in
theorem Ni_canCome_ok (g : GT) (N : Nat) (a0 : Nat) (x1 : Option Nat) (x2 : Int32) (h : PH) (v : Bool) (h' : PH) (hE : Ni_canCome N a0 x1 x2 h = some (v, h')) (D : Nat) (hD : 1 ≤ D) : Calls g D pNi_canCome [va_rf (some a0), va_rf x1, .int x2] h (oZ v) h' := by
  refine Calls.of cok_Ni_canCome ht_Ni_canCome pl_Ni_canCome (fun ad => by rw [lg_len, sL_cat]; simp only [List.map_cons, List.map_nil, rf_cat, cat_i, cat_l, List.sum_cons, List.sum_nil]; decide) ?_
  rw [show lv_args 0 [va_rf (some a0), va_rf x1, .int x2] = [(0, va_rf (some a0)), (1, va_rf x1), (2, .int x2)] from (by simp only [lv_args, rf_cat, cat_i, cat_l]; try rfl)]
  obtain ⟨D2, rfl⟩ : ∃ d, D = d + 1 := ⟨D - 1, by omega⟩
  unfold Ni_canCome at hE
  refine r_aload_n (t := some a0) 0 rfl rfl rfl ?_
  obtain ⟨hk1, hE⟩ := ckE hE
  refine r_getZ rfl (fl_3_49 rfl) rfl hk1 ?_
  refine r_if_eq (tgt := 13) rfl (by decide) (fun hc2 => ?_) (fun hc2 => ?_)
  · have hE := ifP hc2 hE
    refine r_iload_n 2 rfl rfl rfl ?_
    first | exact r_sb (Ni_canCome_b14_ok g N _ hD   _ _ _ _ _ _ hE) ⟨rfl, rfl, trivial⟩ | exact r_sb (Ni_canCome_b14_ok g N _ hD   _ _ _ _ _ _ hE) (by simp only [su1, su2, dr1_rf, dr1_in, dr1_lo, dr2_rf, dr2_in, dr2_lo]; exact ⟨rfl, rfl, trivial⟩)
  · have hE := ifN hc2 hE
    refine r_iload_n 2 rfl rfl rfl ?_
    refine r_iconst 1 rfl ci_1 ?_
    refine r_isub rfl ?_
    refine r_goto (tgt := 14) rfl (by decide) ?_
    first | exact r_sb (Ni_canCome_b14_ok g N _ hD   _ _ _ _ _ _ hE) ⟨rfl, rfl, trivial⟩ | exact r_sb (Ni_canCome_b14_ok g N _ hD   _ _ _ _ _ _ hE) (by simp only [su1, su2, dr1_rf, dr1_in, dr1_lo, dr2_rf, dr2_in, dr2_lo]; exact ⟨rfl, rfl, trivial⟩)
def Ni_copy (N : Nat) (a0 : Nat) (x1 : Option Nat) (h : PH) : Option (Unit × PH) :=
  if x1 = none then
    some ((), h)
  else
    (x1).bind fun a_2 =>
    ck ((hK h a_2).1 = 3) <|
    ck ((hK h a0).1 = 3) <|
    lt0 (wI h a0 0 (hI h a_2 0)) fun h6 =>
    lt0 (wI h6 a0 1 (hI h6 a_2 1)) fun h8 =>
    lt0 (wI h8 a0 2 (hI h8 a_2 2)) fun h10 =>
    lt0 (wI h10 a0 3 (hI h10 a_2 3)) fun h12 =>
    lt0 (wI h12 a0 4 (hI h12 a_2 4)) fun h14 =>
    lt0 (wI h14 a0 5 (hI h14 a_2 5)) fun h16 =>
    lt0 (wI h16 a0 6 (hI h16 a_2 6)) fun h18 =>
    lt0 (wI h18 a0 7 (hI h18 a_2 7)) fun h20 =>
    lt0 (wZ h20 a0 8 (tb (bI (hZ h20 a_2 8)))) fun h22 =>
    lt0 (wZ h22 a0 9 (tb (bI (hZ h22 a_2 9)))) fun h24 =>
    lt0 (wZ h24 a0 10 (tb (bI (hZ h24 a_2 10)))) fun h26 =>
    lt0 (wZ h26 a0 11 (tb (bI (hZ h26 a_2 11)))) fun h28 =>
    lt0 (wZ h28 a0 12 (tb (bI (hZ h28 a_2 12)))) fun h30 =>
    lt0 (wZ h30 a0 13 (tb (bI (hZ h30 a_2 13)))) fun h32 =>
    some ((), h32)
set_option maxRecDepth 20000 in
theorem Ni_copy_ok (g : GT) (N : Nat) (a0 : Nat) (x1 : Option Nat) (h : PH) (v : Unit) (h' : PH) (hE : Ni_copy N a0 x1 h = some (v, h')) (D : Nat) (hD : 0 ≤ D) : Calls g D pNi_copy [va_rf (some a0), va_rf x1] h (oV v) h' := by
  refine Calls.of cok_Ni_copy ht_Ni_copy pl_Ni_copy (fun ad => by rw [lg_len, sL_cat]; simp only [List.map_cons, List.map_nil, rf_cat, cat_i, cat_l, List.sum_cons, List.sum_nil]; decide) ?_
  rw [show lv_args 0 [va_rf (some a0), va_rf x1] = [(0, va_rf (some a0)), (1, va_rf x1)] from (by simp only [lv_args, rf_cat, cat_i, cat_l]; try rfl)]
  unfold Ni_copy at hE
  refine r_aload_n (t := x1) 1 rfl rfl rfl ?_
  refine r_ifnonnull (tgt := 5) rfl (by decide) (fun hc1 => ?_) (fun hc1 => ?_)
  · have hE := ifP hc1 hE
    cases hE
    exact r_ret rfl (Or.inr (Or.inr (Or.inr ⟨rfl, rfl, rfl, rfl⟩)))
  · have hE := ifN hc1 hE
    refine r_aload_n (t := some a0) 0 rfl rfl rfl ?_
    refine r_aload_n (t := x1) 1 rfl rfl rfl ?_
    obtain ⟨a_2, ha3, hE⟩ := bnE hE
    obtain ⟨hk4, hE⟩ := ckE hE
    refine r_getI rfl (fl_3_9 rfl) (Or.inl rfl) ha3 hk4 ?_
    obtain ⟨hk5, hE⟩ := ckE hE
    obtain ⟨h6, he7, hE⟩ := ltE hE
    refine r_putI rfl (fl_3_9 rfl) finF rfl hk5 he7 ?_
    refine r_aload_n (t := some a0) 0 rfl rfl rfl ?_
    refine r_aload_n (t := x1) 1 rfl rfl rfl ?_
    refine r_getI rfl (fl_3_15 rfl) (Or.inl rfl) ha3 (kwI he7 hk4) ?_
    obtain ⟨h8, he9, hE⟩ := ltE hE
    refine r_putI rfl (fl_3_15 rfl) finF rfl (kwI he7 hk5) he9 ?_
    refine r_aload_n (t := some a0) 0 rfl rfl rfl ?_
    refine r_aload_n (t := x1) 1 rfl rfl rfl ?_
    refine r_getI rfl (fl_3_18 rfl) (Or.inl rfl) ha3 (kwI he9 (kwI he7 hk4)) ?_
    obtain ⟨h10, he11, hE⟩ := ltE hE
    refine r_putI rfl (fl_3_18 rfl) finF rfl (kwI he9 (kwI he7 hk5)) he11 ?_
    refine r_aload_n (t := some a0) 0 rfl rfl rfl ?_
    refine r_aload_n (t := x1) 1 rfl rfl rfl ?_
    refine r_getI rfl (fl_3_21 rfl) (Or.inl rfl) ha3 (kwI he11 (kwI he9 (kwI he7 hk4))) ?_
    obtain ⟨h12, he13, hE⟩ := ltE hE
    refine r_putI rfl (fl_3_21 rfl) finF rfl (kwI he11 (kwI he9 (kwI he7 hk5))) he13 ?_
    refine r_aload_n (t := some a0) 0 rfl rfl rfl ?_
    refine r_aload_n (t := x1) 1 rfl rfl rfl ?_
    refine r_getI rfl (fl_3_24 rfl) (Or.inl rfl) ha3 (kwI he13 (kwI he11 (kwI he9 (kwI he7 hk4)))) ?_
    obtain ⟨h14, he15, hE⟩ := ltE hE
    refine r_putI rfl (fl_3_24 rfl) finF rfl (kwI he13 (kwI he11 (kwI he9 (kwI he7 hk5)))) he15 ?_
    refine r_aload_n (t := some a0) 0 rfl rfl rfl ?_
    refine r_aload_n (t := x1) 1 rfl rfl rfl ?_
    refine r_getI rfl (fl_3_27 rfl) (Or.inl rfl) ha3 (kwI he15 (kwI he13 (kwI he11 (kwI he9 (kwI he7 hk4))))) ?_
    obtain ⟨h16, he17, hE⟩ := ltE hE
    refine r_putI rfl (fl_3_27 rfl) finF rfl (kwI he15 (kwI he13 (kwI he11 (kwI he9 (kwI he7 hk5))))) he17 ?_
    refine r_aload_n (t := some a0) 0 rfl rfl rfl ?_
    refine r_aload_n (t := x1) 1 rfl rfl rfl ?_
    refine r_getI rfl (fl_3_30 rfl) (Or.inl rfl) ha3 (kwI he17 (kwI he15 (kwI he13 (kwI he11 (kwI he9 (kwI he7 hk4)))))) ?_
    obtain ⟨h18, he19, hE⟩ := ltE hE
    refine r_putI rfl (fl_3_30 rfl) finF rfl (kwI he17 (kwI he15 (kwI he13 (kwI he11 (kwI he9 (kwI he7 hk5)))))) he19 ?_
    refine r_aload_n (t := some a0) 0 rfl rfl rfl ?_
    refine r_aload_n (t := x1) 1 rfl rfl rfl ?_
    refine r_getI rfl (fl_3_33 rfl) (Or.inl rfl) ha3 (kwI he19 (kwI he17 (kwI he15 (kwI he13 (kwI he11 (kwI he9 (kwI he7 hk4))))))) ?_
    obtain ⟨h20, he21, hE⟩ := ltE hE
    refine r_putI rfl (fl_3_33 rfl) finF rfl (kwI he19 (kwI he17 (kwI he15 (kwI he13 (kwI he11 (kwI he9 (kwI he7 hk5))))))) he21 ?_
    refine r_aload_n (t := some a0) 0 rfl rfl rfl ?_
    refine r_aload_n (t := x1) 1 rfl rfl rfl ?_
    refine r_getZ rfl (fl_3_36 rfl) ha3 (kwI he21 (kwI he19 (kwI he17 (kwI he15 (kwI he13 (kwI he11 (kwI he9 (kwI he7 hk4)))))))) ?_
    obtain ⟨h22, he23, hE⟩ := ltE hE
    refine r_putZ rfl (fl_3_36 rfl) finF rfl (kwI he21 (kwI he19 (kwI he17 (kwI he15 (kwI he13 (kwI he11 (kwI he9 (kwI he7 hk5)))))))) (isB_bI _) he23 ?_
    refine r_aload_n (t := some a0) 0 rfl rfl rfl ?_
    refine r_aload_n (t := x1) 1 rfl rfl rfl ?_
    refine r_getZ rfl (fl_3_40 rfl) ha3 (kwZ he23 (kwI he21 (kwI he19 (kwI he17 (kwI he15 (kwI he13 (kwI he11 (kwI he9 (kwI he7 hk4))))))))) ?_
    obtain ⟨h24, he25, hE⟩ := ltE hE
    refine r_putZ rfl (fl_3_40 rfl) finF rfl (kwZ he23 (kwI he21 (kwI he19 (kwI he17 (kwI he15 (kwI he13 (kwI he11 (kwI he9 (kwI he7 hk5))))))))) (isB_bI _) he25 ?_
    refine r_aload_n (t := some a0) 0 rfl rfl rfl ?_
    refine r_aload_n (t := x1) 1 rfl rfl rfl ?_
    refine r_getZ rfl (fl_3_43 rfl) ha3 (kwZ he25 (kwZ he23 (kwI he21 (kwI he19 (kwI he17 (kwI he15 (kwI he13 (kwI he11 (kwI he9 (kwI he7 hk4)))))))))) ?_
    obtain ⟨h26, he27, hE⟩ := ltE hE
    refine r_putZ rfl (fl_3_43 rfl) finF rfl (kwZ he25 (kwZ he23 (kwI he21 (kwI he19 (kwI he17 (kwI he15 (kwI he13 (kwI he11 (kwI he9 (kwI he7 hk5)))))))))) (isB_bI _) he27 ?_
    refine r_aload_n (t := some a0) 0 rfl rfl rfl ?_
    refine r_aload_n (t := x1) 1 rfl rfl rfl ?_
    refine r_getZ rfl (fl_3_46 rfl) ha3 (kwZ he27 (kwZ he25 (kwZ he23 (kwI he21 (kwI he19 (kwI he17 (kwI he15 (kwI he13 (kwI he11 (kwI he9 (kwI he7 hk4))))))))))) ?_
    obtain ⟨h28, he29, hE⟩ := ltE hE
    refine r_putZ rfl (fl_3_46 rfl) finF rfl (kwZ he27 (kwZ he25 (kwZ he23 (kwI he21 (kwI he19 (kwI he17 (kwI he15 (kwI he13 (kwI he11 (kwI he9 (kwI he7 hk5))))))))))) (isB_bI _) he29 ?_
    refine r_aload_n (t := some a0) 0 rfl rfl rfl ?_
    refine r_aload_n (t := x1) 1 rfl rfl rfl ?_
    refine r_getZ rfl (fl_3_49 rfl) ha3 (kwZ he29 (kwZ he27 (kwZ he25 (kwZ he23 (kwI he21 (kwI he19 (kwI he17 (kwI he15 (kwI he13 (kwI he11 (kwI he9 (kwI he7 hk4)))))))))))) ?_
    obtain ⟨h30, he31, hE⟩ := ltE hE
    refine r_putZ rfl (fl_3_49 rfl) finF rfl (kwZ he29 (kwZ he27 (kwZ he25 (kwZ he23 (kwI he21 (kwI he19 (kwI he17 (kwI he15 (kwI he13 (kwI he11 (kwI he9 (kwI he7 hk5)))))))))))) (isB_bI _) he31 ?_
    refine r_aload_n (t := some a0) 0 rfl rfl rfl ?_
    refine r_aload_n (t := x1) 1 rfl rfl rfl ?_
    refine r_getZ rfl (fl_3_52 rfl) ha3 (kwZ he31 (kwZ he29 (kwZ he27 (kwZ he25 (kwZ he23 (kwI he21 (kwI he19 (kwI he17 (kwI he15 (kwI he13 (kwI he11 (kwI he9 (kwI he7 hk4))))))))))))) ?_
    obtain ⟨h32, he33, hE⟩ := ltE hE
    refine r_putZ rfl (fl_3_52 rfl) finF rfl (kwZ he31 (kwZ he29 (kwZ he27 (kwZ he25 (kwZ he23 (kwI he21 (kwI he19 (kwI he17 (kwI he15 (kwI he13 (kwI he11 (kwI he9 (kwI he7 hk5))))))))))))) (isB_bI _) he33 ?_
    cases hE
    exact r_ret rfl (Or.inr (Or.inr (Or.inr ⟨rfl, rfl, rfl, rfl⟩)))
def Ni_arrive_b85 (N : Nat) (a0 : Nat) (x2 : Int32) (h : PH) : Option (Unit × PH) :=
  ck ((hK h a0).1 = 3) <|
  lt0 (wI h a0 3 x2) fun h2 =>
  lt0 (wI h2 a0 6 ((hI h2 a0 6) + x2)) fun h4 =>
  lt0 (wZ h4 a0 8 (tb 1)) fun h6 =>
  some ((), h6)
set_option maxRecDepth 20000 in
theorem Ni_arrive_b85_ok (g : GT) (N : Nat) (D : Nat) (hD : 2 ≤ D) : ∀ (a0 : Nat) (x2 : Int32) (h : PH) (v : Unit) (h' : PH), Ni_arrive_b85 N a0 x2 h = some (v, h') → Run g pNi_arrive D 85 [(0, va_rf (some a0)), (2, .int x2)] [] h (rV v) h' := by
  obtain ⟨D2, rfl⟩ : ∃ d, D = d + 1 := ⟨D - 1, by omega⟩
  intro a0 x2 h v h' hE
  unfold Ni_arrive_b85 at hE
  refine r_aload_n (t := some a0) 0 rfl rfl rfl ?_
  refine r_iload_n 2 rfl rfl rfl ?_
  obtain ⟨hk1, hE⟩ := ckE hE
  obtain ⟨h2, he3, hE⟩ := ltE hE
  refine r_putI rfl (fl_3_21 rfl) finF rfl hk1 he3 ?_
  refine r_aload_n (t := some a0) 0 rfl rfl rfl ?_
  refine r_dup rfl (rf_cat _) ?_
  refine r_getI rfl (fl_3_30 rfl) (Or.inl rfl) rfl (kwI he3 hk1) ?_
  refine r_iload_n 2 rfl rfl rfl ?_
  refine r_iadd rfl ?_
  obtain ⟨h4, he5, hE⟩ := ltE hE
  refine r_putI rfl (fl_3_30 rfl) finF rfl (kwI he3 hk1) he5 ?_
  refine r_aload_n (t := some a0) 0 rfl rfl rfl ?_
  refine r_iconst 1 rfl ci_1 ?_
  obtain ⟨h6, he7, hE⟩ := ltE hE
  refine r_putZ rfl (fl_3_36 rfl) finF rfl (kwI he5 (kwI he3 hk1)) rfl he7 ?_
  cases hE
  exact r_ret rfl (Or.inr (Or.inr (Or.inr ⟨rfl, rfl, rfl, rfl⟩)))
def Ni_arrive_b14 (N : Nat) (s0 : Int32) (a0 : Nat) (x1 : Option Nat) (x2 : Int32) (h : PH) : Option (Unit × PH) :=
  ck ((hK h a0).1 = 3) <|
  (x1).bind fun a_2 =>
  ck ((hK h a_2).1 = 0) <|
  bd (Ho_chance N a_2 1 (hI h a0 0) s0 h) fun v5 h6 =>
  ck (¬ (10 : Int32) = 0) <|
  ck ((hK h6 a0).1 = 3) <|
  ck ((hK h6 a_2).1 = 0) <|
  bd (Ho_chance N a_2 0 (hI h6 a0 0) s0 h6) fun v11 h12 =>
  ck (¬ (10 : Int32) = 0) <|
  if ((((hI h a0 4) * v5) / 10) + (((1000000 - (hI h6 a0 4)) * v11) / 10)) ≤ 0 then
    Ni_arrive_b85 N  a0 x2 h12
  else
    ck (¬ (Int32.toInt64 ((((hI h a0 4) * v5) / 10) + (((1000000 - (hI h6 a0 4)) * v11) / 10))) = 0) <|
    ck ((hK h12 a0).1 = 3) <|
    lt0 (wI h12 a0 4 (Int64.toInt32 (((Int32.toInt64 (((hI h a0 4) * v5) / 10)) * 1000000) / (Int32.toInt64 ((((hI h a0 4) * v5) / 10) + (((1000000 - (hI h6 a0 4)) * v11) / 10)))))) fun h18 =>
    Ni_arrive_b85 N  a0 x2 h18
set_option maxRecDepth 20000 in
theorem Ni_arrive_b14_ok (g : GT) (N : Nat) (D : Nat) (hD : 2 ≤ D) : ∀ (s0 : Int32) (a0 : Nat) (x1 : Option Nat) (x2 : Int32) (h : PH) (v : Unit) (h' : PH), Ni_arrive_b14 N s0 a0 x1 x2 h = some (v, h') → Run g pNi_arrive D 14 [(0, va_rf (some a0)), (1, va_rf x1), (2, .int x2)] [.int s0] h (rV v) h' := by
  obtain ⟨D2, rfl⟩ : ∃ d, D = d + 1 := ⟨D - 1, by omega⟩
  intro s0 a0 x1 x2 h v h' hE
  unfold Ni_arrive_b14 at hE
  refine r_istore_n 3 rfl rfl (by decide) ?_
  refine r_aload_n (t := some a0) 0 rfl rfl rfl ?_
  obtain ⟨hk1, hE⟩ := ckE hE
  refine r_getI rfl (fl_3_24 rfl) (Or.inl rfl) rfl hk1 ?_
  refine r_aload_n (t := x1) 1 rfl rfl rfl ?_
  refine r_iconst 1 rfl ci_1 ?_
  refine r_aload_n (t := some a0) 0 rfl rfl rfl ?_
  refine r_getI rfl (fl_3_9 rfl) (Or.inl rfl) rfl hk1 ?_
  refine r_iload_n 3 rfl rfl rfl ?_
  obtain ⟨a_2, ha3, hE⟩ := bnE hE
  obtain ⟨hk4, hE⟩ := ckE hE
  obtain ⟨v5, h6, hq7, hE⟩ := bdE hE
  refine r_callV1 (rest := [.int (hI h a0 4)]) (hc := (Ho_chance_ok g N _ _ _ _ _ _ _ hq7 D2 (by omega))) rfl pm_Ho_chance lw_3_95 im_Ho_chance sl_Ho_chance ha3 rfl rfl (rcOK hk4 rfl) (by simp only [List.map_cons, List.map_nil, rf_cat, cat_i, cat_l, List.sum_cons, List.sum_nil]; decide) ?_
  refine r_imul rfl ?_
  refine r_bipush 10 rfl cb_10 ?_
  obtain ⟨hc8, hE⟩ := ckE hE
  refine r_idiv rfl hc8 ?_
  refine r_istore rfl (by decide) ?_
  refine r_ldc rfl kc_3_99 ?_
  refine r_aload_n (t := some a0) 0 rfl rfl rfl ?_
  obtain ⟨hk9, hE⟩ := ckE hE
  refine r_getI rfl (fl_3_24 rfl) (Or.inl rfl) rfl hk9 ?_
  refine r_isub rfl ?_
  refine r_aload_n (t := x1) 1 rfl rfl rfl ?_
  refine r_iconst 0 rfl ci_0 ?_
  refine r_aload_n (t := some a0) 0 rfl rfl rfl ?_
  refine r_getI rfl (fl_3_9 rfl) (Or.inl rfl) rfl hk9 ?_
  refine r_iload_n 3 rfl rfl rfl ?_
  obtain ⟨hk10, hE⟩ := ckE hE
  obtain ⟨v11, h12, hq13, hE⟩ := bdE hE
  refine r_callV1 (rest := [.int (1000000 - (hI h6 a0 4))]) (hc := (Ho_chance_ok g N _ _ _ _ _ _ _ hq13 D2 (by omega))) rfl pm_Ho_chance lw_3_95 im_Ho_chance sl_Ho_chance ha3 rfl rfl (rcOK hk10 rfl) (by simp only [List.map_cons, List.map_nil, rf_cat, cat_i, cat_l, List.sum_cons, List.sum_nil]; decide) ?_
  refine r_imul rfl ?_
  refine r_bipush 10 rfl cb_10 ?_
  obtain ⟨hc14, hE⟩ := ckE hE
  refine r_idiv rfl hc14 ?_
  refine r_istore rfl (by decide) ?_
  refine r_iload rfl rfl ?_
  refine r_iload rfl rfl ?_
  refine r_iadd rfl ?_
  refine r_if_le (tgt := 85) rfl (by decide) (fun hc15 => ?_) (fun hc15 => ?_)
  · have hE := ifP hc15 hE
    first | exact r_sb (Ni_arrive_b85_ok g N _ hD   _ _ _ _ _ hE) ⟨rfl, rfl, trivial⟩ | exact r_sb (Ni_arrive_b85_ok g N _ hD   _ _ _ _ _ hE) (by simp only [su1, su2, dr1_rf, dr1_in, dr1_lo, dr2_rf, dr2_in, dr2_lo]; exact ⟨rfl, rfl, trivial⟩)
  · have hE := ifN hc15 hE
    refine r_aload_n (t := some a0) 0 rfl rfl rfl ?_
    refine r_iload rfl rfl ?_
    refine r_i2l rfl ?_
    refine r_ldc2 rfl kc_3_100 ?_
    refine r_lmul rfl ?_
    refine r_iload rfl rfl ?_
    refine r_iload rfl rfl ?_
    refine r_iadd rfl ?_
    refine r_i2l rfl ?_
    obtain ⟨hc16, hE⟩ := ckE hE
    refine r_ldiv rfl hc16 ?_
    refine r_l2i rfl ?_
    obtain ⟨hk17, hE⟩ := ckE hE
    obtain ⟨h18, he19, hE⟩ := ltE hE
    refine r_putI rfl (fl_3_24 rfl) finF rfl hk17 he19 ?_
    first | exact r_sb (Ni_arrive_b85_ok g N _ hD   _ _ _ _ _ hE) ⟨rfl, rfl, trivial⟩ | exact r_sb (Ni_arrive_b85_ok g N _ hD   _ _ _ _ _ hE) (by simp only [su1, su2, dr1_rf, dr1_in, dr1_lo, dr2_rf, dr2_in, dr2_lo]; exact ⟨rfl, rfl, trivial⟩)
def Ni_arrive (N : Nat) (a0 : Nat) (x1 : Option Nat) (x2 : Int32) (h : PH) : Option (Unit × PH) :=
  ck ((hK h a0).1 = 3) <|
  if (bI (hZ h a0 12)) = 0 then
    Ni_arrive_b14 N  x2 a0 x1 x2 h
  else
    Ni_arrive_b14 N  (x2 - 1) a0 x1 x2 h
set_option maxRecDepth 20000 in
theorem Ni_arrive_ok (g : GT) (N : Nat) (a0 : Nat) (x1 : Option Nat) (x2 : Int32) (h : PH) (v : Unit) (h' : PH) (hE : Ni_arrive N a0 x1 x2 h = some (v, h')) (D : Nat) (hD : 2 ≤ D) : Calls g D pNi_arrive [va_rf (some a0), va_rf x1, .int x2] h (oV v) h' := by
  refine Calls.of cok_Ni_arrive ht_Ni_arrive pl_Ni_arrive (fun ad => by rw [lg_len, sL_cat]; simp only [List.map_cons, List.map_nil, rf_cat, cat_i, cat_l, List.sum_cons, List.sum_nil]; decide) ?_
  rw [show lv_args 0 [va_rf (some a0), va_rf x1, .int x2] = [(0, va_rf (some a0)), (1, va_rf x1), (2, .int x2)] from (by simp only [lv_args, rf_cat, cat_i, cat_l]; try rfl)]
  obtain ⟨D2, rfl⟩ : ∃ d, D = d + 1 := ⟨D - 1, by omega⟩
  unfold Ni_arrive at hE
  refine r_aload_n (t := some a0) 0 rfl rfl rfl ?_
  obtain ⟨hk1, hE⟩ := ckE hE
  refine r_getZ rfl (fl_3_49 rfl) rfl hk1 ?_
  refine r_if_eq (tgt := 13) rfl (by decide) (fun hc2 => ?_) (fun hc2 => ?_)
  · have hE := ifP hc2 hE
    refine r_iload_n 2 rfl rfl rfl ?_
    first | exact r_sb (Ni_arrive_b14_ok g N _ hD   _ _ _ _ _ _ _ hE) ⟨rfl, rfl, rfl, trivial⟩ | exact r_sb (Ni_arrive_b14_ok g N _ hD   _ _ _ _ _ _ _ hE) (by simp only [su1, su2, dr1_rf, dr1_in, dr1_lo, dr2_rf, dr2_in, dr2_lo]; exact ⟨rfl, rfl, rfl, trivial⟩)
  · have hE := ifN hc2 hE
    refine r_iload_n 2 rfl rfl rfl ?_
    refine r_iconst 1 rfl ci_1 ?_
    refine r_isub rfl ?_
    refine r_goto (tgt := 14) rfl (by decide) ?_
    first | exact r_sb (Ni_arrive_b14_ok g N _ hD   _ _ _ _ _ _ _ hE) ⟨rfl, rfl, rfl, trivial⟩ | exact r_sb (Ni_arrive_b14_ok g N _ hD   _ _ _ _ _ _ _ hE) (by simp only [su1, su2, dr1_rf, dr1_in, dr1_lo, dr2_rf, dr2_in, dr2_lo]; exact ⟨rfl, rfl, rfl, trivial⟩)
def Ni_canBeGiven (N : Nat) (a0 : Nat) (h : PH) : Option (Bool × PH) :=
  ck ((hK h a0).1 = 3) <|
  if (hI h a0 3) ≤ 0 then
    some (false, h)
  else
    if (bI (hZ h a0 9)) = 0 then
      some (true, h)
    else
      some (false, h)
set_option maxRecDepth 20000 in
theorem Ni_canBeGiven_ok (g : GT) (N : Nat) (a0 : Nat) (h : PH) (v : Bool) (h' : PH) (hE : Ni_canBeGiven N a0 h = some (v, h')) (D : Nat) (hD : 0 ≤ D) : Calls g D pNi_canBeGiven [va_rf (some a0)] h (oZ v) h' := by
  refine Calls.of cok_Ni_canBeGiven ht_Ni_canBeGiven pl_Ni_canBeGiven (fun ad => by rw [lg_len, sL_cat]; simp only [List.map_cons, List.map_nil, rf_cat, cat_i, cat_l, List.sum_cons, List.sum_nil]; decide) ?_
  rw [show lv_args 0 [va_rf (some a0)] = [(0, va_rf (some a0))] from (by simp only [lv_args, rf_cat, cat_i, cat_l]; try rfl)]
  unfold Ni_canBeGiven at hE
  refine r_aload_n (t := some a0) 0 rfl rfl rfl ?_
  obtain ⟨hk1, hE⟩ := ckE hE
  refine r_getI rfl (fl_3_21 rfl) (Or.inl rfl) rfl hk1 ?_
  refine r_if_le (tgt := 18) rfl (by decide) (fun hc2 => ?_) (fun hc2 => ?_)
  · have hE := ifP hc2 hE
    refine r_iconst 0 rfl ci_0 ?_
    cases hE
    exact r_ret rfl (Or.inl ⟨rfl, _, _, rfl, rfl, rfl, rfl⟩)
  · have hE := ifN hc2 hE
    refine r_aload_n (t := some a0) 0 rfl rfl rfl ?_
    refine r_getZ rfl (fl_3_40 rfl) rfl hk1 ?_
    refine r_if_ne (tgt := 18) rfl (by decide) (fun hc3 => ?_) (fun hc3 => ?_)
    · have hE := ifP hc3 hE
      refine r_iconst 1 rfl ci_1 ?_
      refine r_goto (tgt := 19) rfl (by decide) ?_
      cases hE
      exact r_ret rfl (Or.inl ⟨rfl, _, _, rfl, rfl, rfl, rfl⟩)
    · have hE := ifN hc3 hE
      refine r_iconst 0 rfl ci_0 ?_
      cases hE
      exact r_ret rfl (Or.inl ⟨rfl, _, _, rfl, rfl, rfl, rfl⟩)
def Ho_served (N : Nat) (a0 : Nat) (x1 : Int32) (x2 : Int32) (x3 : Int32) (x4 : Int32) (h : PH) : Option (Int32 × PH) :=
  if x4 = 4 then
    some ((mnI x2 x3), h)
  else
    if 0 < x4 then
      ck (¬ x4 = 0) <|
      some ((mnI x3 (((x1 + x4) - 1) / x4)), h)
    else
      some (0, h)
set_option maxRecDepth 20000 in
theorem Ho_served_ok (g : GT) (N : Nat) (a0 : Nat) (x1 : Int32) (x2 : Int32) (x3 : Int32) (x4 : Int32) (h : PH) (v : Int32) (h' : PH) (hE : Ho_served N a0 x1 x2 x3 x4 h = some (v, h')) (D : Nat) (hD : 1 ≤ D) : Calls g D pHo_served [va_rf (some a0), .int x1, .int x2, .int x3, .int x4] h (oI v) h' := by
  refine Calls.of cok_Ho_served ht_Ho_served pl_Ho_served (fun ad => by rw [lg_len, sL_cat]; simp only [List.map_cons, List.map_nil, rf_cat, cat_i, cat_l, List.sum_cons, List.sum_nil]; decide) ?_
  rw [show lv_args 0 [va_rf (some a0), .int x1, .int x2, .int x3, .int x4] = [(0, va_rf (some a0)), (1, .int x1), (2, .int x2), (3, .int x3), (4, .int x4)] from (by simp only [lv_args, rf_cat, cat_i, cat_l]; try rfl)]
  obtain ⟨D2, rfl⟩ : ∃ d, D = d + 1 := ⟨D - 1, by omega⟩
  unfold Ho_served at hE
  refine r_iload rfl rfl ?_
  refine r_iconst 4 rfl ci_4 ?_
  refine r_icmp_ne (tgt := 12) rfl (by decide) (fun hc1 => ?_) (fun hc1 => ?_)
  · have hE := ifP hc1 hE
    refine r_iload_n 2 rfl rfl rfl ?_
    refine r_iload_n 3 rfl rfl rfl ?_
    refine r_mmin rfl (gt4 127 rfl rfl) mm_min1 mm_2 mm_min3 (by decide) ?_
    cases hE
    exact r_ret rfl (Or.inl ⟨rfl, _, _, rfl, rfl, rfl, rfl⟩)
  · have hE := ifN hc1 hE
    refine r_iload rfl rfl ?_
    refine r_if_gt (tgt := 21) rfl (by decide) (fun hc2 => ?_) (fun hc2 => ?_)
    · have hE := ifP hc2 hE
      refine r_iload_n 3 rfl rfl rfl ?_
      refine r_iload_n 1 rfl rfl rfl ?_
      refine r_iload rfl rfl ?_
      refine r_iadd rfl ?_
      refine r_iconst 1 rfl ci_1 ?_
      refine r_isub rfl ?_
      refine r_iload rfl rfl ?_
      obtain ⟨hc3, hE⟩ := ckE hE
      refine r_idiv rfl hc3 ?_
      refine r_mmin rfl (gt4 127 rfl rfl) mm_min1 mm_2 mm_min3 (by decide) ?_
      cases hE
      exact r_ret rfl (Or.inl ⟨rfl, _, _, rfl, rfl, rfl, rfl⟩)
    · have hE := ifN hc2 hE
      refine r_iconst 0 rfl ci_0 ?_
      refine r_goto (tgt := 34) rfl (by decide) ?_
      cases hE
      exact r_ret rfl (Or.inl ⟨rfl, _, _, rfl, rfl, rfl, rfl⟩)
def Ho_worthOf_b81 (N : Nat) (s0 : Int32) (a0 : Nat) (x5 : Int32) (x7 : Int32) (x8 : Int32) (h : PH) : Option (Int32 × PH) :=
  ck ((hK h a0).1 = 0) <|
  bd (Le_at N (hR h a0 14) x5 h) fun v2 h3 =>
  ck ((hK h3 a0).1 = 0) <|
  bd (Le_at N (hR h3 a0 14) (x8 - (s0 * x5)) h3) fun v6 h7 =>
  some ((((s0 * v2) + v6) - x7), h7)
set_option maxRecDepth 20000 in
theorem Ho_worthOf_b81_ok (g : GT) (N : Nat) (D : Nat) (hD : 2 ≤ D) : ∀ (s0 : Int32) (a0 : Nat) (x5 : Int32) (x7 : Int32) (x8 : Int32) (h : PH) (v : Int32) (h' : PH), Ho_worthOf_b81 N s0 a0 x5 x7 x8 h = some (v, h') → Run g pHo_worthOf D 81 [(0, va_rf (some a0)), (5, .int x5), (7, .int x7), (8, .int x8)] [.int s0] h (rI v) h' := by
  obtain ⟨D2, rfl⟩ : ∃ d, D = d + 1 := ⟨D - 1, by omega⟩
  intro s0 a0 x5 x7 x8 h v h' hE
  unfold Ho_worthOf_b81 at hE
  refine r_istore rfl (by decide) ?_
  refine r_iload rfl rfl ?_
  refine r_aload_n (t := some a0) 0 rfl rfl rfl ?_
  obtain ⟨hk1, hE⟩ := ckE hE
  refine r_getR rfl (fl_0_54 rfl) (Or.inr ⟨_, rfl⟩) rfl hk1 ?_
  refine r_iload rfl rfl ?_
  obtain ⟨v2, h3, hq4, hE⟩ := bdE hE
  refine r_callSN1 (rest := [.int s0]) (hc := (Le_at_ok g N _ _ _ _ _ hq4 D2 (by omega))) rfl pm_Le_at lw_0_80 st_Le_at rfl rfl (by simp only [List.map_cons, List.map_nil, rf_cat, cat_i, cat_l, List.sum_cons, List.sum_nil]; decide) ?_
  refine r_imul rfl ?_
  refine r_aload_n (t := some a0) 0 rfl rfl rfl ?_
  obtain ⟨hk5, hE⟩ := ckE hE
  refine r_getR rfl (fl_0_54 rfl) (Or.inr ⟨_, rfl⟩) rfl hk5 ?_
  refine r_iload rfl rfl ?_
  refine r_iload rfl rfl ?_
  refine r_iload rfl rfl ?_
  refine r_imul rfl ?_
  refine r_isub rfl ?_
  obtain ⟨v6, h7, hq8, hE⟩ := bdE hE
  refine r_callSN1 (rest := [.int (s0 * v2)]) (hc := (Le_at_ok g N _ _ _ _ _ hq8 D2 (by omega))) rfl pm_Le_at lw_0_80 st_Le_at rfl rfl (by simp only [List.map_cons, List.map_nil, rf_cat, cat_i, cat_l, List.sum_cons, List.sum_nil]; decide) ?_
  refine r_iadd rfl ?_
  refine r_iload rfl rfl ?_
  refine r_isub rfl ?_
  cases hE
  exact r_ret rfl (Or.inl ⟨rfl, _, _, rfl, rfl, rfl, rfl⟩)
def Ho_worthOf_b36 (N : Nat) (s0 : Int32) (s1 : Int32) (a0 : Nat) (x2 : Int32) (x4 : Int32) (x5 : Int32) (x6 : Int32) (h : PH) : Option (Int32 × PH) :=
  if x5 = 4 then
    ck ((hK h a0).1 = 0) <|
    some (((x6 * (hI h a0 3)) - (s0 * s1)), h)
  else
    if x5 ≤ 0 then
      Ho_worthOf_b81 N  0 a0 x5 (s0 * s1) (mnI x2 (x4 * x5)) h
    else
      ck (¬ x5 = 0) <|
      Ho_worthOf_b81 N  ((mnI x2 (x4 * x5)) / x5) a0 x5 (s0 * s1) (mnI x2 (x4 * x5)) h
set_option maxRecDepth 20000 in
theorem Ho_worthOf_b36_ok (g : GT) (N : Nat) (D : Nat) (hD : 2 ≤ D) : ∀ (s0 : Int32) (s1 : Int32) (a0 : Nat) (x2 : Int32) (x4 : Int32) (x5 : Int32) (x6 : Int32) (h : PH) (v : Int32) (h' : PH), Ho_worthOf_b36 N s0 s1 a0 x2 x4 x5 x6 h = some (v, h') → Run g pHo_worthOf D 36 [(0, va_rf (some a0)), (2, .int x2), (4, .int x4), (5, .int x5), (6, .int x6)] [.int s1, .int s0] h (rI v) h' := by
  obtain ⟨D2, rfl⟩ : ∃ d, D = d + 1 := ⟨D - 1, by omega⟩
  intro s0 s1 a0 x2 x4 x5 x6 h v h' hE
  unfold Ho_worthOf_b36 at hE
  refine r_imul rfl ?_
  refine r_istore rfl (by decide) ?_
  refine r_iload rfl rfl ?_
  refine r_iconst 4 rfl ci_4 ?_
  refine r_icmp_ne (tgt := 56) rfl (by decide) (fun hc1 => ?_) (fun hc1 => ?_)
  · have hE := ifP hc1 hE
    refine r_iload rfl rfl ?_
    refine r_aload_n (t := some a0) 0 rfl rfl rfl ?_
    obtain ⟨hk2, hE⟩ := ckE hE
    refine r_getI rfl (fl_0_21 rfl) (Or.inl rfl) rfl hk2 ?_
    refine r_imul rfl ?_
    refine r_iload rfl rfl ?_
    refine r_isub rfl ?_
    cases hE
    exact r_ret rfl (Or.inl ⟨rfl, _, _, rfl, rfl, rfl, rfl⟩)
  · have hE := ifN hc1 hE
    refine r_iload_n 2 rfl rfl rfl ?_
    refine r_iload rfl rfl ?_
    refine r_iload rfl rfl ?_
    refine r_imul rfl ?_
    refine r_mmin rfl (gt4 127 rfl rfl) mm_min1 mm_2 mm_min3 (by decide) ?_
    refine r_istore rfl (by decide) ?_
    refine r_iload rfl rfl ?_
    refine r_if_le (tgt := 80) rfl (by decide) (fun hc3 => ?_) (fun hc3 => ?_)
    · have hE := ifP hc3 hE
      refine r_iconst 0 rfl ci_0 ?_
      first | exact r_sb (Ho_worthOf_b81_ok g N _ hD   _ _ _ _ _ _ _ _ hE) ⟨rfl, rfl, rfl, rfl, trivial⟩ | exact r_sb (Ho_worthOf_b81_ok g N _ hD   _ _ _ _ _ _ _ _ hE) (by simp only [su1, su2, dr1_rf, dr1_in, dr1_lo, dr2_rf, dr2_in, dr2_lo]; exact ⟨rfl, rfl, rfl, rfl, trivial⟩)
    · have hE := ifN hc3 hE
      refine r_iload rfl rfl ?_
      refine r_iload rfl rfl ?_
      obtain ⟨hc4, hE⟩ := ckE hE
      refine r_idiv rfl hc4 ?_
      refine r_goto (tgt := 81) rfl (by decide) ?_
      first | exact r_sb (Ho_worthOf_b81_ok g N _ hD   _ _ _ _ _ _ _ _ hE) ⟨rfl, rfl, rfl, rfl, trivial⟩ | exact r_sb (Ho_worthOf_b81_ok g N _ hD   _ _ _ _ _ _ _ _ hE) (by simp only [su1, su2, dr1_rf, dr1_in, dr1_lo, dr2_rf, dr2_in, dr2_lo]; exact ⟨rfl, rfl, rfl, rfl, trivial⟩)
def Ho_worthOf (N : Nat) (a0 : Nat) (x1 : Int32) (x2 : Int32) (x3 : Int32) (x4 : Int32) (x5 : Int32) (h : PH) : Option (Int32 × PH) :=
  ck ((hK h a0).1 = 0) <|
  bd (Ho_served N a0 x2 x3 x4 x5 h) fun v2 h3 =>
  ck ((hK h3 a0).1 = 0) <|
  if x1 < (hI h3 a0 7) then
    Ho_worthOf_b36 N  (x4 - v2) (hI h3 a0 5) a0 x2 x4 x5 v2 h3
  else
    Ho_worthOf_b36 N  (x4 - v2) (hI h3 a0 6) a0 x2 x4 x5 v2 h3
set_option maxRecDepth 20000 in
theorem Ho_worthOf_ok (g : GT) (N : Nat) (a0 : Nat) (x1 : Int32) (x2 : Int32) (x3 : Int32) (x4 : Int32) (x5 : Int32) (h : PH) (v : Int32) (h' : PH) (hE : Ho_worthOf N a0 x1 x2 x3 x4 x5 h = some (v, h')) (D : Nat) (hD : 2 ≤ D) : Calls g D pHo_worthOf [va_rf (some a0), .int x1, .int x2, .int x3, .int x4, .int x5] h (oI v) h' := by
  refine Calls.of cok_Ho_worthOf ht_Ho_worthOf pl_Ho_worthOf (fun ad => by rw [lg_len, sL_cat]; simp only [List.map_cons, List.map_nil, rf_cat, cat_i, cat_l, List.sum_cons, List.sum_nil]; decide) ?_
  rw [show lv_args 0 [va_rf (some a0), .int x1, .int x2, .int x3, .int x4, .int x5] = [(0, va_rf (some a0)), (1, .int x1), (2, .int x2), (3, .int x3), (4, .int x4), (5, .int x5)] from (by simp only [lv_args, rf_cat, cat_i, cat_l]; try rfl)]
  obtain ⟨D2, rfl⟩ : ∃ d, D = d + 1 := ⟨D - 1, by omega⟩
  unfold Ho_worthOf at hE
  refine r_aload_n (t := some a0) 0 rfl rfl rfl ?_
  refine r_iload_n 2 rfl rfl rfl ?_
  refine r_iload_n 3 rfl rfl rfl ?_
  refine r_iload rfl rfl ?_
  refine r_iload rfl rfl ?_
  obtain ⟨hk1, hE⟩ := ckE hE
  obtain ⟨v2, h3, hq4, hE⟩ := bdE hE
  refine r_callV1 (rest := []) (hc := (Ho_served_ok g N _ _ _ _ _ _ _ _ hq4 D2 (by omega))) rfl pm_Ho_served lw_0_94 im_Ho_served sl_Ho_served rfl rfl rfl (rcOK hk1 rfl) (by decide) ?_
  refine r_istore rfl (by decide) ?_
  refine r_iload rfl rfl ?_
  refine r_iload rfl rfl ?_
  refine r_isub rfl ?_
  refine r_iload_n 1 rfl rfl rfl ?_
  refine r_aload_n (t := some a0) 0 rfl rfl rfl ?_
  obtain ⟨hk5, hE⟩ := ckE hE
  refine r_getI rfl (fl_0_33 rfl) (Or.inl rfl) rfl hk5 ?_
  refine r_icmp_lt (tgt := 32) rfl (by decide) (fun hc6 => ?_) (fun hc6 => ?_)
  · have hE := ifP hc6 hE
    refine r_aload_n (t := some a0) 0 rfl rfl rfl ?_
    refine r_getI rfl (fl_0_27 rfl) (Or.inl rfl) rfl hk5 ?_
    first | exact r_sb (Ho_worthOf_b36_ok g N _ hD   _ _ _ _ _ _ _ _ _ _ hE) ⟨rfl, rfl, rfl, rfl, rfl, trivial⟩ | exact r_sb (Ho_worthOf_b36_ok g N _ hD   _ _ _ _ _ _ _ _ _ _ hE) (by simp only [su1, su2, dr1_rf, dr1_in, dr1_lo, dr2_rf, dr2_in, dr2_lo]; exact ⟨rfl, rfl, rfl, rfl, rfl, trivial⟩)
  · have hE := ifN hc6 hE
    refine r_aload_n (t := some a0) 0 rfl rfl rfl ?_
    refine r_getI rfl (fl_0_30 rfl) (Or.inl rfl) rfl hk5 ?_
    refine r_goto (tgt := 36) rfl (by decide) ?_
    first | exact r_sb (Ho_worthOf_b36_ok g N _ hD   _ _ _ _ _ _ _ _ _ _ hE) ⟨rfl, rfl, rfl, rfl, rfl, trivial⟩ | exact r_sb (Ho_worthOf_b36_ok g N _ hD   _ _ _ _ _ _ _ _ _ _ hE) (by simp only [su1, su2, dr1_rf, dr1_in, dr1_lo, dr2_rf, dr2_in, dr2_lo]; exact ⟨rfl, rfl, rfl, rfl, rfl, trivial⟩)
def Ho_toffeesTaken (N : Nat) (a0 : Nat) (x1 : Int32) (x2 : Int32) (x3 : Int32) (h : PH) : Option (Int32 × PH) :=
  if x3 = 4 then
    some (0, h)
  else
    some ((mnI x1 (x2 * x3)), h)
set_option maxRecDepth 20000 in
theorem Ho_toffeesTaken_ok (g : GT) (N : Nat) (a0 : Nat) (x1 : Int32) (x2 : Int32) (x3 : Int32) (h : PH) (v : Int32) (h' : PH) (hE : Ho_toffeesTaken N a0 x1 x2 x3 h = some (v, h')) (D : Nat) (hD : 1 ≤ D) : Calls g D pHo_toffeesTaken [va_rf (some a0), .int x1, .int x2, .int x3] h (oI v) h' := by
  refine Calls.of cok_Ho_toffeesTaken ht_Ho_toffeesTaken pl_Ho_toffeesTaken (fun ad => by rw [lg_len, sL_cat]; simp only [List.map_cons, List.map_nil, rf_cat, cat_i, cat_l, List.sum_cons, List.sum_nil]; decide) ?_
  rw [show lv_args 0 [va_rf (some a0), .int x1, .int x2, .int x3] = [(0, va_rf (some a0)), (1, .int x1), (2, .int x2), (3, .int x3)] from (by simp only [lv_args, rf_cat, cat_i, cat_l]; try rfl)]
  obtain ⟨D2, rfl⟩ : ∃ d, D = d + 1 := ⟨D - 1, by omega⟩
  unfold Ho_toffeesTaken at hE
  refine r_iload_n 3 rfl rfl rfl ?_
  refine r_iconst 4 rfl ci_4 ?_
  refine r_icmp_ne (tgt := 9) rfl (by decide) (fun hc1 => ?_) (fun hc1 => ?_)
  · have hE := ifP hc1 hE
    refine r_iconst 0 rfl ci_0 ?_
    refine r_goto (tgt := 16) rfl (by decide) ?_
    cases hE
    exact r_ret rfl (Or.inl ⟨rfl, _, _, rfl, rfl, rfl, rfl⟩)
  · have hE := ifN hc1 hE
    refine r_iload_n 1 rfl rfl rfl ?_
    refine r_iload_n 2 rfl rfl rfl ?_
    refine r_iload_n 3 rfl rfl rfl ?_
    refine r_imul rfl ?_
    refine r_mmin rfl (gt4 127 rfl rfl) mm_min1 mm_2 mm_min3 (by decide) ?_
    cases hE
    exact r_ret rfl (Or.inl ⟨rfl, _, _, rfl, rfl, rfl, rfl⟩)
def Ho_applesTaken (N : Nat) (a0 : Nat) (x1 : Int32) (x2 : Int32) (x3 : Int32) (h : PH) : Option (Int32 × PH) :=
  if x3 = 4 then
    some ((mnI x1 x2), h)
  else
    some (0, h)
set_option maxRecDepth 20000 in
theorem Ho_applesTaken_ok (g : GT) (N : Nat) (a0 : Nat) (x1 : Int32) (x2 : Int32) (x3 : Int32) (h : PH) (v : Int32) (h' : PH) (hE : Ho_applesTaken N a0 x1 x2 x3 h = some (v, h')) (D : Nat) (hD : 1 ≤ D) : Calls g D pHo_applesTaken [va_rf (some a0), .int x1, .int x2, .int x3] h (oI v) h' := by
  refine Calls.of cok_Ho_applesTaken ht_Ho_applesTaken pl_Ho_applesTaken (fun ad => by rw [lg_len, sL_cat]; simp only [List.map_cons, List.map_nil, rf_cat, cat_i, cat_l, List.sum_cons, List.sum_nil]; decide) ?_
  rw [show lv_args 0 [va_rf (some a0), .int x1, .int x2, .int x3] = [(0, va_rf (some a0)), (1, .int x1), (2, .int x2), (3, .int x3)] from (by simp only [lv_args, rf_cat, cat_i, cat_l]; try rfl)]
  obtain ⟨D2, rfl⟩ : ∃ d, D = d + 1 := ⟨D - 1, by omega⟩
  unfold Ho_applesTaken at hE
  refine r_iload_n 3 rfl rfl rfl ?_
  refine r_iconst 4 rfl ci_4 ?_
  refine r_icmp_ne (tgt := 13) rfl (by decide) (fun hc1 => ?_) (fun hc1 => ?_)
  · have hE := ifP hc1 hE
    refine r_iload_n 1 rfl rfl rfl ?_
    refine r_iload_n 2 rfl rfl rfl ?_
    refine r_mmin rfl (gt4 127 rfl rfl) mm_min1 mm_2 mm_min3 (by decide) ?_
    refine r_goto (tgt := 14) rfl (by decide) ?_
    cases hE
    exact r_ret rfl (Or.inl ⟨rfl, _, _, rfl, rfl, rfl, rfl⟩)
  · have hE := ifN hc1 hE
    refine r_iconst 0 rfl ci_0 ?_
    cases hE
    exact r_ret rfl (Or.inl ⟨rfl, _, _, rfl, rfl, rfl, rfl⟩)
def Ho_spreads (N : Nat) (a0 : Nat) (x1 : Int32) (x2 : Int32) (h : PH) : Option (Bool × PH) :=
  ck ((hK h a0).1 = 0) <|
  if (hI h a0 8) ≤ 0 then
    some (false, h)
  else
    if x1 ≤ 0 then
      some (false, h)
    else
      if x2 < (hI h a0 8) then
        some (false, h)
      else
        if 4 ≤ x2 then
          some (false, h)
        else
          some (true, h)
set_option maxRecDepth 20000 in
theorem Ho_spreads_ok (g : GT) (N : Nat) (a0 : Nat) (x1 : Int32) (x2 : Int32) (h : PH) (v : Bool) (h' : PH) (hE : Ho_spreads N a0 x1 x2 h = some (v, h')) (D : Nat) (hD : 0 ≤ D) : Calls g D pHo_spreads [va_rf (some a0), .int x1, .int x2] h (oZ v) h' := by
  refine Calls.of cok_Ho_spreads ht_Ho_spreads pl_Ho_spreads (fun ad => by rw [lg_len, sL_cat]; simp only [List.map_cons, List.map_nil, rf_cat, cat_i, cat_l, List.sum_cons, List.sum_nil]; decide) ?_
  rw [show lv_args 0 [va_rf (some a0), .int x1, .int x2] = [(0, va_rf (some a0)), (1, .int x1), (2, .int x2)] from (by simp only [lv_args, rf_cat, cat_i, cat_l]; try rfl)]
  unfold Ho_spreads at hE
  refine r_aload_n (t := some a0) 0 rfl rfl rfl ?_
  obtain ⟨hk1, hE⟩ := ckE hE
  refine r_getI rfl (fl_0_36 rfl) (Or.inl rfl) rfl hk1 ?_
  refine r_if_le (tgt := 28) rfl (by decide) (fun hc2 => ?_) (fun hc2 => ?_)
  · have hE := ifP hc2 hE
    refine r_iconst 0 rfl ci_0 ?_
    cases hE
    exact r_ret rfl (Or.inl ⟨rfl, _, _, rfl, rfl, rfl, rfl⟩)
  · have hE := ifN hc2 hE
    refine r_iload_n 1 rfl rfl rfl ?_
    refine r_if_le (tgt := 28) rfl (by decide) (fun hc3 => ?_) (fun hc3 => ?_)
    · have hE := ifP hc3 hE
      refine r_iconst 0 rfl ci_0 ?_
      cases hE
      exact r_ret rfl (Or.inl ⟨rfl, _, _, rfl, rfl, rfl, rfl⟩)
    · have hE := ifN hc3 hE
      refine r_iload_n 2 rfl rfl rfl ?_
      refine r_aload_n (t := some a0) 0 rfl rfl rfl ?_
      refine r_getI rfl (fl_0_36 rfl) (Or.inl rfl) rfl hk1 ?_
      refine r_icmp_lt (tgt := 28) rfl (by decide) (fun hc4 => ?_) (fun hc4 => ?_)
      · have hE := ifP hc4 hE
        refine r_iconst 0 rfl ci_0 ?_
        cases hE
        exact r_ret rfl (Or.inl ⟨rfl, _, _, rfl, rfl, rfl, rfl⟩)
      · have hE := ifN hc4 hE
        refine r_iload_n 2 rfl rfl rfl ?_
        refine r_iconst 4 rfl ci_4 ?_
        refine r_icmp_ge (tgt := 28) rfl (by decide) (fun hc5 => ?_) (fun hc5 => ?_)
        · have hE := ifP hc5 hE
          refine r_iconst 0 rfl ci_0 ?_
          cases hE
          exact r_ret rfl (Or.inl ⟨rfl, _, _, rfl, rfl, rfl, rfl⟩)
        · have hE := ifN hc5 hE
          refine r_iconst 1 rfl ci_1 ?_
          refine r_goto (tgt := 29) rfl (by decide) ?_
          cases hE
          exact r_ret rfl (Or.inl ⟨rfl, _, _, rfl, rfl, rfl, rfl⟩)
def Ni_hand (N : Nat) (a0 : Nat) (x1 : Option Nat) (x2 : Int32) (h : PH) : Option (Int32 × PH) :=
  ck ((hK h a0).1 = 3) <|
  (x1).bind fun a_2 =>
  ck ((hK h a_2).1 = 0) <|
  bd (Ho_worthOf N a_2 (hI h a0 0) (hI h a0 1) (hI h a0 2) (hI h a0 3) x2 h) fun v5 h6 =>
  ck ((hK h6 a0).1 = 3) <|
  ck ((hK h6 a_2).1 = 0) <|
  bd (Ho_served N a_2 (hI h6 a0 1) (hI h6 a0 2) (hI h6 a0 3) x2 h6) fun v10 h11 =>
  ck ((hK h11 a0).1 = 3) <|
  lt0 (wI h11 a0 7 ((hI h6 a0 7) + ((hI h6 a0 3) - v10))) fun h14 =>
  ck ((hK h14 a_2).1 = 0) <|
  bd (Ho_toffeesTaken N a_2 (hI h14 a0 1) (hI h14 a0 3) x2 h14) fun v17 h18 =>
  ck ((hK h18 a0).1 = 3) <|
  lt0 (wI h18 a0 1 ((hI h14 a0 1) - v17)) fun h21 =>
  ck ((hK h21 a_2).1 = 0) <|
  bd (Ho_applesTaken N a_2 (hI h21 a0 2) (hI h21 a0 3) x2 h21) fun v24 h25 =>
  ck ((hK h25 a0).1 = 3) <|
  lt0 (wI h25 a0 2 ((hI h21 a0 2) - v24)) fun h28 =>
  ck ((hK h28 a_2).1 = 0) <|
  bd (Ho_spreads N a_2 (hI h28 a0 3) x2 h28) fun v31 h32 =>
  ck ((hK h32 a0).1 = 3) <|
  lt0 (wZ h32 a0 13 (tb (bI v31))) fun h35 =>
  lt0 (wI h35 a0 5 ((hI h35 a0 5) + v5)) fun h37 =>
  lt0 (wZ h37 a0 9 (tb 1)) fun h39 =>
  some (v5, h39)
set_option maxRecDepth 20000 in
theorem Ni_hand_ok (g : GT) (N : Nat) (a0 : Nat) (x1 : Option Nat) (x2 : Int32) (h : PH) (v : Int32) (h' : PH) (hE : Ni_hand N a0 x1 x2 h = some (v, h')) (D : Nat) (hD : 3 ≤ D) : Calls g D pNi_hand [va_rf (some a0), va_rf x1, .int x2] h (oI v) h' := by
  refine Calls.of cok_Ni_hand ht_Ni_hand pl_Ni_hand (fun ad => by rw [lg_len, sL_cat]; simp only [List.map_cons, List.map_nil, rf_cat, cat_i, cat_l, List.sum_cons, List.sum_nil]; decide) ?_
  rw [show lv_args 0 [va_rf (some a0), va_rf x1, .int x2] = [(0, va_rf (some a0)), (1, va_rf x1), (2, .int x2)] from (by simp only [lv_args, rf_cat, cat_i, cat_l]; try rfl)]
  obtain ⟨D2, rfl⟩ : ∃ d, D = d + 1 := ⟨D - 1, by omega⟩
  unfold Ni_hand at hE
  refine r_aload_n (t := x1) 1 rfl rfl rfl ?_
  refine r_aload_n (t := some a0) 0 rfl rfl rfl ?_
  obtain ⟨hk1, hE⟩ := ckE hE
  refine r_getI rfl (fl_3_9 rfl) (Or.inl rfl) rfl hk1 ?_
  refine r_aload_n (t := some a0) 0 rfl rfl rfl ?_
  refine r_getI rfl (fl_3_15 rfl) (Or.inl rfl) rfl hk1 ?_
  refine r_aload_n (t := some a0) 0 rfl rfl rfl ?_
  refine r_getI rfl (fl_3_18 rfl) (Or.inl rfl) rfl hk1 ?_
  refine r_aload_n (t := some a0) 0 rfl rfl rfl ?_
  refine r_getI rfl (fl_3_21 rfl) (Or.inl rfl) rfl hk1 ?_
  refine r_iload_n 2 rfl rfl rfl ?_
  obtain ⟨a_2, ha3, hE⟩ := bnE hE
  obtain ⟨hk4, hE⟩ := ckE hE
  obtain ⟨v5, h6, hq7, hE⟩ := bdE hE
  refine r_callV1 (rest := []) (hc := (Ho_worthOf_ok g N _ _ _ _ _ _ _ _ _ hq7 D2 (by omega))) rfl pm_Ho_worthOf lw_3_102 im_Ho_worthOf sl_Ho_worthOf ha3 rfl rfl (rcOK hk4 rfl) (by decide) ?_
  refine r_istore_n 3 rfl rfl (by decide) ?_
  refine r_aload_n (t := some a0) 0 rfl rfl rfl ?_
  refine r_dup rfl (rf_cat _) ?_
  obtain ⟨hk8, hE⟩ := ckE hE
  refine r_getI rfl (fl_3_33 rfl) (Or.inl rfl) rfl hk8 ?_
  refine r_aload_n (t := some a0) 0 rfl rfl rfl ?_
  refine r_getI rfl (fl_3_21 rfl) (Or.inl rfl) rfl hk8 ?_
  refine r_aload_n (t := x1) 1 rfl rfl rfl ?_
  refine r_aload_n (t := some a0) 0 rfl rfl rfl ?_
  refine r_getI rfl (fl_3_15 rfl) (Or.inl rfl) rfl hk8 ?_
  refine r_aload_n (t := some a0) 0 rfl rfl rfl ?_
  refine r_getI rfl (fl_3_18 rfl) (Or.inl rfl) rfl hk8 ?_
  refine r_aload_n (t := some a0) 0 rfl rfl rfl ?_
  refine r_getI rfl (fl_3_21 rfl) (Or.inl rfl) rfl hk8 ?_
  refine r_iload_n 2 rfl rfl rfl ?_
  obtain ⟨hk9, hE⟩ := ckE hE
  obtain ⟨v10, h11, hq12, hE⟩ := bdE hE
  refine r_callV1 (rest := [.int (hI h6 a0 3), .int (hI h6 a0 7), va_rf (some a0)]) (hc := (Ho_served_ok g N _ _ _ _ _ _ _ _ hq12 D2 (by omega))) rfl pm_Ho_served lw_3_106 im_Ho_served sl_Ho_served ha3 rfl rfl (rcOK hk9 rfl) (by simp only [List.map_cons, List.map_nil, rf_cat, cat_i, cat_l, List.sum_cons, List.sum_nil]; decide) ?_
  refine r_isub rfl ?_
  refine r_iadd rfl ?_
  obtain ⟨hk13, hE⟩ := ckE hE
  obtain ⟨h14, he15, hE⟩ := ltE hE
  refine r_putI rfl (fl_3_33 rfl) finF rfl hk13 he15 ?_
  refine r_aload_n (t := some a0) 0 rfl rfl rfl ?_
  refine r_dup rfl (rf_cat _) ?_
  refine r_getI rfl (fl_3_15 rfl) (Or.inl rfl) rfl (kwI he15 hk13) ?_
  refine r_aload_n (t := x1) 1 rfl rfl rfl ?_
  refine r_aload_n (t := some a0) 0 rfl rfl rfl ?_
  refine r_getI rfl (fl_3_15 rfl) (Or.inl rfl) rfl (kwI he15 hk13) ?_
  refine r_aload_n (t := some a0) 0 rfl rfl rfl ?_
  refine r_getI rfl (fl_3_21 rfl) (Or.inl rfl) rfl (kwI he15 hk13) ?_
  refine r_iload_n 2 rfl rfl rfl ?_
  obtain ⟨hk16, hE⟩ := ckE hE
  obtain ⟨v17, h18, hq19, hE⟩ := bdE hE
  refine r_callV1 (rest := [.int (hI h14 a0 1), va_rf (some a0)]) (hc := (Ho_toffeesTaken_ok g N _ _ _ _ _ _ _ hq19 D2 (by omega))) rfl pm_Ho_toffeesTaken lw_3_110 im_Ho_toffeesTaken sl_Ho_toffeesTaken ha3 rfl rfl (rcOK hk16 rfl) (by simp only [List.map_cons, List.map_nil, rf_cat, cat_i, cat_l, List.sum_cons, List.sum_nil]; decide) ?_
  refine r_isub rfl ?_
  obtain ⟨hk20, hE⟩ := ckE hE
  obtain ⟨h21, he22, hE⟩ := ltE hE
  refine r_putI rfl (fl_3_15 rfl) finF rfl hk20 he22 ?_
  refine r_aload_n (t := some a0) 0 rfl rfl rfl ?_
  refine r_dup rfl (rf_cat _) ?_
  refine r_getI rfl (fl_3_18 rfl) (Or.inl rfl) rfl (kwI he22 hk20) ?_
  refine r_aload_n (t := x1) 1 rfl rfl rfl ?_
  refine r_aload_n (t := some a0) 0 rfl rfl rfl ?_
  refine r_getI rfl (fl_3_18 rfl) (Or.inl rfl) rfl (kwI he22 hk20) ?_
  refine r_aload_n (t := some a0) 0 rfl rfl rfl ?_
  refine r_getI rfl (fl_3_21 rfl) (Or.inl rfl) rfl (kwI he22 hk20) ?_
  refine r_iload_n 2 rfl rfl rfl ?_
  obtain ⟨hk23, hE⟩ := ckE hE
  obtain ⟨v24, h25, hq26, hE⟩ := bdE hE
  refine r_callV1 (rest := [.int (hI h21 a0 2), va_rf (some a0)]) (hc := (Ho_applesTaken_ok g N _ _ _ _ _ _ _ hq26 D2 (by omega))) rfl pm_Ho_applesTaken lw_3_114 im_Ho_applesTaken sl_Ho_applesTaken ha3 rfl rfl (rcOK hk23 rfl) (by simp only [List.map_cons, List.map_nil, rf_cat, cat_i, cat_l, List.sum_cons, List.sum_nil]; decide) ?_
  refine r_isub rfl ?_
  obtain ⟨hk27, hE⟩ := ckE hE
  obtain ⟨h28, he29, hE⟩ := ltE hE
  refine r_putI rfl (fl_3_18 rfl) finF rfl hk27 he29 ?_
  refine r_aload_n (t := some a0) 0 rfl rfl rfl ?_
  refine r_aload_n (t := x1) 1 rfl rfl rfl ?_
  refine r_aload_n (t := some a0) 0 rfl rfl rfl ?_
  refine r_getI rfl (fl_3_21 rfl) (Or.inl rfl) rfl (kwI he29 hk27) ?_
  refine r_iload_n 2 rfl rfl rfl ?_
  obtain ⟨hk30, hE⟩ := ckE hE
  obtain ⟨v31, h32, hq33, hE⟩ := bdE hE
  refine r_callV1 (rest := [va_rf (some a0)]) (hc := (Ho_spreads_ok g N _ _ _ _ _ _ hq33 D2 (by omega))) rfl pm_Ho_spreads lw_3_117 im_Ho_spreads sl_Ho_spreads ha3 rfl rfl (rcOK hk30 rfl) (by simp only [List.map_cons, List.map_nil, rf_cat, cat_i, cat_l, List.sum_cons, List.sum_nil]; decide) ?_
  obtain ⟨hk34, hE⟩ := ckE hE
  obtain ⟨h35, he36, hE⟩ := ltE hE
  refine r_putZ rfl (fl_3_52 rfl) finF rfl hk34 (isB_bI _) he36 ?_
  refine r_aload_n (t := some a0) 0 rfl rfl rfl ?_
  refine r_dup rfl (rf_cat _) ?_
  refine r_getI rfl (fl_3_27 rfl) (Or.inl rfl) rfl (kwZ he36 hk34) ?_
  refine r_iload_n 3 rfl rfl rfl ?_
  refine r_iadd rfl ?_
  obtain ⟨h37, he38, hE⟩ := ltE hE
  refine r_putI rfl (fl_3_27 rfl) finF rfl (kwZ he36 hk34) he38 ?_
  refine r_aload_n (t := some a0) 0 rfl rfl rfl ?_
  refine r_iconst 1 rfl ci_1 ?_
  obtain ⟨h39, he40, hE⟩ := ltE hE
  refine r_putZ rfl (fl_3_40 rfl) finF rfl (kwI he38 (kwZ he36 hk34)) rfl he40 ?_
  refine r_iload_n 3 rfl rfl rfl ?_
  cases hE
  exact r_ret rfl (Or.inl ⟨rfl, _, _, rfl, rfl, rfl, rfl⟩)
def Ni_pass_b72 (N : Nat) (s0 : Nat) (s1 : Int32) (a0 : Nat) (x1 : Option Nat) (h : PH) : Option (Unit × PH) :=
  ck ((hK h s0).1 = 3) <|
  ck (isB s1 = true) <|
  lt0 (wZ h s0 11 (tb s1)) fun h3 =>
  ck ((hK h3 a0).1 = 3) <|
  lt0 (wZ h3 a0 12 (tb (bI (hZ h3 a0 13)))) fun h6 =>
  lt0 (wZ h6 a0 13 (tb 0)) fun h8 =>
  bd (Ni_isOver N a0 x1 h8) fun v10 h11 =>
  if (bI v10) = 0 then
    some ((), h11)
  else
    ck ((hK h11 a0).1 = 3) <|
    (x1).bind fun a_15 =>
    ck ((hK h11 a_15).1 = 0) <|
    lt0 (wI h11 a0 5 ((hI h11 a0 5) - ((hI h11 a_15 4) * (hI h11 a0 1)))) fun h18 =>
    some ((), h18)
set_option maxRecDepth 20000 in
theorem Ni_pass_b72_ok (g : GT) (N : Nat) (D : Nat) (hD : 4 ≤ D) : ∀ (s0 : Nat) (s1 : Int32) (a0 : Nat) (x1 : Option Nat) (h : PH) (v : Unit) (h' : PH), Ni_pass_b72 N s0 s1 a0 x1 h = some (v, h') → Run g pNi_pass D 72 [(0, va_rf (some a0)), (1, va_rf x1)] [.int s1, va_rf (some s0)] h (rV v) h' := by
  obtain ⟨D2, rfl⟩ : ∃ d, D = d + 1 := ⟨D - 1, by omega⟩
  intro s0 s1 a0 x1 h v h' hE
  unfold Ni_pass_b72 at hE
  obtain ⟨hk1, hE⟩ := ckE hE
  obtain ⟨hc2, hE⟩ := ckE hE
  obtain ⟨h3, he4, hE⟩ := ltE hE
  refine r_putZ rfl (fl_3_46 rfl) finF rfl hk1 hc2 he4 ?_
  refine r_aload_n (t := some a0) 0 rfl rfl rfl ?_
  refine r_aload_n (t := some a0) 0 rfl rfl rfl ?_
  obtain ⟨hk5, hE⟩ := ckE hE
  refine r_getZ rfl (fl_3_52 rfl) rfl hk5 ?_
  obtain ⟨h6, he7, hE⟩ := ltE hE
  refine r_putZ rfl (fl_3_49 rfl) finF rfl hk5 (isB_bI _) he7 ?_
  refine r_aload_n (t := some a0) 0 rfl rfl rfl ?_
  refine r_iconst 0 rfl ci_0 ?_
  obtain ⟨h8, he9, hE⟩ := ltE hE
  refine r_putZ rfl (fl_3_52 rfl) finF rfl (kwZ he7 hk5) rfl he9 ?_
  refine r_aload_n (t := some a0) 0 rfl rfl rfl ?_
  refine r_aload_n (t := x1) 1 rfl rfl rfl ?_
  obtain ⟨v10, h11, hq12, hE⟩ := bdE hE
  refine r_callV1 (rest := []) (hc := (Ni_isOver_ok g N _ _ _ _ _ hq12 D2 (by omega))) rfl pm_Ni_isOver lw_3_68 im_Ni_isOver sl_Ni_isOver rfl rfl rfl (rcOK (kwZ he9 (kwZ he7 hk5)) rfl) (by decide) ?_
  refine r_if_eq (tgt := 114) rfl (by decide) (fun hc13 => ?_) (fun hc13 => ?_)
  · have hE := ifP hc13 hE
    cases hE
    exact r_ret rfl (Or.inr (Or.inr (Or.inr ⟨rfl, rfl, rfl, rfl⟩)))
  · have hE := ifN hc13 hE
    refine r_aload_n (t := some a0) 0 rfl rfl rfl ?_
    refine r_dup rfl (rf_cat _) ?_
    obtain ⟨hk14, hE⟩ := ckE hE
    refine r_getI rfl (fl_3_27 rfl) (Or.inl rfl) rfl hk14 ?_
    refine r_aload_n (t := x1) 1 rfl rfl rfl ?_
    obtain ⟨a_15, ha16, hE⟩ := bnE hE
    obtain ⟨hk17, hE⟩ := ckE hE
    refine r_getI rfl (fl_3_124 rfl) (Or.inl rfl) ha16 hk17 ?_
    refine r_aload_n (t := some a0) 0 rfl rfl rfl ?_
    refine r_getI rfl (fl_3_15 rfl) (Or.inl rfl) rfl hk14 ?_
    refine r_imul rfl ?_
    refine r_isub rfl ?_
    obtain ⟨h18, he19, hE⟩ := ltE hE
    refine r_putI rfl (fl_3_27 rfl) finF rfl hk14 he19 ?_
    cases hE
    exact r_ret rfl (Or.inr (Or.inr (Or.inr ⟨rfl, rfl, rfl, rfl⟩)))
def Ni_pass_b34 (N : Nat) (a0 : Nat) (x1 : Option Nat) (h : PH) : Option (Unit × PH) :=
  ck ((hK h a0).1 = 3) <|
  lt0 (wI h a0 0 ((hI h a0 0) + 1)) fun h2 =>
  lt0 (wI h2 a0 3 0) fun h4 =>
  lt0 (wZ h4 a0 8 (tb 0)) fun h6 =>
  lt0 (wZ h6 a0 9 (tb 0)) fun h8 =>
  if (bI (hZ h8 a0 10)) = 0 then
    Ni_pass_b72 N  a0 1 a0 x1 h8
  else
    Ni_pass_b72 N  a0 0 a0 x1 h8
set_option maxRecDepth 20000 in
theorem Ni_pass_b34_ok (g : GT) (N : Nat) (D : Nat) (hD : 4 ≤ D) : ∀ (a0 : Nat) (x1 : Option Nat) (h : PH) (v : Unit) (h' : PH), Ni_pass_b34 N a0 x1 h = some (v, h') → Run g pNi_pass D 34 [(0, va_rf (some a0)), (1, va_rf x1)] [] h (rV v) h' := by
  obtain ⟨D2, rfl⟩ : ∃ d, D = d + 1 := ⟨D - 1, by omega⟩
  intro a0 x1 h v h' hE
  unfold Ni_pass_b34 at hE
  refine r_aload_n (t := some a0) 0 rfl rfl rfl ?_
  refine r_dup rfl (rf_cat _) ?_
  obtain ⟨hk1, hE⟩ := ckE hE
  refine r_getI rfl (fl_3_9 rfl) (Or.inl rfl) rfl hk1 ?_
  refine r_iconst 1 rfl ci_1 ?_
  refine r_iadd rfl ?_
  obtain ⟨h2, he3, hE⟩ := ltE hE
  refine r_putI rfl (fl_3_9 rfl) finF rfl hk1 he3 ?_
  refine r_aload_n (t := some a0) 0 rfl rfl rfl ?_
  refine r_iconst 0 rfl ci_0 ?_
  obtain ⟨h4, he5, hE⟩ := ltE hE
  refine r_putI rfl (fl_3_21 rfl) finF rfl (kwI he3 hk1) he5 ?_
  refine r_aload_n (t := some a0) 0 rfl rfl rfl ?_
  refine r_iconst 0 rfl ci_0 ?_
  obtain ⟨h6, he7, hE⟩ := ltE hE
  refine r_putZ rfl (fl_3_36 rfl) finF rfl (kwI he5 (kwI he3 hk1)) rfl he7 ?_
  refine r_aload_n (t := some a0) 0 rfl rfl rfl ?_
  refine r_iconst 0 rfl ci_0 ?_
  obtain ⟨h8, he9, hE⟩ := ltE hE
  refine r_putZ rfl (fl_3_40 rfl) finF rfl (kwZ he7 (kwI he5 (kwI he3 hk1))) rfl he9 ?_
  refine r_aload_n (t := some a0) 0 rfl rfl rfl ?_
  refine r_aload_n (t := some a0) 0 rfl rfl rfl ?_
  refine r_getZ rfl (fl_3_43 rfl) rfl (kwZ he9 (kwZ he7 (kwI he5 (kwI he3 hk1)))) ?_
  refine r_if_ne (tgt := 71) rfl (by decide) (fun hc10 => ?_) (fun hc10 => ?_)
  · have hE := ifP hc10 hE
    refine r_iconst 1 rfl ci_1 ?_
    refine r_goto (tgt := 72) rfl (by decide) ?_
    first | exact r_sb (Ni_pass_b72_ok g N _ hD   _ _ _ _ _ _ _ hE) ⟨rfl, rfl, trivial⟩ | exact r_sb (Ni_pass_b72_ok g N _ hD   _ _ _ _ _ _ _ hE) (by simp only [su1, su2, dr1_rf, dr1_in, dr1_lo, dr2_rf, dr2_in, dr2_lo]; exact ⟨rfl, rfl, trivial⟩)
  · have hE := ifN hc10 hE
    refine r_iconst 0 rfl ci_0 ?_
    first | exact r_sb (Ni_pass_b72_ok g N _ hD   _ _ _ _ _ _ _ hE) ⟨rfl, rfl, trivial⟩ | exact r_sb (Ni_pass_b72_ok g N _ hD   _ _ _ _ _ _ _ hE) (by simp only [su1, su2, dr1_rf, dr1_in, dr1_lo, dr2_rf, dr2_in, dr2_lo]; exact ⟨rfl, rfl, trivial⟩)
def Ni_pass_b14 (N : Nat) (a0 : Nat) (x1 : Option Nat) (h : PH) : Option (Unit × PH) :=
  ck ((hK h a0).1 = 3) <|
  if (bI (hZ h a0 11)) = 0 then
    Ni_pass_b34 N  a0 x1 h
  else
    (x1).bind fun a_3 =>
    ck ((hK h a_3).1 = 0) <|
    lt0 (wI h a0 5 ((hI h a0 5) - (hI h a_3 9))) fun h6 =>
    Ni_pass_b34 N  a0 x1 h6
set_option maxRecDepth 20000 in
theorem Ni_pass_b14_ok (g : GT) (N : Nat) (D : Nat) (hD : 4 ≤ D) : ∀ (a0 : Nat) (x1 : Option Nat) (h : PH) (v : Unit) (h' : PH), Ni_pass_b14 N a0 x1 h = some (v, h') → Run g pNi_pass D 14 [(0, va_rf (some a0)), (1, va_rf x1)] [] h (rV v) h' := by
  obtain ⟨D2, rfl⟩ : ∃ d, D = d + 1 := ⟨D - 1, by omega⟩
  intro a0 x1 h v h' hE
  unfold Ni_pass_b14 at hE
  refine r_aload_n (t := some a0) 0 rfl rfl rfl ?_
  obtain ⟨hk1, hE⟩ := ckE hE
  refine r_getZ rfl (fl_3_46 rfl) rfl hk1 ?_
  refine r_if_eq (tgt := 34) rfl (by decide) (fun hc2 => ?_) (fun hc2 => ?_)
  · have hE := ifP hc2 hE
    first | exact r_sb (Ni_pass_b34_ok g N _ hD   _ _ _ _ _ hE) ⟨rfl, rfl, trivial⟩ | exact r_sb (Ni_pass_b34_ok g N _ hD   _ _ _ _ _ hE) (by simp only [su1, su2, dr1_rf, dr1_in, dr1_lo, dr2_rf, dr2_in, dr2_lo]; exact ⟨rfl, rfl, trivial⟩)
  · have hE := ifN hc2 hE
    refine r_aload_n (t := some a0) 0 rfl rfl rfl ?_
    refine r_dup rfl (rf_cat _) ?_
    refine r_getI rfl (fl_3_27 rfl) (Or.inl rfl) rfl hk1 ?_
    refine r_aload_n (t := x1) 1 rfl rfl rfl ?_
    obtain ⟨a_3, ha4, hE⟩ := bnE hE
    obtain ⟨hk5, hE⟩ := ckE hE
    refine r_getI rfl (fl_3_121 rfl) (Or.inl rfl) ha4 hk5 ?_
    refine r_isub rfl ?_
    obtain ⟨h6, he7, hE⟩ := ltE hE
    refine r_putI rfl (fl_3_27 rfl) finF rfl hk1 he7 ?_
    first | exact r_sb (Ni_pass_b34_ok g N _ hD   _ _ _ _ _ hE) ⟨rfl, rfl, trivial⟩ | exact r_sb (Ni_pass_b34_ok g N _ hD   _ _ _ _ _ hE) (by simp only [su1, su2, dr1_rf, dr1_in, dr1_lo, dr2_rf, dr2_in, dr2_lo]; exact ⟨rfl, rfl, trivial⟩)
def Ni_pass (N : Nat) (a0 : Nat) (x1 : Option Nat) (h : PH) : Option (Unit × PH) :=
  ck ((hK h a0).1 = 3) <|
  bd (Ni_canBeGiven N a0 h) fun v2 h3 =>
  if (bI v2) = 0 then
    Ni_pass_b14 N  a0 x1 h3
  else
    ck ((hK h3 a0).1 = 3) <|
    bd (Ni_hand N a0 x1 0 h3) fun v7 h8 =>
    Ni_pass_b14 N  a0 x1 h8
set_option maxRecDepth 20000 in
theorem Ni_pass_ok (g : GT) (N : Nat) (a0 : Nat) (x1 : Option Nat) (h : PH) (v : Unit) (h' : PH) (hE : Ni_pass N a0 x1 h = some (v, h')) (D : Nat) (hD : 4 ≤ D) : Calls g D pNi_pass [va_rf (some a0), va_rf x1] h (oV v) h' := by
  refine Calls.of cok_Ni_pass ht_Ni_pass pl_Ni_pass (fun ad => by rw [lg_len, sL_cat]; simp only [List.map_cons, List.map_nil, rf_cat, cat_i, cat_l, List.sum_cons, List.sum_nil]; decide) ?_
  rw [show lv_args 0 [va_rf (some a0), va_rf x1] = [(0, va_rf (some a0)), (1, va_rf x1)] from (by simp only [lv_args, rf_cat, cat_i, cat_l]; try rfl)]
  obtain ⟨D2, rfl⟩ : ∃ d, D = d + 1 := ⟨D - 1, by omega⟩
  unfold Ni_pass at hE
  refine r_aload_n (t := some a0) 0 rfl rfl rfl ?_
  obtain ⟨hk1, hE⟩ := ckE hE
  obtain ⟨v2, h3, hq4, hE⟩ := bdE hE
  refine r_callV1 (rest := []) (hc := (Ni_canBeGiven_ok g N _ _ _ _ hq4 D2 (by omega))) rfl pm_Ni_canBeGiven lw_3_80 im_Ni_canBeGiven sl_Ni_canBeGiven rfl rfl rfl (rcOK hk1 rfl) (by decide) ?_
  refine r_if_eq (tgt := 14) rfl (by decide) (fun hc5 => ?_) (fun hc5 => ?_)
  · have hE := ifP hc5 hE
    first | exact r_sb (Ni_pass_b14_ok g N _ hD   _ _ _ _ _ hE) ⟨rfl, rfl, trivial⟩ | exact r_sb (Ni_pass_b14_ok g N _ hD   _ _ _ _ _ hE) (by simp only [su1, su2, dr1_rf, dr1_in, dr1_lo, dr2_rf, dr2_in, dr2_lo]; exact ⟨rfl, rfl, trivial⟩)
  · have hE := ifN hc5 hE
    refine r_aload_n (t := some a0) 0 rfl rfl rfl ?_
    refine r_aload_n (t := x1) 1 rfl rfl rfl ?_
    refine r_iconst 0 rfl ci_0 ?_
    obtain ⟨hk6, hE⟩ := ckE hE
    obtain ⟨v7, h8, hq9, hE⟩ := bdE hE
    refine r_callV1 (rest := []) (hc := (Ni_hand_ok g N _ _ _ _ _ _ hq9 D2 (by omega))) rfl pm_Ni_hand lw_3_84 im_Ni_hand sl_Ni_hand rfl rfl rfl (rcOK hk6 rfl) (by decide) ?_
    refine r_pop rfl rfl ?_
    first | exact r_sb (Ni_pass_b14_ok g N _ hD   _ _ _ _ _ hE) ⟨rfl, rfl, trivial⟩ | exact r_sb (Ni_pass_b14_ok g N _ hD   _ _ _ _ _ hE) (by simp only [su1, su2, dr1_rf, dr1_in, dr1_lo, dr2_rf, dr2_in, dr2_lo]; exact ⟨rfl, rfl, trivial⟩)
def Ni_darken_b18 (N : Nat) (s0 : Nat) (s1 : Int32) (h : PH) : Option (Unit × PH) :=
  ck ((hK h s0).1 = 3) <|
  ck (isB s1 = true) <|
  lt0 (wZ h s0 11 (tb s1)) fun h3 =>
  some ((), h3)
set_option maxRecDepth 20000 in
theorem Ni_darken_b18_ok (g : GT) (N : Nat) (D : Nat) (hD : 0 ≤ D) : ∀ (s0 : Nat) (s1 : Int32) (h : PH) (v : Unit) (h' : PH), Ni_darken_b18 N s0 s1 h = some (v, h') → Run g pNi_darken D 18 [] [.int s1, va_rf (some s0)] h (rV v) h' := by
  intro s0 s1 h v h' hE
  unfold Ni_darken_b18 at hE
  obtain ⟨hk1, hE⟩ := ckE hE
  obtain ⟨hc2, hE⟩ := ckE hE
  obtain ⟨h3, he4, hE⟩ := ltE hE
  refine r_putZ rfl (fl_3_46 rfl) finF rfl hk1 hc2 he4 ?_
  cases hE
  exact r_ret rfl (Or.inr (Or.inr (Or.inr ⟨rfl, rfl, rfl, rfl⟩)))
def Ni_darken (N : Nat) (a0 : Nat) (h : PH) : Option (Unit × PH) :=
  ck ((hK h a0).1 = 3) <|
  lt0 (wZ h a0 10 (tb 0)) fun h2 =>
  if (bI (hZ h2 a0 8)) = 0 then
    Ni_darken_b18 N  a0 1 h2
  else
    Ni_darken_b18 N  a0 0 h2
set_option maxRecDepth 20000 in
theorem Ni_darken_ok (g : GT) (N : Nat) (a0 : Nat) (h : PH) (v : Unit) (h' : PH) (hE : Ni_darken N a0 h = some (v, h')) (D : Nat) (hD : 0 ≤ D) : Calls g D pNi_darken [va_rf (some a0)] h (oV v) h' := by
  refine Calls.of cok_Ni_darken ht_Ni_darken pl_Ni_darken (fun ad => by rw [lg_len, sL_cat]; simp only [List.map_cons, List.map_nil, rf_cat, cat_i, cat_l, List.sum_cons, List.sum_nil]; decide) ?_
  rw [show lv_args 0 [va_rf (some a0)] = [(0, va_rf (some a0))] from (by simp only [lv_args, rf_cat, cat_i, cat_l]; try rfl)]
  unfold Ni_darken at hE
  refine r_aload_n (t := some a0) 0 rfl rfl rfl ?_
  refine r_iconst 0 rfl ci_0 ?_
  obtain ⟨hk1, hE⟩ := ckE hE
  obtain ⟨h2, he3, hE⟩ := ltE hE
  refine r_putZ rfl (fl_3_43 rfl) finF rfl hk1 rfl he3 ?_
  refine r_aload_n (t := some a0) 0 rfl rfl rfl ?_
  refine r_aload_n (t := some a0) 0 rfl rfl rfl ?_
  refine r_getZ rfl (fl_3_36 rfl) rfl (kwZ he3 hk1) ?_
  refine r_if_ne (tgt := 17) rfl (by decide) (fun hc4 => ?_) (fun hc4 => ?_)
  · have hE := ifP hc4 hE
    refine r_iconst 1 rfl ci_1 ?_
    refine r_goto (tgt := 18) rfl (by decide) ?_
    exact r_sb (Ni_darken_b18_ok g N _ hD   _ _ _ _ _ hE) trivial
  · have hE := ifN hc4 hE
    refine r_iconst 0 rfl ci_0 ?_
    exact r_sb (Ni_darken_b18_ok g N _ hD   _ _ _ _ _ hE) trivial
def Ho_size (N : Nat) (a0 : Nat) (h : PH) : Option (Int32 × PH) :=
  ck ((hK h a0).1 = 0) <|
  some (((((hI h a0 0) * ((hI h a0 1) + 1)) * ((hI h a0 2) + 1)) * 2), h)
set_option maxRecDepth 20000 in
theorem Ho_size_ok (g : GT) (N : Nat) (a0 : Nat) (h : PH) (v : Int32) (h' : PH) (hE : Ho_size N a0 h = some (v, h')) (D : Nat) (hD : 0 ≤ D) : Calls g D pHo_size [va_rf (some a0)] h (oI v) h' := by
  refine Calls.of cok_Ho_size ht_Ho_size pl_Ho_size (fun ad => by rw [lg_len, sL_cat]; simp only [List.map_cons, List.map_nil, rf_cat, cat_i, cat_l, List.sum_cons, List.sum_nil]; decide) ?_
  rw [show lv_args 0 [va_rf (some a0)] = [(0, va_rf (some a0))] from (by simp only [lv_args, rf_cat, cat_i, cat_l]; try rfl)]
  unfold Ho_size at hE
  refine r_aload_n (t := some a0) 0 rfl rfl rfl ?_
  obtain ⟨hk1, hE⟩ := ckE hE
  refine r_getI rfl (fl_0_9 rfl) (Or.inl rfl) rfl hk1 ?_
  refine r_aload_n (t := some a0) 0 rfl rfl rfl ?_
  refine r_getI rfl (fl_0_15 rfl) (Or.inl rfl) rfl hk1 ?_
  refine r_iconst 1 rfl ci_1 ?_
  refine r_iadd rfl ?_
  refine r_imul rfl ?_
  refine r_aload_n (t := some a0) 0 rfl rfl rfl ?_
  refine r_getI rfl (fl_0_18 rfl) (Or.inl rfl) rfl hk1 ?_
  refine r_iconst 1 rfl ci_1 ?_
  refine r_iadd rfl ?_
  refine r_imul rfl ?_
  refine r_iconst 2 rfl ci_2 ?_
  refine r_imul rfl ?_
  cases hE
  exact r_ret rfl (Or.inl ⟨rfl, _, _, rfl, rfl, rfl, rfl⟩)
def Ho_offWorth (N : Nat) (a0 : Nat) (x1 : Int32) (x2 : Int32) (h : PH) : Option (Int32 × PH) :=
  ck ((hK h a0).1 = 0) <|
  some (((-1000) * (((hI h a0 9) * ((hI h a0 0) - x1)) + ((hI h a0 4) * x2))), h)
set_option maxRecDepth 20000 in
theorem Ho_offWorth_ok (g : GT) (N : Nat) (a0 : Nat) (x1 : Int32) (x2 : Int32) (h : PH) (v : Int32) (h' : PH) (hE : Ho_offWorth N a0 x1 x2 h = some (v, h')) (D : Nat) (hD : 0 ≤ D) : Calls g D pHo_offWorth [va_rf (some a0), .int x1, .int x2] h (oI v) h' := by
  refine Calls.of cok_Ho_offWorth ht_Ho_offWorth pl_Ho_offWorth (fun ad => by rw [lg_len, sL_cat]; simp only [List.map_cons, List.map_nil, rf_cat, cat_i, cat_l, List.sum_cons, List.sum_nil]; decide) ?_
  rw [show lv_args 0 [va_rf (some a0), .int x1, .int x2] = [(0, va_rf (some a0)), (1, .int x1), (2, .int x2)] from (by simp only [lv_args, rf_cat, cat_i, cat_l]; try rfl)]
  unfold Ho_offWorth at hE
  refine r_sipush (-1000) rfl cs_m1000 ?_
  refine r_aload_n (t := some a0) 0 rfl rfl rfl ?_
  obtain ⟨hk1, hE⟩ := ckE hE
  refine r_getI rfl (fl_0_39 rfl) (Or.inl rfl) rfl hk1 ?_
  refine r_aload_n (t := some a0) 0 rfl rfl rfl ?_
  refine r_getI rfl (fl_0_9 rfl) (Or.inl rfl) rfl hk1 ?_
  refine r_iload_n 1 rfl rfl rfl ?_
  refine r_isub rfl ?_
  refine r_imul rfl ?_
  refine r_aload_n (t := some a0) 0 rfl rfl rfl ?_
  refine r_getI rfl (fl_0_24 rfl) (Or.inl rfl) rfl hk1 ?_
  refine r_iload_n 2 rfl rfl rfl ?_
  refine r_imul rfl ?_
  refine r_iadd rfl ?_
  refine r_imul rfl ?_
  cases hE
  exact r_ret rfl (Or.inl ⟨rfl, _, _, rfl, rfl, rfl, rfl⟩)
def Ho_placeOf_b31 (N : Nat) (s0 : Int32) (s1 : Int32) (h : PH) : Option (Int32 × PH) :=
  some ((s0 + s1), h)
set_option maxRecDepth 20000 in
theorem Ho_placeOf_b31_ok (g : GT) (N : Nat) (D : Nat) (hD : 0 ≤ D) : ∀ (s0 : Int32) (s1 : Int32) (h : PH) (v : Int32) (h' : PH), Ho_placeOf_b31 N s0 s1 h = some (v, h') → Run g pHo_placeOf D 31 [] [.int s1, .int s0] h (rI v) h' := by
  intro s0 s1 h v h' hE
  unfold Ho_placeOf_b31 at hE
  refine r_iadd rfl ?_
  cases hE
  exact r_ret rfl (Or.inl ⟨rfl, _, _, rfl, rfl, rfl, rfl⟩)
def Ho_placeOf (N : Nat) (a0 : Nat) (x1 : Int32) (x2 : Int32) (x3 : Int32) (x4 : Int32) (h : PH) : Option (Int32 × PH) :=
  ck ((hK h a0).1 = 0) <|
  if x4 = 0 then
    Ho_placeOf_b31 N  (((((x1 * ((hI h a0 1) + 1)) + x2) * ((hI h a0 2) + 1)) + x3) * 2) 0 h
  else
    Ho_placeOf_b31 N  (((((x1 * ((hI h a0 1) + 1)) + x2) * ((hI h a0 2) + 1)) + x3) * 2) 1 h
set_option maxRecDepth 20000 in
theorem Ho_placeOf_ok (g : GT) (N : Nat) (a0 : Nat) (x1 : Int32) (x2 : Int32) (x3 : Int32) (x4 : Int32) (h : PH) (v : Int32) (h' : PH) (hE : Ho_placeOf N a0 x1 x2 x3 x4 h = some (v, h')) (D : Nat) (hD : 0 ≤ D) : Calls g D pHo_placeOf [va_rf (some a0), .int x1, .int x2, .int x3, .int x4] h (oI v) h' := by
  refine Calls.of cok_Ho_placeOf ht_Ho_placeOf pl_Ho_placeOf (fun ad => by rw [lg_len, sL_cat]; simp only [List.map_cons, List.map_nil, rf_cat, cat_i, cat_l, List.sum_cons, List.sum_nil]; decide) ?_
  rw [show lv_args 0 [va_rf (some a0), .int x1, .int x2, .int x3, .int x4] = [(0, va_rf (some a0)), (1, .int x1), (2, .int x2), (3, .int x3), (4, .int x4)] from (by simp only [lv_args, rf_cat, cat_i, cat_l]; try rfl)]
  unfold Ho_placeOf at hE
  refine r_iload_n 1 rfl rfl rfl ?_
  refine r_aload_n (t := some a0) 0 rfl rfl rfl ?_
  obtain ⟨hk1, hE⟩ := ckE hE
  refine r_getI rfl (fl_0_15 rfl) (Or.inl rfl) rfl hk1 ?_
  refine r_iconst 1 rfl ci_1 ?_
  refine r_iadd rfl ?_
  refine r_imul rfl ?_
  refine r_iload_n 2 rfl rfl rfl ?_
  refine r_iadd rfl ?_
  refine r_aload_n (t := some a0) 0 rfl rfl rfl ?_
  refine r_getI rfl (fl_0_18 rfl) (Or.inl rfl) rfl hk1 ?_
  refine r_iconst 1 rfl ci_1 ?_
  refine r_iadd rfl ?_
  refine r_imul rfl ?_
  refine r_iload_n 3 rfl rfl rfl ?_
  refine r_iadd rfl ?_
  refine r_iconst 2 rfl ci_2 ?_
  refine r_imul rfl ?_
  refine r_iload rfl rfl ?_
  refine r_if_eq (tgt := 30) rfl (by decide) (fun hc2 => ?_) (fun hc2 => ?_)
  · have hE := ifP hc2 hE
    refine r_iconst 0 rfl ci_0 ?_
    exact r_sb (Ho_placeOf_b31_ok g N _ hD   _ _ _ _ _ hE) trivial
  · have hE := ifN hc2 hE
    refine r_iconst 1 rfl ci_1 ?_
    refine r_goto (tgt := 31) rfl (by decide) ?_
    exact r_sb (Ho_placeOf_b31_ok g N _ hD   _ _ _ _ _ hE) trivial
def Ni_act (N : Nat) (a0 : Nat) (x1 : Option Nat) (x2 : Int32) (x3 : Int32) (h : PH) : Option (Bool × PH) :=
  ck ((hK h a0).1 = 3) <|
  bd (Ni_isOver N a0 x1 h) fun v2 h3 =>
  if (bI v2) = 0 then
    if (Int32.toInt x2 < 16 ∨ 18 < Int32.toInt x2) then
      ck ((hK h3 a0).1 = 3) <|
      if (bI (hZ h3 a0 10)) = 0 then
        some (false, h3)
      else
        bd (Ni_darken N a0 h3) fun v9 h10 =>
        some (true, h10)
    else if x2 = 16 then
      ck ((hK h3 a0).1 = 3) <|
      bd (Ni_canCome N a0 x1 x3 h3) fun v14 h15 =>
      if (bI v14) = 0 then
        some (false, h15)
      else
        ck ((hK h15 a0).1 = 3) <|
        bd (Ni_arrive N a0 x1 x3 h15) fun v19 h20 =>
        some (true, h20)
    else if x2 = 17 then
      ck ((hK h3 a0).1 = 3) <|
      bd (Ni_canBeGiven N a0 h3) fun v24 h25 =>
      if (bI v24) = 0 then
        some (false, h25)
      else
        ck ((hK h25 a0).1 = 3) <|
        bd (Ni_hand N a0 x1 x3 h25) fun v29 h30 =>
        some (true, h30)
    else if x2 = 18 then
      ck ((hK h3 a0).1 = 3) <|
      bd (Ni_pass N a0 x1 h3) fun v34 h35 =>
      some (true, h35)
    else none
  else
    some (false, h3)
set_option maxRecDepth 20000 in
theorem Ni_act_ok (g : GT) (N : Nat) (a0 : Nat) (x1 : Option Nat) (x2 : Int32) (x3 : Int32) (h : PH) (v : Bool) (h' : PH) (hE : Ni_act N a0 x1 x2 x3 h = some (v, h')) (D : Nat) (hD : 5 ≤ D) : Calls g D pNi_act [va_rf (some a0), va_rf x1, .int x2, .int x3] h (oZ v) h' := by
  refine Calls.of cok_Ni_act ht_Ni_act pl_Ni_act (fun ad => by rw [lg_len, sL_cat]; simp only [List.map_cons, List.map_nil, rf_cat, cat_i, cat_l, List.sum_cons, List.sum_nil]; decide) ?_
  rw [show lv_args 0 [va_rf (some a0), va_rf x1, .int x2, .int x3] = [(0, va_rf (some a0)), (1, va_rf x1), (2, .int x2), (3, .int x3)] from (by simp only [lv_args, rf_cat, cat_i, cat_l]; try rfl)]
  obtain ⟨D2, rfl⟩ : ∃ d, D = d + 1 := ⟨D - 1, by omega⟩
  unfold Ni_act at hE
  refine r_aload_n (t := some a0) 0 rfl rfl rfl ?_
  refine r_aload_n (t := x1) 1 rfl rfl rfl ?_
  obtain ⟨hk1, hE⟩ := ckE hE
  obtain ⟨v2, h3, hq4, hE⟩ := bdE hE
  refine r_callV1 (rest := []) (hc := (Ni_isOver_ok g N _ _ _ _ _ hq4 D2 (by omega))) rfl pm_Ni_isOver lw_3_68 im_Ni_isOver sl_Ni_isOver rfl rfl rfl (rcOK hk1 rfl) (by decide) ?_
  refine r_if_eq (tgt := 10) rfl (by decide) (fun hc5 => ?_) (fun hc5 => ?_)
  · have hE := ifP hc5 hE
    refine r_iload_n 2 rfl rfl rfl ?_
    rcases Decidable.em (Int32.toInt x2 < 16 ∨ 18 < Int32.toInt x2) with hc6 | hc6
    · have hE := ifP hc6 hE
      refine r_tabOut (tgt := 80) rfl hc6 (by decide) ?_
      refine r_aload_n (t := some a0) 0 rfl rfl rfl ?_
      obtain ⟨hk7, hE⟩ := ckE hE
      refine r_getZ rfl (fl_3_43 rfl) rfl hk7 ?_
      refine r_if_ne (tgt := 89) rfl (by decide) (fun hc8 => ?_) (fun hc8 => ?_)
      · have hE := ifP hc8 hE
        refine r_iconst 0 rfl ci_0 ?_
        cases hE
        exact r_ret rfl (Or.inl ⟨rfl, _, _, rfl, rfl, rfl, rfl⟩)
      · have hE := ifN hc8 hE
        refine r_aload_n (t := some a0) 0 rfl rfl rfl ?_
        obtain ⟨v9, h10, hq11, hE⟩ := bdE hE
        refine r_callV0 (rest := []) (hc := (Ni_darken_ok g N _ _ _ _ hq11 D2 (by omega))) rfl pm_Ni_darken lw_3_92 im_Ni_darken sl_Ni_darken rfl rfl rfl (rcOK hk7 rfl) (by decide) ?_
        refine r_iconst 1 rfl ci_1 ?_
        cases hE
        exact r_ret rfl (Or.inl ⟨rfl, _, _, rfl, rfl, rfl, rfl⟩)
    · have hE := ifN hc6 hE
      rcases Decidable.em (x2 = 16) with hx12 | hx12
      · have hE := ifP hx12 hE
        refine r_tabIn (tgt := 36) 0 rfl hc6 (by rw [hx12]; decide +kernel) rfl (by decide) ?_
        refine r_aload_n (t := some a0) 0 rfl rfl rfl ?_
        refine r_aload_n (t := x1) 1 rfl rfl rfl ?_
        refine r_iload_n 3 rfl rfl rfl ?_
        obtain ⟨hk13, hE⟩ := ckE hE
        obtain ⟨v14, h15, hq16, hE⟩ := bdE hE
        refine r_callV1 (rest := []) (hc := (Ni_canCome_ok g N _ _ _ _ _ _ hq16 D2 (by omega))) rfl pm_Ni_canCome lw_3_72 im_Ni_canCome sl_Ni_canCome rfl rfl rfl (rcOK hk13 rfl) (by decide) ?_
        refine r_if_ne (tgt := 47) rfl (by decide) (fun hc17 => ?_) (fun hc17 => ?_)
        · have hE := ifP hc17 hE
          refine r_iconst 0 rfl ci_0 ?_
          cases hE
          exact r_ret rfl (Or.inl ⟨rfl, _, _, rfl, rfl, rfl, rfl⟩)
        · have hE := ifN hc17 hE
          refine r_aload_n (t := some a0) 0 rfl rfl rfl ?_
          refine r_aload_n (t := x1) 1 rfl rfl rfl ?_
          refine r_iload_n 3 rfl rfl rfl ?_
          obtain ⟨hk18, hE⟩ := ckE hE
          obtain ⟨v19, h20, hq21, hE⟩ := bdE hE
          refine r_callV0 (rest := []) (hc := (Ni_arrive_ok g N _ _ _ _ _ _ hq21 D2 (by omega))) rfl pm_Ni_arrive lw_3_76 im_Ni_arrive sl_Ni_arrive rfl rfl rfl (rcOK hk18 rfl) (by decide) ?_
          refine r_iconst 1 rfl ci_1 ?_
          cases hE
          exact r_ret rfl (Or.inl ⟨rfl, _, _, rfl, rfl, rfl, rfl⟩)
      have hE := ifN hx12 hE
      rcases Decidable.em (x2 = 17) with hx22 | hx22
      · have hE := ifP hx22 hE
        refine r_tabIn (tgt := 55) 1 rfl hc6 (by rw [hx22]; decide +kernel) rfl (by decide) ?_
        refine r_aload_n (t := some a0) 0 rfl rfl rfl ?_
        obtain ⟨hk23, hE⟩ := ckE hE
        obtain ⟨v24, h25, hq26, hE⟩ := bdE hE
        refine r_callV1 (rest := []) (hc := (Ni_canBeGiven_ok g N _ _ _ _ hq26 D2 (by omega))) rfl pm_Ni_canBeGiven lw_3_80 im_Ni_canBeGiven sl_Ni_canBeGiven rfl rfl rfl (rcOK hk23 rfl) (by decide) ?_
        refine r_if_ne (tgt := 64) rfl (by decide) (fun hc27 => ?_) (fun hc27 => ?_)
        · have hE := ifP hc27 hE
          refine r_iconst 0 rfl ci_0 ?_
          cases hE
          exact r_ret rfl (Or.inl ⟨rfl, _, _, rfl, rfl, rfl, rfl⟩)
        · have hE := ifN hc27 hE
          refine r_aload_n (t := some a0) 0 rfl rfl rfl ?_
          refine r_aload_n (t := x1) 1 rfl rfl rfl ?_
          refine r_iload_n 3 rfl rfl rfl ?_
          obtain ⟨hk28, hE⟩ := ckE hE
          obtain ⟨v29, h30, hq31, hE⟩ := bdE hE
          refine r_callV1 (rest := []) (hc := (Ni_hand_ok g N _ _ _ _ _ _ hq31 D2 (by omega))) rfl pm_Ni_hand lw_3_84 im_Ni_hand sl_Ni_hand rfl rfl rfl (rcOK hk28 rfl) (by decide) ?_
          refine r_pop rfl rfl ?_
          refine r_iconst 1 rfl ci_1 ?_
          cases hE
          exact r_ret rfl (Or.inl ⟨rfl, _, _, rfl, rfl, rfl, rfl⟩)
      have hE := ifN hx22 hE
      rcases Decidable.em (x2 = 18) with hx32 | hx32
      · have hE := ifP hx32 hE
        refine r_tabIn (tgt := 73) 2 rfl hc6 (by rw [hx32]; decide +kernel) rfl (by decide) ?_
        refine r_aload_n (t := some a0) 0 rfl rfl rfl ?_
        refine r_aload_n (t := x1) 1 rfl rfl rfl ?_
        obtain ⟨hk33, hE⟩ := ckE hE
        obtain ⟨v34, h35, hq36, hE⟩ := bdE hE
        refine r_callV0 (rest := []) (hc := (Ni_pass_ok g N _ _ _ _ _ hq36 D2 (by omega))) rfl pm_Ni_pass lw_3_88 im_Ni_pass sl_Ni_pass rfl rfl rfl (rcOK hk33 rfl) (by decide) ?_
        refine r_iconst 1 rfl ci_1 ?_
        cases hE
        exact r_ret rfl (Or.inl ⟨rfl, _, _, rfl, rfl, rfl, rfl⟩)
      have hE := ifN hx32 hE
      exact nomatch hE
  · have hE := ifN hc5 hE
    refine r_iconst 0 rfl ci_0 ?_
    cases hE
    exact r_ret rfl (Or.inl ⟨rfl, _, _, rfl, rfl, rfl, rfl⟩)
