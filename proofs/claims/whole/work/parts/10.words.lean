theorem ckX : True := trivial
def ck {β : Type} (c : Prop) [Decidable c] (x : Option β) : Option β := if c then x else none
theorem ckE {β : Type} {c : Prop} [Decidable c] {x : Option β} {y : β} (h : ck c x = some y) : c ∧ x = some y := by
  unfold ck at h
  split at h
  · next hc => exact ⟨hc, h⟩
  · cases h
theorem ifP {β : Type} {c : Prop} [Decidable c] {x y : Option β} {z : β} (hc : c) (h : (if c then x else y) = some z) : x = some z := by rwa [if_pos hc] at h
theorem ifN {β : Type} {c : Prop} [Decidable c] {x y : Option β} {z : β} (hc : ¬ c) (h : (if c then x else y) = some z) : y = some z := by rwa [if_neg hc] at h
theorem bnE {α β : Type} {x : Option α} {f : α → Option β} {z : β} (h : x.bind f = some z) : ∃ a, x = some a ∧ f a = some z := Option.bind_eq_some_iff.mp h
def bd {α β : Type} (x : Option (α × PH)) (f : α → PH → Option β) : Option β := match x with
  | none => none
  | some q => f q.1 q.2
theorem bdE {α β : Type} {x : Option (α × PH)} {f : α → PH → Option β} {z : β} (h : bd x f = some z) : ∃ v h1, x = some (v, h1) ∧ f v h1 = some z := by
  cases x with
  | none => cases h
  | some q => exact ⟨q.1, q.2, rfl, h⟩
theorem cat_i (x : Int32) : (Value.int x).category = 1 := rfl
theorem cat_l (x : Int64) : (Value.long x).category = 2 := rfl
theorem ht_of {M : PM} {C : String} (h : (mY M).cls = C) (hn : C ≠ RL) : hTab M = none := if_neg (by rw [h]; exact hn)
theorem ht_w {M : PM} {n : String} {q : Option (Nat × Nat × Nat × Nat)} (h : (mY M).cls = RL) (h2 : (mY M).name = n) (hq : wTab n = q) : hTab M = q := by unfold hTab; rw [if_pos h, h2, hq]
theorem kwI {h h2 : PH} {a i : Nat} {v : Int32} {b k : Nat} (e : h2 = wI h a i v) (hk : (hK h b).1 = k) : (hK h2 b).1 = k := by subst e; exact hk
theorem kwJ {h h2 : PH} {a i : Nat} {v : Int64} {b k : Nat} (e : h2 = wJ h a i v) (hk : (hK h b).1 = k) : (hK h2 b).1 = k := by subst e; exact hk
theorem kwZ {h h2 : PH} {a i : Nat} {v : Bool} {b k : Nat} (e : h2 = wZ h a i v) (hk : (hK h b).1 = k) : (hK h2 b).1 = k := by subst e; exact hk
theorem kwR {h h2 : PH} {a i : Nat} {v : Option Nat} {b k : Nat} (e : h2 = wR h a i v) (hk : (hK h b).1 = k) : (hK h2 b).1 = k := by subst e; exact hk
def lt0 {β : Type} (h : PH) (f : PH → Option β) : Option β := f h
theorem ltE {β : Type} {x : PH} {f : PH → Option β} {z : β} (h : lt0 x f = some z) : ∃ h1, h1 = x ∧ f h1 = some z := ⟨x, rfl, h⟩
theorem rcOK {k ci : Nat} {C : String} (hk : k = ci) (hc : rcls ci = some C) : rcls k = some C := by rw [hk]; exact hc
theorem finF {M : PM} {ci : Nat} : FinOK M ci false := fun z => nomatch z
theorem lg_len : ∀ (vs : List Value), (lg_sl vs).length = (vs.map fun v => v.category).sum
  | [] => rfl
  | v :: vs => by
    have h := lg_len vs
    have e : lg_sl (v :: vs) = (if v.category = 2 then [.val v, .second] else [.val v]) ++ lg_sl vs := List.flatMap_cons
    rw [e, List.length_append, h, List.map_cons, List.sum_cons]
    rcases lv_cat v with c1 | c2
    · rw [if_neg (by omega), c1]; rfl
    · rw [if_pos c2, c2]; rfl
abbrev oI (x : Int32) : Option Value := some (.int x)
abbrev oJ (x : Int64) : Option Value := some (.long x)
abbrev oR (t : Option Nat) : Option Value := some (va_rf t)
abbrev oV (_ : Unit) : Option Value := none
abbrev oZ (b : Bool) : Option Value := some (.int (bI b))
abbrev rI (x : Int32) : Res := some (oI x)
abbrev rJ (x : Int64) : Res := some (oJ x)
abbrev rR (t : Option Nat) : Res := some (oR t)
abbrev rV (u : Unit) : Res := some (oV u)
abbrev rZ (b : Bool) : Res := some (oZ b)
def rX (o : Option Int32) : Res := match o with
  | none => none
  | some x => some (some (.int x))
theorem cb_m13 : (Int8.ofInt (-13)).toInt32 = (-13) := by decide +kernel
theorem cb_m12 : (Int8.ofInt (-12)).toInt32 = (-12) := by decide +kernel
theorem cb_m11 : (Int8.ofInt (-11)).toInt32 = (-11) := by decide +kernel
theorem cb_m10 : (Int8.ofInt (-10)).toInt32 = (-10) := by decide +kernel
theorem cb_m9 : (Int8.ofInt (-9)).toInt32 = (-9) := by decide +kernel
theorem cb_m8 : (Int8.ofInt (-8)).toInt32 = (-8) := by decide +kernel
theorem cb_m7 : (Int8.ofInt (-7)).toInt32 = (-7) := by decide +kernel
theorem cb_m6 : (Int8.ofInt (-6)).toInt32 = (-6) := by decide +kernel
theorem cb_6 : (Int8.ofInt 6).toInt32 = 6 := by decide +kernel
theorem cb_7 : (Int8.ofInt 7).toInt32 = 7 := by decide +kernel
theorem cb_8 : (Int8.ofInt 8).toInt32 = 8 := by decide +kernel
theorem cb_9 : (Int8.ofInt 9).toInt32 = 9 := by decide +kernel
theorem cb_10 : (Int8.ofInt 10).toInt32 = 10 := by decide +kernel
theorem cb_11 : (Int8.ofInt 11).toInt32 = 11 := by decide +kernel
theorem cb_12 : (Int8.ofInt 12).toInt32 = 12 := by decide +kernel
theorem cb_13 : (Int8.ofInt 13).toInt32 = 13 := by decide +kernel
theorem cb_14 : (Int8.ofInt 14).toInt32 = 14 := by decide +kernel
theorem cb_15 : (Int8.ofInt 15).toInt32 = 15 := by decide +kernel
theorem cb_16 : (Int8.ofInt 16).toInt32 = 16 := by decide +kernel
theorem cb_17 : (Int8.ofInt 17).toInt32 = 17 := by decide +kernel
theorem cb_18 : (Int8.ofInt 18).toInt32 = 18 := by decide +kernel
theorem cb_19 : (Int8.ofInt 19).toInt32 = 19 := by decide +kernel
theorem cb_20 : (Int8.ofInt 20).toInt32 = 20 := by decide +kernel
theorem cb_21 : (Int8.ofInt 21).toInt32 = 21 := by decide +kernel
theorem cb_22 : (Int8.ofInt 22).toInt32 = 22 := by decide +kernel
theorem cb_23 : (Int8.ofInt 23).toInt32 = 23 := by decide +kernel
theorem cb_24 : (Int8.ofInt 24).toInt32 = 24 := by decide +kernel
theorem cb_25 : (Int8.ofInt 25).toInt32 = 25 := by decide +kernel
theorem cb_26 : (Int8.ofInt 26).toInt32 = 26 := by decide +kernel
theorem cb_27 : (Int8.ofInt 27).toInt32 = 27 := by decide +kernel
theorem cb_28 : (Int8.ofInt 28).toInt32 = 28 := by decide +kernel
theorem cb_29 : (Int8.ofInt 29).toInt32 = 29 := by decide +kernel
theorem cb_30 : (Int8.ofInt 30).toInt32 = 30 := by decide +kernel
theorem cb_31 : (Int8.ofInt 31).toInt32 = 31 := by decide +kernel
theorem cb_32 : (Int8.ofInt 32).toInt32 = 32 := by decide +kernel
theorem cb_33 : (Int8.ofInt 33).toInt32 = 33 := by decide +kernel
theorem cb_34 : (Int8.ofInt 34).toInt32 = 34 := by decide +kernel
theorem cb_35 : (Int8.ofInt 35).toInt32 = 35 := by decide +kernel
theorem cb_36 : (Int8.ofInt 36).toInt32 = 36 := by decide +kernel
theorem cb_40 : (Int8.ofInt 40).toInt32 = 40 := by decide +kernel
theorem cb_41 : (Int8.ofInt 41).toInt32 = 41 := by decide +kernel
theorem cb_42 : (Int8.ofInt 42).toInt32 = 42 := by decide +kernel
theorem cb_43 : (Int8.ofInt 43).toInt32 = 43 := by decide +kernel
theorem cb_45 : (Int8.ofInt 45).toInt32 = 45 := by decide +kernel
theorem cb_48 : (Int8.ofInt 48).toInt32 = 48 := by decide +kernel
theorem cb_56 : (Int8.ofInt 56).toInt32 = 56 := by decide +kernel
theorem cb_57 : (Int8.ofInt 57).toInt32 = 57 := by decide +kernel
theorem cb_59 : (Int8.ofInt 59).toInt32 = 59 := by decide +kernel
theorem cb_60 : (Int8.ofInt 60).toInt32 = 60 := by decide +kernel
theorem cb_61 : (Int8.ofInt 61).toInt32 = 61 := by decide +kernel
theorem cb_64 : (Int8.ofInt 64).toInt32 = 64 := by decide +kernel
theorem cb_96 : (Int8.ofInt 96).toInt32 = 96 := by decide +kernel
theorem cb_97 : (Int8.ofInt 97).toInt32 = 97 := by decide +kernel
theorem cb_99 : (Int8.ofInt 99).toInt32 = 99 := by decide +kernel
theorem cb_100 : (Int8.ofInt 100).toInt32 = 100 := by decide +kernel
theorem cb_120 : (Int8.ofInt 120).toInt32 = 120 := by decide +kernel
theorem cb_121 : (Int8.ofInt 121).toInt32 = 121 := by decide +kernel
theorem cb_122 : (Int8.ofInt 122).toInt32 = 122 := by decide +kernel
theorem cb_126 : (Int8.ofInt 126).toInt32 = 126 := by decide +kernel
theorem ci_m8 : Int32.ofInt (-8) = (-8) := by decide +kernel
theorem ci_m1 : Int32.ofInt (-1) = (-1) := by decide +kernel
theorem ci_0 : Int32.ofInt 0 = 0 := by decide +kernel
theorem ci_1 : Int32.ofInt 1 = 1 := by decide +kernel
theorem ci_2 : Int32.ofInt 2 = 2 := by decide +kernel
theorem ci_3 : Int32.ofInt 3 = 3 := by decide +kernel
theorem ci_4 : Int32.ofInt 4 = 4 := by decide +kernel
theorem ci_5 : Int32.ofInt 5 = 5 := by decide +kernel
theorem ci_7 : Int32.ofInt 7 = 7 := by decide +kernel
theorem cl_0 : Int64.ofNat ((0 : Fin 2) : Nat) = 0 := by decide +kernel
theorem cl_1 : Int64.ofNat ((1 : Fin 2) : Nat) = 1 := by decide +kernel
theorem cs_m1000 : (Int16.ofInt (-1000)).toInt32 = (-1000) := by decide +kernel
theorem cs_192 : (Int16.ofInt 192).toInt32 = 192 := by decide +kernel
theorem cs_210 : (Int16.ofInt 210).toInt32 = 210 := by decide +kernel
theorem cs_224 : (Int16.ofInt 224).toInt32 = 224 := by decide +kernel
theorem cs_241 : (Int16.ofInt 241).toInt32 = 241 := by decide +kernel
theorem cs_242 : (Int16.ofInt 242).toInt32 = 242 := by decide +kernel
theorem cs_255 : (Int16.ofInt 255).toInt32 = 255 := by decide +kernel
theorem cs_300 : (Int16.ofInt 300).toInt32 = 300 := by decide +kernel
theorem cs_360 : (Int16.ofInt 360).toInt32 = 360 := by decide +kernel
theorem cs_1000 : (Int16.ofInt 1000).toInt32 = 1000 := by decide +kernel
theorem cs_2000 : (Int16.ofInt 2000).toInt32 = 2000 := by decide +kernel
theorem cs_6025 : (Int16.ofInt 6025).toInt32 = 6025 := by decide +kernel
theorem cs_9999 : (Int16.ofInt 9999).toInt32 = 9999 := by decide +kernel
theorem cs_23474 : (Int16.ofInt 23474).toInt32 = 23474 := by decide +kernel
theorem fl_0_15 {M : PM} (h : (mY M).cls = RX0) : FldOK M 15 0 1 .int false := ⟨RX0, TX0, 19, rfl, by decide, rfl, rfl, rfl, by rw [h]; exact gt1 157 rfl rfl⟩
theorem fl_0_18 {M : PM} (h : (mY M).cls = RX0) : FldOK M 18 0 2 .int false := ⟨RX0, TX0, 19, rfl, by decide, rfl, rfl, rfl, by rw [h]; exact gt1 164 rfl rfl⟩
theorem fl_0_21 {M : PM} (h : (mY M).cls = RX0) : FldOK M 21 0 3 .int false := ⟨RX0, TX0, 19, rfl, by decide, rfl, rfl, rfl, by rw [h]; exact gt1 169 rfl rfl⟩
theorem fl_0_24 {M : PM} (h : (mY M).cls = RX0) : FldOK M 24 0 4 .int false := ⟨RX0, TX0, 19, rfl, by decide, rfl, rfl, rfl, by rw [h]; exact gt1 171 rfl rfl⟩
theorem fl_0_27 {M : PM} (h : (mY M).cls = RX0) : FldOK M 27 0 5 .int false := ⟨RX0, TX0, 19, rfl, by decide, rfl, rfl, rfl, by rw [h]; exact gt1 174 rfl rfl⟩
theorem fl_0_30 {M : PM} (h : (mY M).cls = RX0) : FldOK M 30 0 6 .int false := ⟨RX0, TX0, 19, rfl, by decide, rfl, rfl, rfl, by rw [h]; exact gt1 176 rfl rfl⟩
theorem fl_0_33 {M : PM} (h : (mY M).cls = RX0) : FldOK M 33 0 7 .int false := ⟨RX0, TX0, 19, rfl, by decide, rfl, rfl, rfl, by rw [h]; exact gt1 178 rfl rfl⟩
theorem fl_0_36 {M : PM} (h : (mY M).cls = RX0) : FldOK M 36 0 8 .int false := ⟨RX0, TX0, 19, rfl, by decide, rfl, rfl, rfl, by rw [h]; exact gt1 180 rfl rfl⟩
theorem fl_0_39 {M : PM} (h : (mY M).cls = RX0) : FldOK M 39 0 9 .int false := ⟨RX0, TX0, 19, rfl, by decide, rfl, rfl, rfl, by rw [h]; exact gt1 182 rfl rfl⟩
theorem fl_0_42 {M : PM} (h : (mY M).cls = RX0) : FldOK M 42 0 10 .int false := ⟨RX0, TX0, 19, rfl, by decide, rfl, rfl, rfl, by rw [h]; exact gt1 185 rfl rfl⟩
theorem fl_0_45 {M : PM} (h : (mY M).cls = RX0) : FldOK M 45 0 11 .int false := ⟨RX0, TX0, 19, rfl, by decide, rfl, rfl, rfl, by rw [h]; exact gt1 188 rfl rfl⟩
theorem fl_0_48 {M : PM} (h : (mY M).cls = RX0) : FldOK M 48 0 12 .int false := ⟨RX0, TX0, 19, rfl, by decide, rfl, rfl, rfl, by rw [h]; exact gt1 191 rfl rfl⟩
theorem fl_0_51 {M : PM} (h : (mY M).cls = RX0) : FldOK M 51 0 13 .int false := ⟨RX0, TX0, 19, rfl, by decide, rfl, rfl, rfl, by rw [h]; exact gt1 194 rfl rfl⟩
theorem fl_0_54 {M : PM} (h : (mY M).cls = RX0) : FldOK M 54 0 14 (.array .int) true := ⟨RX0, TX0, 19, rfl, by decide, rfl, rfl, rfl, by rw [h]; exact gt1 195 rfl rfl⟩
theorem fl_0_58 {M : PM} (h : (mY M).cls = RX0) : FldOK M 58 0 15 (.array .int) true := ⟨RX0, TX0, 19, rfl, by decide, rfl, rfl, rfl, by rw [h]; exact gt1 197 rfl rfl⟩
theorem fl_0_61 {M : PM} (h : (mY M).cls = RX0) : FldOK M 61 0 16 (.array .int) true := ⟨RX0, TX0, 19, rfl, by decide, rfl, rfl, rfl, by rw [h]; exact gt1 199 rfl rfl⟩
theorem fl_0_64 {M : PM} (h : (mY M).cls = RX0) : FldOK M 64 0 17 (.array .int) true := ⟨RX0, TX0, 19, rfl, by decide, rfl, rfl, rfl, by rw [h]; exact gt1 200 rfl rfl⟩
theorem fl_0_67 {M : PM} (h : (mY M).cls = RX0) : FldOK M 67 0 18 (.array .int) true := ⟨RX0, TX0, 19, rfl, by decide, rfl, rfl, rfl, by rw [h]; exact gt1 202 rfl rfl⟩
theorem fl_0_9 {M : PM} (h : (mY M).cls = RX0) : FldOK M 9 0 0 .int false := ⟨RX0, TX0, 19, rfl, by decide, rfl, rfl, rfl, by rw [h]; exact gt1 149 rfl rfl⟩
theorem fl_1_10 {M : PM} (h : (mY M).cls = RX1) : FldOK M 10 1 0 (.object "LastsEvening$Night") true := ⟨RX1, TX1, 3, rfl, by decide, rfl, rfl, rfl, by rw [h]; exact gt2 230 rfl rfl⟩
theorem fl_1_19 {M : PM} (h : (mY M).cls = RX1) : FldOK M 19 1 1 (.object "LastsEvening$Script") true := ⟨RX1, TX1, 3, rfl, by decide, rfl, rfl, rfl, by rw [h]; exact gt2 232 rfl rfl⟩
theorem fl_1_23 {M : PM} (h : (mY M).cls = RX1) : FldOK M 23 1 2 .boolean false := ⟨RX1, TX1, 3, rfl, by decide, rfl, rfl, rfl, by rw [h]; exact gt2 234 rfl rfl⟩
theorem fl_2_15 {M : PM} (h : (mY M).cls = RX2) : FldOK M 15 2 2 .int false := ⟨RX2, TX2, 8, rfl, by decide, rfl, rfl, rfl, by rw [h]; exact gt2 157 rfl rfl⟩
theorem fl_2_19 {M : PM} (h : (mY M).cls = RX2) : FldOK M 19 2 3 .int false := ⟨RX2, TX2, 8, rfl, by decide, rfl, rfl, rfl, by rw [h]; exact gt2 158 rfl rfl⟩
theorem fl_2_22 {M : PM} (h : (mY M).cls = RX2) : FldOK M 22 2 4 .boolean false := ⟨RX2, TX2, 8, rfl, by decide, rfl, rfl, rfl, by rw [h]; exact gt2 159 rfl rfl⟩
theorem fl_2_26 {M : PM} (h : (mY M).cls = RX2) : FldOK M 26 2 5 (.array .int) false := ⟨RX2, TX2, 8, rfl, by decide, rfl, rfl, rfl, by rw [h]; exact gt2 160 rfl rfl⟩
theorem fl_2_29 {M : PM} (h : (mY M).cls = RX2) : FldOK M 29 2 6 (.array .int) false := ⟨RX2, TX2, 8, rfl, by decide, rfl, rfl, rfl, by rw [h]; exact gt2 161 rfl rfl⟩
theorem fl_2_32 {M : PM} (h : (mY M).cls = RX2) : FldOK M 32 2 7 .int false := ⟨RX2, TX2, 8, rfl, by decide, rfl, rfl, rfl, by rw [h]; exact gt2 162 rfl rfl⟩
theorem fl_2_35 {M : PM} (h : (mY M).cls = RX2) : FldOK M 35 2 0 (.object "LastsEvening$House") true := ⟨RX2, TX2, 8, rfl, by decide, rfl, rfl, rfl, by rw [h]; exact gt2 155 rfl rfl⟩
theorem fl_2_43 {M : PM} (h : (mY M).cls = RX2) : FldOK M 43 0 0 .int false := ⟨RX0, TX0, 19, rfl, by decide, rfl, rfl, rfl, by rw [h]; exact gt1 153 rfl rfl⟩
theorem fl_2_48 {M : PM} (h : (mY M).cls = RX2) : FldOK M 48 0 18 (.array .int) true := ⟨RX0, TX0, 19, rfl, by decide, rfl, rfl, rfl, by rw [h]; exact gt1 203 rfl rfl⟩
theorem fl_2_55 {M : PM} (h : (mY M).cls = RX2) : FldOK M 55 0 17 (.array .int) true := ⟨RX0, TX0, 19, rfl, by decide, rfl, rfl, rfl, by rw [h]; exact gt1 201 rfl rfl⟩
theorem fl_2_87 {M : PM} (h : (mY M).cls = RX2) : FldOK M 87 3 0 .int false := ⟨RX3, TX3, 14, rfl, by decide, rfl, rfl, rfl, by rw [h]; exact gt2 61 rfl rfl⟩
theorem fl_2_9 {M : PM} (h : (mY M).cls = RX2) : FldOK M 9 2 1 (.array .int) true := ⟨RX2, TX2, 8, rfl, by decide, rfl, rfl, rfl, by rw [h]; exact gt2 156 rfl rfl⟩
theorem fl_2_92 {M : PM} (h : (mY M).cls = RX2) : FldOK M 92 3 1 .int false := ⟨RX3, TX3, 14, rfl, by decide, rfl, rfl, rfl, by rw [h]; exact gt2 65 rfl rfl⟩
theorem fl_2_95 {M : PM} (h : (mY M).cls = RX2) : FldOK M 95 3 2 .int false := ⟨RX3, TX3, 14, rfl, by decide, rfl, rfl, rfl, by rw [h]; exact gt2 68 rfl rfl⟩
theorem fl_2_98 {M : PM} (h : (mY M).cls = RX2) : FldOK M 98 3 12 .boolean false := ⟨RX3, TX3, 14, rfl, by decide, rfl, rfl, rfl, by rw [h]; exact gt2 89 rfl rfl⟩
theorem fl_3_121 {M : PM} (h : (mY M).cls = RX3) : FldOK M 121 0 9 .int false := ⟨RX0, TX0, 19, rfl, by decide, rfl, rfl, rfl, by rw [h]; exact gt1 184 rfl rfl⟩
theorem fl_3_124 {M : PM} (h : (mY M).cls = RX3) : FldOK M 124 0 4 .int false := ⟨RX0, TX0, 19, rfl, by decide, rfl, rfl, rfl, by rw [h]; exact gt1 173 rfl rfl⟩
theorem fl_3_15 {M : PM} (h : (mY M).cls = RX3) : FldOK M 15 3 1 .int false := ⟨RX3, TX3, 14, rfl, by decide, rfl, rfl, rfl, by rw [h]; exact gt2 63 rfl rfl⟩
theorem fl_3_18 {M : PM} (h : (mY M).cls = RX3) : FldOK M 18 3 2 .int false := ⟨RX3, TX3, 14, rfl, by decide, rfl, rfl, rfl, by rw [h]; exact gt2 67 rfl rfl⟩
theorem fl_3_21 {M : PM} (h : (mY M).cls = RX3) : FldOK M 21 3 3 .int false := ⟨RX3, TX3, 14, rfl, by decide, rfl, rfl, rfl, by rw [h]; exact gt2 70 rfl rfl⟩
theorem fl_3_24 {M : PM} (h : (mY M).cls = RX3) : FldOK M 24 3 4 .int false := ⟨RX3, TX3, 14, rfl, by decide, rfl, rfl, rfl, by rw [h]; exact gt2 72 rfl rfl⟩
theorem fl_3_27 {M : PM} (h : (mY M).cls = RX3) : FldOK M 27 3 5 .int false := ⟨RX3, TX3, 14, rfl, by decide, rfl, rfl, rfl, by rw [h]; exact gt2 74 rfl rfl⟩
theorem fl_3_30 {M : PM} (h : (mY M).cls = RX3) : FldOK M 30 3 6 .int false := ⟨RX3, TX3, 14, rfl, by decide, rfl, rfl, rfl, by rw [h]; exact gt2 76 rfl rfl⟩
theorem fl_3_33 {M : PM} (h : (mY M).cls = RX3) : FldOK M 33 3 7 .int false := ⟨RX3, TX3, 14, rfl, by decide, rfl, rfl, rfl, by rw [h]; exact gt2 78 rfl rfl⟩
theorem fl_3_36 {M : PM} (h : (mY M).cls = RX3) : FldOK M 36 3 8 .boolean false := ⟨RX3, TX3, 14, rfl, by decide, rfl, rfl, rfl, by rw [h]; exact gt2 80 rfl rfl⟩
theorem fl_3_40 {M : PM} (h : (mY M).cls = RX3) : FldOK M 40 3 9 .boolean false := ⟨RX3, TX3, 14, rfl, by decide, rfl, rfl, rfl, by rw [h]; exact gt2 82 rfl rfl⟩
theorem fl_3_43 {M : PM} (h : (mY M).cls = RX3) : FldOK M 43 3 10 .boolean false := ⟨RX3, TX3, 14, rfl, by decide, rfl, rfl, rfl, by rw [h]; exact gt2 84 rfl rfl⟩
theorem fl_3_46 {M : PM} (h : (mY M).cls = RX3) : FldOK M 46 3 11 .boolean false := ⟨RX3, TX3, 14, rfl, by decide, rfl, rfl, rfl, by rw [h]; exact gt2 86 rfl rfl⟩
theorem fl_3_49 {M : PM} (h : (mY M).cls = RX3) : FldOK M 49 3 12 .boolean false := ⟨RX3, TX3, 14, rfl, by decide, rfl, rfl, rfl, by rw [h]; exact gt2 87 rfl rfl⟩
theorem fl_3_52 {M : PM} (h : (mY M).cls = RX3) : FldOK M 52 3 13 .boolean false := ⟨RX3, TX3, 14, rfl, by decide, rfl, rfl, rfl, by rw [h]; exact gt2 91 rfl rfl⟩
theorem fl_3_55 {M : PM} (h : (mY M).cls = RX3) : FldOK M 55 0 1 .int false := ⟨RX0, TX0, 19, rfl, by decide, rfl, rfl, rfl, by rw [h]; exact gt1 158 rfl rfl⟩
theorem fl_3_60 {M : PM} (h : (mY M).cls = RX3) : FldOK M 60 0 2 .int false := ⟨RX0, TX0, 19, rfl, by decide, rfl, rfl, rfl, by rw [h]; exact gt1 165 rfl rfl⟩
theorem fl_3_61 {M : PM} (h : (mY M).cls = RX3) : FldOK M 61 0 10 .int false := ⟨RX0, TX0, 19, rfl, by decide, rfl, rfl, rfl, by rw [h]; exact gt1 186 rfl rfl⟩
theorem fl_3_65 {M : PM} (h : (mY M).cls = RX3) : FldOK M 65 0 0 .int false := ⟨RX0, TX0, 19, rfl, by decide, rfl, rfl, rfl, by rw [h]; exact gt1 154 rfl rfl⟩
theorem fl_3_9 {M : PM} (h : (mY M).cls = RX3) : FldOK M 9 3 0 .int false := ⟨RX3, TX3, 14, rfl, by decide, rfl, rfl, rfl, by rw [h]; exact gt2 59 rfl rfl⟩
theorem fl_4_111 {M : PM} (h : (mY M).cls = RX4) : FldOK M 111 0 1 .int false := ⟨RX0, TX0, 19, rfl, by decide, rfl, rfl, rfl, by rw [h]; exact gt1 162 rfl rfl⟩
theorem fl_4_114 {M : PM} (h : (mY M).cls = RX4) : FldOK M 114 0 2 .int false := ⟨RX0, TX0, 19, rfl, by decide, rfl, rfl, rfl, by rw [h]; exact gt1 166 rfl rfl⟩
theorem fl_4_117 {M : PM} (h : (mY M).cls = RX4) : FldOK M 117 0 3 .int false := ⟨RX0, TX0, 19, rfl, by decide, rfl, rfl, rfl, by rw [h]; exact gt1 170 rfl rfl⟩
theorem fl_4_120 {M : PM} (h : (mY M).cls = RX4) : FldOK M 120 0 4 .int false := ⟨RX0, TX0, 19, rfl, by decide, rfl, rfl, rfl, by rw [h]; exact gt1 172 rfl rfl⟩
theorem fl_4_123 {M : PM} (h : (mY M).cls = RX4) : FldOK M 123 0 5 .int false := ⟨RX0, TX0, 19, rfl, by decide, rfl, rfl, rfl, by rw [h]; exact gt1 175 rfl rfl⟩
theorem fl_4_126 {M : PM} (h : (mY M).cls = RX4) : FldOK M 126 0 6 .int false := ⟨RX0, TX0, 19, rfl, by decide, rfl, rfl, rfl, by rw [h]; exact gt1 177 rfl rfl⟩
theorem fl_4_129 {M : PM} (h : (mY M).cls = RX4) : FldOK M 129 0 7 .int false := ⟨RX0, TX0, 19, rfl, by decide, rfl, rfl, rfl, by rw [h]; exact gt1 179 rfl rfl⟩
theorem fl_4_132 {M : PM} (h : (mY M).cls = RX4) : FldOK M 132 0 8 .int false := ⟨RX0, TX0, 19, rfl, by decide, rfl, rfl, rfl, by rw [h]; exact gt1 181 rfl rfl⟩
theorem fl_4_133 {M : PM} (h : (mY M).cls = RX4) : FldOK M 133 0 9 .int false := ⟨RX0, TX0, 19, rfl, by decide, rfl, rfl, rfl, by rw [h]; exact gt1 183 rfl rfl⟩
theorem fl_4_136 {M : PM} (h : (mY M).cls = RX4) : FldOK M 136 0 10 .int false := ⟨RX0, TX0, 19, rfl, by decide, rfl, rfl, rfl, by rw [h]; exact gt1 187 rfl rfl⟩
theorem fl_4_139 {M : PM} (h : (mY M).cls = RX4) : FldOK M 139 0 11 .int false := ⟨RX0, TX0, 19, rfl, by decide, rfl, rfl, rfl, by rw [h]; exact gt1 189 rfl rfl⟩
theorem fl_4_142 {M : PM} (h : (mY M).cls = RX4) : FldOK M 142 0 14 (.array .int) true := ⟨RX0, TX0, 19, rfl, by decide, rfl, rfl, rfl, by rw [h]; exact gt1 196 rfl rfl⟩
theorem fl_4_15 {M : PM} (h : (mY M).cls = RX4) : FldOK M 15 4 4 (.array .boolean) true := ⟨RX4, TX4, 7, rfl, by decide, rfl, rfl, rfl, by rw [h]; exact gt2 34 rfl rfl⟩
theorem fl_4_154 {M : PM} (h : (mY M).cls = RX4) : FldOK M 154 8 5 .int false := ⟨RX8, TX8, 10, rfl, by decide, rfl, rfl, rfl, by rw [h]; exact gt1 98 rfl rfl⟩
theorem fl_4_159 {M : PM} (h : (mY M).cls = RX4) : FldOK M 159 0 15 (.array .int) true := ⟨RX0, TX0, 19, rfl, by decide, rfl, rfl, rfl, by rw [h]; exact gt1 198 rfl rfl⟩
theorem fl_4_165 {M : PM} (h : (mY M).cls = RX4) : FldOK M 165 0 12 .int false := ⟨RX0, TX0, 19, rfl, by decide, rfl, rfl, rfl, by rw [h]; exact gt1 192 rfl rfl⟩
theorem fl_4_168 {M : PM} (h : (mY M).cls = RX4) : FldOK M 168 8 7 .long false := ⟨RX8, TX8, 10, rfl, by decide, rfl, rfl, rfl, by rw [h]; exact gt1 102 rfl rfl⟩
theorem fl_4_19 {M : PM} (h : (mY M).cls = RX4) : FldOK M 19 4 5 (.array .boolean) true := ⟨RX4, TX4, 7, rfl, by decide, rfl, rfl, rfl, by rw [h]; exact gt2 35 rfl rfl⟩
theorem fl_4_22 {M : PM} (h : (mY M).cls = RX4) : FldOK M 22 4 6 .int false := ⟨RX4, TX4, 7, rfl, by decide, rfl, rfl, rfl, by rw [h]; exact gt2 36 rfl rfl⟩
theorem fl_4_26 {M : PM} (h : (mY M).cls = RX4) : FldOK M 26 4 0 (.object "LastsEvening$Tape") true := ⟨RX4, TX4, 7, rfl, by decide, rfl, rfl, rfl, by rw [h]; exact gt2 30 rfl rfl⟩
theorem fl_4_30 {M : PM} (h : (mY M).cls = RX4) : FldOK M 30 4 1 (.object "LastsEvening$House") true := ⟨RX4, TX4, 7, rfl, by decide, rfl, rfl, rfl, by rw [h]; exact gt2 31 rfl rfl⟩
theorem fl_4_34 {M : PM} (h : (mY M).cls = RX4) : FldOK M 34 4 2 (.object "LastsEvening$Script") true := ⟨RX4, TX4, 7, rfl, by decide, rfl, rfl, rfl, by rw [h]; exact gt2 32 rfl rfl⟩
theorem fl_4_56 {M : PM} (h : (mY M).cls = RX4) : FldOK M 56 0 0 .int false := ⟨RX0, TX0, 19, rfl, by decide, rfl, rfl, rfl, by rw [h]; exact gt1 152 rfl rfl⟩
theorem fl_4_72 {M : PM} (h : (mY M).cls = RX4) : FldOK M 72 8 8 .int false := ⟨RX8, TX8, 10, rfl, by decide, rfl, rfl, rfl, by rw [h]; exact gt1 104 rfl rfl⟩
theorem fl_4_75 {M : PM} (h : (mY M).cls = RX4) : FldOK M 75 6 2 .int false := ⟨RX6, TX6, 3, rfl, by decide, rfl, rfl, rfl, by rw [h]; exact gt2 15 rfl rfl⟩
theorem fl_4_83 {M : PM} (h : (mY M).cls = RX4) : FldOK M 83 8 2 .int false := ⟨RX8, TX8, 10, rfl, by decide, rfl, rfl, rfl, by rw [h]; exact gt1 94 rfl rfl⟩
theorem fl_4_86 {M : PM} (h : (mY M).cls = RX4) : FldOK M 86 8 6 .int false := ⟨RX8, TX8, 10, rfl, by decide, rfl, rfl, rfl, by rw [h]; exact gt1 100 rfl rfl⟩
theorem fl_4_9 {M : PM} (h : (mY M).cls = RX4) : FldOK M 9 4 3 (.array .long) true := ⟨RX4, TX4, 7, rfl, by decide, rfl, rfl, rfl, by rw [h]; exact gt2 33 rfl rfl⟩
theorem fl_5_15 {M : PM} (h : (mY M).cls = RX5) : FldOK M 15 5 3 (.array .int) false := ⟨RX5, TX5, 5, rfl, by decide, rfl, rfl, rfl, by rw [h]; exact gt2 189 rfl rfl⟩
theorem fl_5_19 {M : PM} (h : (mY M).cls = RX5) : FldOK M 19 5 4 (.array .int) false := ⟨RX5, TX5, 5, rfl, by decide, rfl, rfl, rfl, by rw [h]; exact gt2 190 rfl rfl⟩
theorem fl_5_22 {M : PM} (h : (mY M).cls = RX5) : FldOK M 22 5 0 (.object "LastsEvening$House") true := ⟨RX5, TX5, 5, rfl, by decide, rfl, rfl, rfl, by rw [h]; exact gt2 186 rfl rfl⟩
theorem fl_5_26 {M : PM} (h : (mY M).cls = RX5) : FldOK M 26 5 1 (.object "LastsEvening$Means") true := ⟨RX5, TX5, 5, rfl, by decide, rfl, rfl, rfl, by rw [h]; exact gt2 187 rfl rfl⟩
theorem fl_5_30 {M : PM} (h : (mY M).cls = RX5) : FldOK M 30 0 0 .int false := ⟨RX0, TX0, 19, rfl, by decide, rfl, rfl, rfl, by rw [h]; exact gt1 151 rfl rfl⟩
theorem fl_5_35 {M : PM} (h : (mY M).cls = RX5) : FldOK M 35 0 1 .int false := ⟨RX0, TX0, 19, rfl, by decide, rfl, rfl, rfl, by rw [h]; exact gt1 159 rfl rfl⟩
theorem fl_5_9 {M : PM} (h : (mY M).cls = RX5) : FldOK M 9 5 2 .int false := ⟨RX5, TX5, 5, rfl, by decide, rfl, rfl, rfl, by rw [h]; exact gt2 188 rfl rfl⟩
theorem fl_6_15 {M : PM} (h : (mY M).cls = RX6) : FldOK M 15 6 1 (.array .int) true := ⟨RX6, TX6, 3, rfl, by decide, rfl, rfl, rfl, by rw [h]; exact gt2 12 rfl rfl⟩
theorem fl_6_18 {M : PM} (h : (mY M).cls = RX6) : FldOK M 18 6 2 .int false := ⟨RX6, TX6, 3, rfl, by decide, rfl, rfl, rfl, by rw [h]; exact gt2 14 rfl rfl⟩
theorem fl_6_9 {M : PM} (h : (mY M).cls = RX6) : FldOK M 9 6 0 (.array .int) true := ⟨RX6, TX6, 3, rfl, by decide, rfl, rfl, rfl, by rw [h]; exact gt2 10 rfl rfl⟩
theorem fl_7_11 {M : PM} (h : (mY M).cls = RX7) : FldOK M 11 7 0 (.array .int) true := ⟨RX7, TX7, 4, rfl, by decide, rfl, rfl, rfl, by rw [h]; exact gt2 208 rfl rfl⟩
theorem fl_7_15 {M : PM} (h : (mY M).cls = RX7) : FldOK M 15 7 2 (.array .int) false := ⟨RX7, TX7, 4, rfl, by decide, rfl, rfl, rfl, by rw [h]; exact gt2 210 rfl rfl⟩
theorem fl_7_18 {M : PM} (h : (mY M).cls = RX7) : FldOK M 18 7 3 (.array .int) false := ⟨RX7, TX7, 4, rfl, by decide, rfl, rfl, rfl, by rw [h]; exact gt2 211 rfl rfl⟩
theorem fl_7_21 {M : PM} (h : (mY M).cls = RX7) : FldOK M 21 7 1 (.object "LastsEvening$House") true := ⟨RX7, TX7, 4, rfl, by decide, rfl, rfl, rfl, by rw [h]; exact gt2 209 rfl rfl⟩
theorem fl_7_25 {M : PM} (h : (mY M).cls = RX7) : FldOK M 25 3 0 .int false := ⟨RX3, TX3, 14, rfl, by decide, rfl, rfl, rfl, by rw [h]; exact gt2 60 rfl rfl⟩
theorem fl_7_35 {M : PM} (h : (mY M).cls = RX7) : FldOK M 35 3 1 .int false := ⟨RX3, TX3, 14, rfl, by decide, rfl, rfl, rfl, by rw [h]; exact gt2 64 rfl rfl⟩
theorem fl_7_38 {M : PM} (h : (mY M).cls = RX7) : FldOK M 38 3 12 .boolean false := ⟨RX3, TX3, 14, rfl, by decide, rfl, rfl, rfl, by rw [h]; exact gt2 88 rfl rfl⟩
theorem fl_7_46 {M : PM} (h : (mY M).cls = RX7) : FldOK M 46 0 1 .int false := ⟨RX0, TX0, 19, rfl, by decide, rfl, rfl, rfl, by rw [h]; exact gt1 160 rfl rfl⟩
theorem fl_7_56 {M : PM} (h : (mY M).cls = RX7) : FldOK M 56 0 0 .int false := ⟨RX0, TX0, 19, rfl, by decide, rfl, rfl, rfl, by rw [h]; exact gt1 156 rfl rfl⟩
theorem fl_8_15 {M : PM} (h : (mY M).cls = RX8) : FldOK M 15 8 1 .int false := ⟨RX8, TX8, 10, rfl, by decide, rfl, rfl, rfl, by rw [h]; exact gt1 91 rfl rfl⟩
theorem fl_8_19 {M : PM} (h : (mY M).cls = RX8) : FldOK M 19 8 2 .int false := ⟨RX8, TX8, 10, rfl, by decide, rfl, rfl, rfl, by rw [h]; exact gt1 93 rfl rfl⟩
theorem fl_8_22 {M : PM} (h : (mY M).cls = RX8) : FldOK M 22 8 3 .int false := ⟨RX8, TX8, 10, rfl, by decide, rfl, rfl, rfl, by rw [h]; exact gt1 95 rfl rfl⟩
theorem fl_8_25 {M : PM} (h : (mY M).cls = RX8) : FldOK M 25 8 4 .int false := ⟨RX8, TX8, 10, rfl, by decide, rfl, rfl, rfl, by rw [h]; exact gt1 96 rfl rfl⟩
theorem fl_8_28 {M : PM} (h : (mY M).cls = RX8) : FldOK M 28 8 5 .int false := ⟨RX8, TX8, 10, rfl, by decide, rfl, rfl, rfl, by rw [h]; exact gt1 97 rfl rfl⟩
theorem fl_8_31 {M : PM} (h : (mY M).cls = RX8) : FldOK M 31 8 6 .int false := ⟨RX8, TX8, 10, rfl, by decide, rfl, rfl, rfl, by rw [h]; exact gt1 99 rfl rfl⟩
theorem fl_8_34 {M : PM} (h : (mY M).cls = RX8) : FldOK M 34 8 7 .long false := ⟨RX8, TX8, 10, rfl, by decide, rfl, rfl, rfl, by rw [h]; exact gt1 101 rfl rfl⟩
theorem fl_8_38 {M : PM} (h : (mY M).cls = RX8) : FldOK M 38 8 8 .int false := ⟨RX8, TX8, 10, rfl, by decide, rfl, rfl, rfl, by rw [h]; exact gt1 103 rfl rfl⟩
theorem fl_8_41 {M : PM} (h : (mY M).cls = RX8) : FldOK M 41 8 9 (.array .long) true := ⟨RX8, TX8, 10, rfl, by decide, rfl, rfl, rfl, by rw [h]; exact gt1 105 rfl rfl⟩
theorem fl_8_9 {M : PM} (h : (mY M).cls = RX8) : FldOK M 9 8 0 (.array .byte) true := ⟨RX8, TX8, 10, rfl, by decide, rfl, rfl, rfl, by rw [h]; exact gt1 90 rfl rfl⟩
theorem fl_9_15 {M : PM} (h : (mY M).cls = RX9) : FldOK M 15 9 4 (.array .int) false := ⟨RX9, TX9, 6, rfl, by decide, rfl, rfl, rfl, by rw [h]; exact gt2 134 rfl rfl⟩
theorem fl_9_18 {M : PM} (h : (mY M).cls = RX9) : FldOK M 18 9 5 .int false := ⟨RX9, TX9, 6, rfl, by decide, rfl, rfl, rfl, by rw [h]; exact gt2 135 rfl rfl⟩
theorem fl_9_22 {M : PM} (h : (mY M).cls = RX9) : FldOK M 22 9 0 (.object "LastsEvening$House") true := ⟨RX9, TX9, 6, rfl, by decide, rfl, rfl, rfl, by rw [h]; exact gt2 130 rfl rfl⟩
theorem fl_9_26 {M : PM} (h : (mY M).cls = RX9) : FldOK M 26 9 1 .boolean true := ⟨RX9, TX9, 6, rfl, by decide, rfl, rfl, rfl, by rw [h]; exact gt2 131 rfl rfl⟩
theorem fl_9_30 {M : PM} (h : (mY M).cls = RX9) : FldOK M 30 9 2 .boolean true := ⟨RX9, TX9, 6, rfl, by decide, rfl, rfl, rfl, by rw [h]; exact gt2 132 rfl rfl⟩
theorem fl_9_33 {M : PM} (h : (mY M).cls = RX9) : FldOK M 33 0 0 .int false := ⟨RX0, TX0, 19, rfl, by decide, rfl, rfl, rfl, by rw [h]; exact gt1 150 rfl rfl⟩
theorem fl_9_70 {M : PM} (h : (mY M).cls = RX9) : FldOK M 70 0 1 .int false := ⟨RX0, TX0, 19, rfl, by decide, rfl, rfl, rfl, by rw [h]; exact gt1 161 rfl rfl⟩
theorem fl_9_77 {M : PM} (h : (mY M).cls = RX9) : FldOK M 77 0 2 .int false := ⟨RX0, TX0, 19, rfl, by decide, rfl, rfl, rfl, by rw [h]; exact gt1 167 rfl rfl⟩
theorem fl_9_9 {M : PM} (h : (mY M).cls = RX9) : FldOK M 9 9 3 (.array .int) true := ⟨RX9, TX9, 6, rfl, by decide, rfl, rfl, rfl, by rw [h]; exact gt2 133 rfl rfl⟩
theorem fl_10_101 {M : PM} (h : (mY M).cls = RX10) : FldOK M 101 10 16 (.object "LastsEvening$Readings") true := ⟨RX10, TX10, 18, rfl, by decide, rfl, rfl, rfl, by rw [h]; exact gt3 43 rfl rfl⟩
theorem fl_10_108 {M : PM} (h : (mY M).cls = RX10) : FldOK M 108 10 17 (.object "LastsEvening$Shares") true := ⟨RX10, TX10, 18, rfl, by decide, rfl, rfl, rfl, by rw [h]; exact gt3 44 rfl rfl⟩
theorem fl_10_12 {M : PM} (h : (mY M).cls = RX10) : FldOK M 12 10 0 (.object "LastsEvening$Tape") true := ⟨RX10, TX10, 18, rfl, by decide, rfl, rfl, rfl, by rw [h]; exact gt3 27 rfl rfl⟩
theorem fl_10_120 {M : PM} (h : (mY M).cls = RX10) : FldOK M 120 8 1 .int false := ⟨RX8, TX8, 10, rfl, by decide, rfl, rfl, rfl, by rw [h]; exact gt1 92 rfl rfl⟩
theorem fl_10_134 {M : PM} (h : (mY M).cls = RX10) : FldOK M 134 0 0 .int false := ⟨RX0, TX0, 19, rfl, by decide, rfl, rfl, rfl, by rw [h]; exact gt1 155 rfl rfl⟩
theorem fl_10_170 {M : PM} (h : (mY M).cls = RX10) : FldOK M 170 3 0 .int false := ⟨RX3, TX3, 14, rfl, by decide, rfl, rfl, rfl, by rw [h]; exact gt2 62 rfl rfl⟩
theorem fl_10_189 {M : PM} (h : (mY M).cls = RX10) : FldOK M 189 6 2 .int false := ⟨RX6, TX6, 3, rfl, by decide, rfl, rfl, rfl, by rw [h]; exact gt2 16 rfl rfl⟩
theorem fl_10_19 {M : PM} (h : (mY M).cls = RX10) : FldOK M 19 10 1 (.object "LastsEvening$House") true := ⟨RX10, TX10, 18, rfl, by decide, rfl, rfl, rfl, by rw [h]; exact gt3 28 rfl rfl⟩
theorem fl_10_192 {M : PM} (h : (mY M).cls = RX10) : FldOK M 192 6 0 (.array .int) true := ⟨RX6, TX6, 3, rfl, by decide, rfl, rfl, rfl, by rw [h]; exact gt2 11 rfl rfl⟩
theorem fl_10_200 {M : PM} (h : (mY M).cls = RX10) : FldOK M 200 6 1 (.array .int) true := ⟨RX6, TX6, 3, rfl, by decide, rfl, rfl, rfl, by rw [h]; exact gt2 13 rfl rfl⟩
theorem fl_10_203 {M : PM} (h : (mY M).cls = RX10) : FldOK M 203 3 1 .int false := ⟨RX3, TX3, 14, rfl, by decide, rfl, rfl, rfl, by rw [h]; exact gt2 66 rfl rfl⟩
theorem fl_10_206 {M : PM} (h : (mY M).cls = RX10) : FldOK M 206 3 2 .int false := ⟨RX3, TX3, 14, rfl, by decide, rfl, rfl, rfl, by rw [h]; exact gt2 69 rfl rfl⟩
theorem fl_10_209 {M : PM} (h : (mY M).cls = RX10) : FldOK M 209 3 3 .int false := ⟨RX3, TX3, 14, rfl, by decide, rfl, rfl, rfl, by rw [h]; exact gt2 71 rfl rfl⟩
theorem fl_10_220 {M : PM} (h : (mY M).cls = RX10) : FldOK M 220 3 5 .int false := ⟨RX3, TX3, 14, rfl, by decide, rfl, rfl, rfl, by rw [h]; exact gt2 75 rfl rfl⟩
theorem fl_10_223 {M : PM} (h : (mY M).cls = RX10) : FldOK M 223 0 1 .int false := ⟨RX0, TX0, 19, rfl, by decide, rfl, rfl, rfl, by rw [h]; exact gt1 163 rfl rfl⟩
theorem fl_10_226 {M : PM} (h : (mY M).cls = RX10) : FldOK M 226 0 2 .int false := ⟨RX0, TX0, 19, rfl, by decide, rfl, rfl, rfl, by rw [h]; exact gt1 168 rfl rfl⟩
theorem fl_10_23 {M : PM} (h : (mY M).cls = RX10) : FldOK M 23 10 2 (.object "LastsEvening$House") true := ⟨RX10, TX10, 18, rfl, by decide, rfl, rfl, rfl, by rw [h]; exact gt3 29 rfl rfl⟩
theorem fl_10_234 {M : PM} (h : (mY M).cls = RX10) : FldOK M 234 3 12 .boolean false := ⟨RX3, TX3, 14, rfl, by decide, rfl, rfl, rfl, by rw [h]; exact gt2 90 rfl rfl⟩
theorem fl_10_249 {M : PM} (h : (mY M).cls = RX10) : FldOK M 249 3 10 .boolean false := ⟨RX3, TX3, 14, rfl, by decide, rfl, rfl, rfl, by rw [h]; exact gt2 85 rfl rfl⟩
theorem fl_10_267 {M : PM} (h : (mY M).cls = RX10) : FldOK M 267 0 12 .int false := ⟨RX0, TX0, 19, rfl, by decide, rfl, rfl, rfl, by rw [h]; exact gt1 193 rfl rfl⟩
theorem fl_10_274 {M : PM} (h : (mY M).cls = RX10) : FldOK M 274 3 4 .int false := ⟨RX3, TX3, 14, rfl, by decide, rfl, rfl, rfl, by rw [h]; exact gt2 73 rfl rfl⟩
theorem fl_10_29 {M : PM} (h : (mY M).cls = RX10) : FldOK M 29 10 3 (.object "LastsEvening$Script") true := ⟨RX10, TX10, 18, rfl, by decide, rfl, rfl, rfl, by rw [h]; exact gt3 30 rfl rfl⟩
theorem fl_10_290 {M : PM} (h : (mY M).cls = RX10) : FldOK M 290 0 11 .int false := ⟨RX0, TX0, 19, rfl, by decide, rfl, rfl, rfl, by rw [h]; exact gt1 190 rfl rfl⟩
theorem fl_10_299 {M : PM} (h : (mY M).cls = RX10) : FldOK M 299 3 7 .int false := ⟨RX3, TX3, 14, rfl, by decide, rfl, rfl, rfl, by rw [h]; exact gt2 79 rfl rfl⟩
theorem fl_10_307 {M : PM} (h : (mY M).cls = RX10) : FldOK M 307 1 2 .boolean false := ⟨RX1, TX1, 3, rfl, by decide, rfl, rfl, rfl, by rw [h]; exact gt2 235 rfl rfl⟩
theorem fl_10_310 {M : PM} (h : (mY M).cls = RX10) : FldOK M 310 1 0 (.object "LastsEvening$Night") true := ⟨RX1, TX1, 3, rfl, by decide, rfl, rfl, rfl, by rw [h]; exact gt2 231 rfl rfl⟩
theorem fl_10_313 {M : PM} (h : (mY M).cls = RX10) : FldOK M 313 1 1 (.object "LastsEvening$Script") true := ⟨RX1, TX1, 3, rfl, by decide, rfl, rfl, rfl, by rw [h]; exact gt2 233 rfl rfl⟩
theorem fl_10_317 {M : PM} (h : (mY M).cls = RX10) : FldOK M 317 3 9 .boolean false := ⟨RX3, TX3, 14, rfl, by decide, rfl, rfl, rfl, by rw [h]; exact gt2 83 rfl rfl⟩
theorem fl_10_320 {M : PM} (h : (mY M).cls = RX10) : FldOK M 320 3 6 .int false := ⟨RX3, TX3, 14, rfl, by decide, rfl, rfl, rfl, by rw [h]; exact gt2 77 rfl rfl⟩
theorem fl_10_323 {M : PM} (h : (mY M).cls = RX10) : FldOK M 323 3 8 .boolean false := ⟨RX3, TX3, 14, rfl, by decide, rfl, rfl, rfl, by rw [h]; exact gt2 81 rfl rfl⟩
theorem fl_10_33 {M : PM} (h : (mY M).cls = RX10) : FldOK M 33 10 4 (.object "LastsEvening$Script") true := ⟨RX10, TX10, 18, rfl, by decide, rfl, rfl, rfl, by rw [h]; exact gt3 31 rfl rfl⟩
theorem fl_10_41 {M : PM} (h : (mY M).cls = RX10) : FldOK M 41 10 5 (.object "LastsEvening$Reader") true := ⟨RX10, TX10, 18, rfl, by decide, rfl, rfl, rfl, by rw [h]; exact gt3 32 rfl rfl⟩
theorem fl_10_48 {M : PM} (h : (mY M).cls = RX10) : FldOK M 48 10 6 (.object "LastsEvening$Night") true := ⟨RX10, TX10, 18, rfl, by decide, rfl, rfl, rfl, by rw [h]; exact gt3 33 rfl rfl⟩
theorem fl_10_52 {M : PM} (h : (mY M).cls = RX10) : FldOK M 52 10 7 (.object "LastsEvening$Night") true := ⟨RX10, TX10, 18, rfl, by decide, rfl, rfl, rfl, by rw [h]; exact gt3 34 rfl rfl⟩
theorem fl_10_55 {M : PM} (h : (mY M).cls = RX10) : FldOK M 55 10 8 (.array (.object "LastsEvening$Night")) true := ⟨RX10, TX10, 18, rfl, by decide, rfl, rfl, rfl, by rw [h]; exact gt3 35 rfl rfl⟩
theorem fl_10_59 {M : PM} (h : (mY M).cls = RX10) : FldOK M 59 10 9 .int false := ⟨RX10, TX10, 18, rfl, by decide, rfl, rfl, rfl, by rw [h]; exact gt3 36 rfl rfl⟩
theorem fl_10_63 {M : PM} (h : (mY M).cls = RX10) : FldOK M 63 10 10 .int false := ⟨RX10, TX10, 18, rfl, by decide, rfl, rfl, rfl, by rw [h]; exact gt3 37 rfl rfl⟩
theorem fl_10_68 {M : PM} (h : (mY M).cls = RX10) : FldOK M 68 10 11 (.array (.object "LastsEvening$Mark")) true := ⟨RX10, TX10, 18, rfl, by decide, rfl, rfl, rfl, by rw [h]; exact gt3 38 rfl rfl⟩
theorem fl_10_77 {M : PM} (h : (mY M).cls = RX10) : FldOK M 77 10 12 (.object "LastsEvening$Values") true := ⟨RX10, TX10, 18, rfl, by decide, rfl, rfl, rfl, by rw [h]; exact gt3 39 rfl rfl⟩
theorem fl_10_81 {M : PM} (h : (mY M).cls = RX10) : FldOK M 81 10 13 (.object "LastsEvening$Values") true := ⟨RX10, TX10, 18, rfl, by decide, rfl, rfl, rfl, by rw [h]; exact gt3 40 rfl rfl⟩
theorem fl_10_84 {M : PM} (h : (mY M).cls = RX10) : FldOK M 84 10 14 (.object "LastsEvening$Values") true := ⟨RX10, TX10, 18, rfl, by decide, rfl, rfl, rfl, by rw [h]; exact gt3 41 rfl rfl⟩
theorem fl_10_92 {M : PM} (h : (mY M).cls = RX10) : FldOK M 92 10 15 (.object "LastsEvening$Means") true := ⟨RX10, TX10, 18, rfl, by decide, rfl, rfl, rfl, by rw [h]; exact gt3 42 rfl rfl⟩
theorem fl_11_100 {M : PM} (h : (mY M).cls = RX11) : FldOK M 100 11 48 (.array .int) true := ⟨RX11, TX11, 54, rfl, by decide, rfl, rfl, rfl, by rw [h]; exact gt6 157 rfl rfl⟩
theorem fl_11_103 {M : PM} (h : (mY M).cls = RX11) : FldOK M 103 11 49 (.array .int) true := ⟨RX11, TX11, 54, rfl, by decide, rfl, rfl, rfl, by rw [h]; exact gt6 158 rfl rfl⟩
theorem fl_11_106 {M : PM} (h : (mY M).cls = RX11) : FldOK M 106 11 51 (.array .long) true := ⟨RX11, TX11, 54, rfl, by decide, rfl, rfl, rfl, by rw [h]; exact gt6 160 rfl rfl⟩
theorem fl_11_109 {M : PM} (h : (mY M).cls = RX11) : FldOK M 109 11 52 (.array .long) true := ⟨RX11, TX11, 54, rfl, by decide, rfl, rfl, rfl, by rw [h]; exact gt6 161 rfl rfl⟩
theorem fl_11_119 {M : PM} (h : (mY M).cls = RX11) : FldOK M 119 11 0 .int false := ⟨RX11, TX11, 54, rfl, by decide, rfl, rfl, rfl, by rw [h]; exact gt6 109 rfl rfl⟩
theorem fl_11_125 {M : PM} (h : (mY M).cls = RX11) : FldOK M 125 11 1 .int false := ⟨RX11, TX11, 54, rfl, by decide, rfl, rfl, rfl, by rw [h]; exact gt6 110 rfl rfl⟩
theorem fl_11_128 {M : PM} (h : (mY M).cls = RX11) : FldOK M 128 11 3 .int false := ⟨RX11, TX11, 54, rfl, by decide, rfl, rfl, rfl, by rw [h]; exact gt6 112 rfl rfl⟩
theorem fl_11_13 {M : PM} (h : (mY M).cls = RX11) : FldOK M 13 11 10 (.array .int) true := ⟨RX11, TX11, 54, rfl, by decide, rfl, rfl, rfl, by rw [h]; exact gt6 119 rfl rfl⟩
theorem fl_11_131 {M : PM} (h : (mY M).cls = RX11) : FldOK M 131 11 4 .int false := ⟨RX11, TX11, 54, rfl, by decide, rfl, rfl, rfl, by rw [h]; exact gt6 113 rfl rfl⟩
theorem fl_11_134 {M : PM} (h : (mY M).cls = RX11) : FldOK M 134 11 5 .int false := ⟨RX11, TX11, 54, rfl, by decide, rfl, rfl, rfl, by rw [h]; exact gt6 114 rfl rfl⟩
theorem fl_11_137 {M : PM} (h : (mY M).cls = RX11) : FldOK M 137 11 7 .long false := ⟨RX11, TX11, 54, rfl, by decide, rfl, rfl, rfl, by rw [h]; exact gt6 116 rfl rfl⟩
theorem fl_11_141 {M : PM} (h : (mY M).cls = RX11) : FldOK M 141 11 8 .int false := ⟨RX11, TX11, 54, rfl, by decide, rfl, rfl, rfl, by rw [h]; exact gt6 117 rfl rfl⟩
theorem fl_11_144 {M : PM} (h : (mY M).cls = RX11) : FldOK M 144 11 6 .int false := ⟨RX11, TX11, 54, rfl, by decide, rfl, rfl, rfl, by rw [h]; exact gt6 115 rfl rfl⟩
theorem fl_11_155 {M : PM} (h : (mY M).cls = RX11) : FldOK M 155 11 9 .int false := ⟨RX11, TX11, 54, rfl, by decide, rfl, rfl, rfl, by rw [h]; exact gt6 118 rfl rfl⟩
theorem fl_11_158 {M : PM} (h : (mY M).cls = RX11) : FldOK M 158 11 17 .int false := ⟨RX11, TX11, 54, rfl, by decide, rfl, rfl, rfl, by rw [h]; exact gt6 126 rfl rfl⟩
theorem fl_11_16 {M : PM} (h : (mY M).cls = RX11) : FldOK M 16 11 11 (.array .int) true := ⟨RX11, TX11, 54, rfl, by decide, rfl, rfl, rfl, by rw [h]; exact gt6 120 rfl rfl⟩
theorem fl_11_19 {M : PM} (h : (mY M).cls = RX11) : FldOK M 19 11 12 (.array .boolean) true := ⟨RX11, TX11, 54, rfl, by decide, rfl, rfl, rfl, by rw [h]; exact gt6 121 rfl rfl⟩
theorem fl_11_23 {M : PM} (h : (mY M).cls = RX11) : FldOK M 23 11 13 (.array .long) true := ⟨RX11, TX11, 54, rfl, by decide, rfl, rfl, rfl, by rw [h]; exact gt6 122 rfl rfl⟩
theorem fl_11_251 {M : PM} (h : (mY M).cls = RX11) : FldOK M 251 11 31 .int false := ⟨RX11, TX11, 54, rfl, by decide, rfl, rfl, rfl, by rw [h]; exact gt6 140 rfl rfl⟩
theorem fl_11_261 {M : PM} (h : (mY M).cls = RX11) : FldOK M 261 11 18 .int false := ⟨RX11, TX11, 54, rfl, by decide, rfl, rfl, rfl, by rw [h]; exact gt6 127 rfl rfl⟩
theorem fl_11_27 {M : PM} (h : (mY M).cls = RX11) : FldOK M 27 11 14 (.array .int) true := ⟨RX11, TX11, 54, rfl, by decide, rfl, rfl, rfl, by rw [h]; exact gt6 123 rfl rfl⟩
theorem fl_11_30 {M : PM} (h : (mY M).cls = RX11) : FldOK M 30 11 15 (.array .int) true := ⟨RX11, TX11, 54, rfl, by decide, rfl, rfl, rfl, by rw [h]; exact gt6 124 rfl rfl⟩
theorem fl_11_309 {M : PM} (h : (mY M).cls = RX11) : FldOK M 309 11 40 .int false := ⟨RX11, TX11, 54, rfl, by decide, rfl, rfl, rfl, by rw [h]; exact gt6 149 rfl rfl⟩
theorem fl_11_319 {M : PM} (h : (mY M).cls = RX11) : FldOK M 319 11 41 .int false := ⟨RX11, TX11, 54, rfl, by decide, rfl, rfl, rfl, by rw [h]; exact gt6 150 rfl rfl⟩
theorem fl_11_322 {M : PM} (h : (mY M).cls = RX11) : FldOK M 322 11 42 .int false := ⟨RX11, TX11, 54, rfl, by decide, rfl, rfl, rfl, by rw [h]; exact gt6 151 rfl rfl⟩
theorem fl_11_325 {M : PM} (h : (mY M).cls = RX11) : FldOK M 325 11 43 .int false := ⟨RX11, TX11, 54, rfl, by decide, rfl, rfl, rfl, by rw [h]; exact gt6 152 rfl rfl⟩
theorem fl_11_33 {M : PM} (h : (mY M).cls = RX11) : FldOK M 33 11 16 (.array .int) true := ⟨RX11, TX11, 54, rfl, by decide, rfl, rfl, rfl, by rw [h]; exact gt6 125 rfl rfl⟩
theorem fl_11_36 {M : PM} (h : (mY M).cls = RX11) : FldOK M 36 11 19 (.array .int) true := ⟨RX11, TX11, 54, rfl, by decide, rfl, rfl, rfl, by rw [h]; exact gt6 128 rfl rfl⟩
theorem fl_11_39 {M : PM} (h : (mY M).cls = RX11) : FldOK M 39 11 20 (.array .boolean) true := ⟨RX11, TX11, 54, rfl, by decide, rfl, rfl, rfl, by rw [h]; exact gt6 129 rfl rfl⟩
theorem fl_11_390 {M : PM} (h : (mY M).cls = RX11) : FldOK M 390 11 47 .int false := ⟨RX11, TX11, 54, rfl, by decide, rfl, rfl, rfl, by rw [h]; exact gt6 156 rfl rfl⟩
theorem fl_11_393 {M : PM} (h : (mY M).cls = RX11) : FldOK M 393 11 46 .boolean false := ⟨RX11, TX11, 54, rfl, by decide, rfl, rfl, rfl, by rw [h]; exact gt6 155 rfl rfl⟩
theorem fl_11_397 {M : PM} (h : (mY M).cls = RX11) : FldOK M 397 11 45 .boolean false := ⟨RX11, TX11, 54, rfl, by decide, rfl, rfl, rfl, by rw [h]; exact gt6 154 rfl rfl⟩
theorem fl_11_42 {M : PM} (h : (mY M).cls = RX11) : FldOK M 42 11 21 (.array .int) true := ⟨RX11, TX11, 54, rfl, by decide, rfl, rfl, rfl, by rw [h]; exact gt6 130 rfl rfl⟩
theorem fl_11_45 {M : PM} (h : (mY M).cls = RX11) : FldOK M 45 11 22 (.array .int) true := ⟨RX11, TX11, 54, rfl, by decide, rfl, rfl, rfl, by rw [h]; exact gt6 131 rfl rfl⟩
theorem fl_11_464 {M : PM} (h : (mY M).cls = RX11) : FldOK M 464 11 50 .int false := ⟨RX11, TX11, 54, rfl, by decide, rfl, rfl, rfl, by rw [h]; exact gt6 159 rfl rfl⟩
theorem fl_11_476 {M : PM} (h : (mY M).cls = RX11) : FldOK M 476 11 53 .long false := ⟨RX11, TX11, 54, rfl, by decide, rfl, rfl, rfl, by rw [h]; exact gt6 162 rfl rfl⟩
theorem fl_11_48 {M : PM} (h : (mY M).cls = RX11) : FldOK M 48 11 23 (.array .int) true := ⟨RX11, TX11, 54, rfl, by decide, rfl, rfl, rfl, by rw [h]; exact gt6 132 rfl rfl⟩
theorem fl_11_51 {M : PM} (h : (mY M).cls = RX11) : FldOK M 51 11 24 (.array .int) true := ⟨RX11, TX11, 54, rfl, by decide, rfl, rfl, rfl, by rw [h]; exact gt6 133 rfl rfl⟩
theorem fl_11_54 {M : PM} (h : (mY M).cls = RX11) : FldOK M 54 11 25 (.array .int) true := ⟨RX11, TX11, 54, rfl, by decide, rfl, rfl, rfl, by rw [h]; exact gt6 134 rfl rfl⟩
theorem fl_11_57 {M : PM} (h : (mY M).cls = RX11) : FldOK M 57 11 26 (.array .int) true := ⟨RX11, TX11, 54, rfl, by decide, rfl, rfl, rfl, by rw [h]; exact gt6 135 rfl rfl⟩
theorem fl_11_60 {M : PM} (h : (mY M).cls = RX11) : FldOK M 60 11 27 (.array .int) true := ⟨RX11, TX11, 54, rfl, by decide, rfl, rfl, rfl, by rw [h]; exact gt6 136 rfl rfl⟩
theorem fl_11_63 {M : PM} (h : (mY M).cls = RX11) : FldOK M 63 11 28 (.array .int) true := ⟨RX11, TX11, 54, rfl, by decide, rfl, rfl, rfl, by rw [h]; exact gt6 137 rfl rfl⟩
theorem fl_11_66 {M : PM} (h : (mY M).cls = RX11) : FldOK M 66 11 29 (.array .int) true := ⟨RX11, TX11, 54, rfl, by decide, rfl, rfl, rfl, by rw [h]; exact gt6 138 rfl rfl⟩
theorem fl_11_69 {M : PM} (h : (mY M).cls = RX11) : FldOK M 69 11 30 (.array .int) true := ⟨RX11, TX11, 54, rfl, by decide, rfl, rfl, rfl, by rw [h]; exact gt6 139 rfl rfl⟩
theorem fl_11_7 {M : PM} (h : (mY M).cls = RX11) : FldOK M 7 11 2 (.array .int) true := ⟨RX11, TX11, 54, rfl, by decide, rfl, rfl, rfl, by rw [h]; exact gt6 111 rfl rfl⟩
theorem fl_11_72 {M : PM} (h : (mY M).cls = RX11) : FldOK M 72 11 32 (.array .int) true := ⟨RX11, TX11, 54, rfl, by decide, rfl, rfl, rfl, by rw [h]; exact gt6 141 rfl rfl⟩
theorem fl_11_75 {M : PM} (h : (mY M).cls = RX11) : FldOK M 75 11 33 (.array .int) true := ⟨RX11, TX11, 54, rfl, by decide, rfl, rfl, rfl, by rw [h]; exact gt6 142 rfl rfl⟩
theorem fl_11_78 {M : PM} (h : (mY M).cls = RX11) : FldOK M 78 11 34 (.array .int) true := ⟨RX11, TX11, 54, rfl, by decide, rfl, rfl, rfl, by rw [h]; exact gt6 143 rfl rfl⟩
theorem fl_11_81 {M : PM} (h : (mY M).cls = RX11) : FldOK M 81 11 35 (.array .int) true := ⟨RX11, TX11, 54, rfl, by decide, rfl, rfl, rfl, by rw [h]; exact gt6 144 rfl rfl⟩
theorem fl_11_84 {M : PM} (h : (mY M).cls = RX11) : FldOK M 84 11 36 (.array .int) true := ⟨RX11, TX11, 54, rfl, by decide, rfl, rfl, rfl, by rw [h]; exact gt6 145 rfl rfl⟩
theorem fl_11_87 {M : PM} (h : (mY M).cls = RX11) : FldOK M 87 11 37 (.array .int) true := ⟨RX11, TX11, 54, rfl, by decide, rfl, rfl, rfl, by rw [h]; exact gt6 146 rfl rfl⟩
theorem fl_11_90 {M : PM} (h : (mY M).cls = RX11) : FldOK M 90 11 38 (.array .int) true := ⟨RX11, TX11, 54, rfl, by decide, rfl, rfl, rfl, by rw [h]; exact gt6 147 rfl rfl⟩
theorem fl_11_93 {M : PM} (h : (mY M).cls = RX11) : FldOK M 93 11 39 (.array .boolean) true := ⟨RX11, TX11, 54, rfl, by decide, rfl, rfl, rfl, by rw [h]; exact gt6 148 rfl rfl⟩
theorem fl_11_97 {M : PM} (h : (mY M).cls = RX11) : FldOK M 97 11 44 (.array .int) true := ⟨RX11, TX11, 54, rfl, by decide, rfl, rfl, rfl, by rw [h]; exact gt6 153 rfl rfl⟩
theorem kc_3_64 : Cond.constant RX3 64 100000 ∈ GW := gt3 18 rfl rfl
theorem kc_3_99 : Cond.constant RX3 99 1000000 ∈ GW := gt4 100 rfl rfl
theorem kc_5_50 : Cond.constant RX5 50 1000000 ∈ GW := gt5 99 rfl rfl
theorem kc_7_55 : Cond.constant RX7 55 1000000 ∈ GW := gt5 40 rfl rfl
theorem kc_10_263 : Cond.constant RX10 263 1000000 ∈ GW := gt5 58 rfl rfl
theorem kc_10_348 : Cond.constant RX10 348 37752 ∈ GW := gt4 176 rfl rfl
theorem kc_10_349 : Cond.constant RX10 349 75504 ∈ GW := gt4 177 rfl rfl
theorem kc_11_302 : Cond.constant RX11 302 100000 ∈ GW := gt6 108 rfl rfl
theorem kc_11_447 : Cond.constant RX11 447 1000000 ∈ GW := gt8 147 rfl rfl
theorem kc_11_96 : Cond.constant RX11 96 78650 ∈ GW := gt6 99 rfl rfl
theorem kc_3_100 : Cond.constantLong RX3 100 1000000 ∈ GW := gt4 101 rfl rfl
theorem kc_7_98 : Cond.constantLong RX7 98 100 ∈ GW := gt6 85 rfl rfl
theorem kc_8_60 : Cond.constantLong RX8 60 255 ∈ GW := gt3 90 rfl rfl
theorem kc_8_90 : Cond.constantLong RX8 90 32 ∈ GW := gt1 89 rfl rfl
theorem kc_10_277 : Cond.constantLong RX10 277 1000000 ∈ GW := gt5 134 rfl rfl
theorem kc_10_293 : Cond.constantLong RX10 293 10 ∈ GW := gt5 135 rfl rfl
theorem kc_10_333 : Cond.constantLong RX10 333 1103515245 ∈ GW := gt5 144 rfl rfl
theorem kc_10_335 : Cond.constantLong RX10 335 12345 ∈ GW := gt5 145 rfl rfl
theorem kc_10_337 : Cond.constantLong RX10 337 2147483648 ∈ GW := gt5 146 rfl rfl
theorem kc_10_339 : Cond.constantLong RX10 339 65536 ∈ GW := gt5 147 rfl rfl
theorem kc_L_45 : Cond.constantLong RL 45 4294967295 ∈ GW := gt8 228 rfl rfl
theorem kc_11_123 : Cond.constantLong RX11 123 255 ∈ GW := gt7 40 rfl rfl
theorem kc_11_151 : Cond.constantLong RX11 151 27 ∈ GW := gt7 61 rfl rfl
theorem kc_11_153 : Cond.constantLong RX11 153 96 ∈ GW := gt7 62 rfl rfl
theorem kc_11_161 : Cond.constantLong RX11 161 7966953928 ∈ GW := gt7 157 rfl rfl
theorem kc_11_163 : Cond.constantLong RX11 163 7055522852 ∈ GW := gt7 158 rfl rfl
theorem kc_11_165 : Cond.constantLong RX11 165 400577 ∈ GW := gt7 159 rfl rfl
theorem kc_11_167 : Cond.constantLong RX11 167 358472 ∈ GW := gt7 160 rfl rfl
theorem kc_11_169 : Cond.constantLong RX11 169 161600 ∈ GW := gt7 161 rfl rfl
theorem kc_11_175 : Cond.constantLong RX11 175 10631 ∈ GW := gt7 146 rfl rfl
theorem kc_11_194 : Cond.constantLong RX11 194 1111 ∈ GW := gt7 147 rfl rfl
theorem kc_11_196 : Cond.constantLong RX11 196 423 ∈ GW := gt7 148 rfl rfl
theorem kc_11_207 : Cond.constantLong RX11 207 4562600 ∈ GW := gt7 63 rfl rfl
theorem kc_11_209 : Cond.constantLong RX11 209 50934 ∈ GW := gt7 95 rfl rfl
theorem kc_11_211 : Cond.constantLong RX11 211 23175793 ∈ GW := gt7 104 rfl rfl
theorem kc_11_213 : Cond.constantLong RX11 213 12532058 ∈ GW := gt7 109 rfl rfl
theorem kc_11_215 : Cond.constantLong RX11 215 338365585 ∈ GW := gt7 110 rfl rfl
theorem kc_11_217 : Cond.constantLong RX11 217 240023 ∈ GW := gt7 115 rfl rfl
theorem kc_11_219 : Cond.constantLong RX11 219 9050609216 ∈ GW := gt7 116 rfl rfl
theorem kc_11_221 : Cond.constantLong RX11 221 103726 ∈ GW := gt7 117 rfl rfl
theorem kc_11_223 : Cond.constantLong RX11 223 131638 ∈ GW := gt7 122 rfl rfl
theorem kc_11_225 : Cond.constantLong RX11 225 464134 ∈ GW := gt7 123 rfl rfl
theorem kc_11_227 : Cond.constantLong RX11 227 79958 ∈ GW := gt7 124 rfl rfl
theorem kc_11_229 : Cond.constantLong RX11 229 355280 ∈ GW := gt7 125 rfl rfl
theorem kc_11_231 : Cond.constantLong RX11 231 11088176 ∈ GW := gt7 126 rfl rfl
theorem kc_11_233 : Cond.constantLong RX11 233 1623097 ∈ GW := gt7 127 rfl rfl
theorem kc_11_235 : Cond.constantLong RX11 235 555 ∈ GW := gt7 132 rfl rfl
theorem kc_11_237 : Cond.constantLong RX11 237 4272932 ∈ GW := gt7 133 rfl rfl
theorem kc_11_239 : Cond.constantLong RX11 239 70340 ∈ GW := gt7 142 rfl rfl
theorem kc_11_241 : Cond.constantLong RX11 241 144941 ∈ GW := gt7 143 rfl rfl
theorem kc_11_243 : Cond.constantLong RX11 243 6888375828 ∈ GW := gt7 144 rfl rfl
theorem kc_11_245 : Cond.constantLong RX11 245 11103 ∈ GW := gt7 145 rfl rfl
theorem kc_11_351 : Cond.constantLong RX11 351 10 ∈ GW := gt7 213 rfl rfl
theorem kc_11_353 : Cond.constantLong RX11 353 1000000 ∈ GW := gt7 214 rfl rfl
theorem kc_11_458 : Cond.constantLong RX11 458 100 ∈ GW := gt8 176 rfl rfl
theorem kc_11_479 : Cond.constantLong RX11 479 1103515245 ∈ GW := gt8 212 rfl rfl
theorem kc_11_481 : Cond.constantLong RX11 481 12345 ∈ GW := gt8 213 rfl rfl
theorem kc_11_483 : Cond.constantLong RX11 483 2147483648 ∈ GW := gt8 214 rfl rfl
theorem kc_11_485 : Cond.constantLong RX11 485 65536 ∈ GW := gt8 215 rfl rfl
theorem cw_1_16 : Cond.classLink RX1 16 RX6 ∈ GW := gt2 228 rfl rfl
theorem cw_1_7 : Cond.classLink RX1 7 RX3 ∈ GW := gt2 226 rfl rfl
theorem cw_10_105 : Cond.classLink RX10 105 RX7 ∈ GW := gt2 202 rfl rfl
theorem cw_10_16 : Cond.classLink RX10 16 RX0 ∈ GW := gt1 129 rfl rfl
theorem cw_10_26 : Cond.classLink RX10 26 RX6 ∈ GW := gt2 4 rfl rfl
theorem cw_10_36 : Cond.classLink RX10 36 RX4 ∈ GW := gt2 24 rfl rfl
theorem cw_10_45 : Cond.classLink RX10 45 RX3 ∈ GW := gt2 53 rfl rfl
theorem cw_10_66 : Cond.classLink RX10 66 RX1 ∈ GW := gt2 122 rfl rfl
theorem cw_10_72 : Cond.classLink RX10 72 RX9 ∈ GW := gt2 124 rfl rfl
theorem cw_10_87 : Cond.classLink RX10 87 RX2 ∈ GW := gt2 149 rfl rfl
theorem cw_10_9 : Cond.classLink RX10 9 RX8 ∈ GW := gt1 31 rfl rfl
theorem cw_10_96 : Cond.classLink RX10 96 RX5 ∈ GW := gt2 180 rfl rfl
theorem cw_L_42 : Cond.classLink RL 42 RX11 ∈ GW := gt6 93 rfl rfl
theorem cw_L_8 : Cond.classLink RL 8 RX10 ∈ GW := gt1 23 rfl rfl
theorem cwx : Cond.classLink RL 13 XN ∈ GW := gt5 169 rfl rfl
theorem cw_x : Cond.classLink RX10 156 XN ∈ GW := gt5 175 rfl rfl
theorem ini_x : Cond.initialized XN ∈ GW := gt1 22 rfl rfl
theorem ins_0 : Cond.instantiable RX0 19 ∈ GW := gt1 130 rfl rfl
theorem ini_0 : Cond.initialized RX0 ∈ GW := gt1 7 rfl rfl
theorem ins_1 : Cond.instantiable RX1 3 ∈ GW := gt2 221 rfl rfl
theorem ini_1 : Cond.initialized RX1 ∈ GW := gt1 15 rfl rfl
theorem ins_2 : Cond.instantiable RX2 8 ∈ GW := gt2 150 rfl rfl
theorem ini_2 : Cond.initialized RX2 ∈ GW := gt1 12 rfl rfl
theorem ins_3 : Cond.instantiable RX3 14 ∈ GW := gt2 54 rfl rfl
theorem ini_3 : Cond.initialized RX3 ∈ GW := gt1 10 rfl rfl
theorem ins_4 : Cond.instantiable RX4 7 ∈ GW := gt2 25 rfl rfl
theorem ini_4 : Cond.initialized RX4 ∈ GW := gt1 9 rfl rfl
theorem ins_5 : Cond.instantiable RX5 5 ∈ GW := gt2 181 rfl rfl
theorem ini_5 : Cond.initialized RX5 ∈ GW := gt1 13 rfl rfl
theorem ins_6 : Cond.instantiable RX6 3 ∈ GW := gt2 5 rfl rfl
theorem ini_6 : Cond.initialized RX6 ∈ GW := gt1 8 rfl rfl
theorem ins_7 : Cond.instantiable RX7 4 ∈ GW := gt2 203 rfl rfl
theorem ini_7 : Cond.initialized RX7 ∈ GW := gt1 14 rfl rfl
theorem ins_8 : Cond.instantiable RX8 10 ∈ GW := gt1 32 rfl rfl
theorem ini_8 : Cond.initialized RX8 ∈ GW := gt1 2 rfl rfl
theorem ins_9 : Cond.instantiable RX9 6 ∈ GW := gt2 125 rfl rfl
theorem ini_9 : Cond.initialized RX9 ∈ GW := gt1 11 rfl rfl
theorem ins_10 : Cond.instantiable RX10 18 ∈ GW := gt1 24 rfl rfl
theorem ini_10 : Cond.initialized RX10 ∈ GW := gt1 1 rfl rfl
theorem ins_11 : Cond.instantiable RX11 54 ∈ GW := gt6 94 rfl rfl
theorem ini_11 : Cond.initialized RX11 ∈ GW := gt1 16 rfl rfl
theorem aw_20 : Cond.arrayClass (newarray.typeOf .int) ∈ GW := gt2 3 rfl rfl
theorem aw_21 : Cond.arrayClass (newarray.typeOf .boolean) ∈ GW := gt2 52 rfl rfl
theorem aw_22 : Cond.arrayClass (newarray.typeOf .byte) ∈ GW := gt1 127 rfl rfl
theorem aw_23 : Cond.arrayClass (newarray.typeOf .long) ∈ GW := gt1 128 rfl rfl
theorem oi_1 : Cond.instanceMethod Lib.objectInit ∈ GW := gt1 29 rfl rfl
theorem oi_2 : Cond.code Lib.objectInit ⟨#[0xb1]⟩ 1 none ∈ GW := gt1 30 rfl rfl
theorem mm_max1 : Cond.static Lib.Math.max.name ∈ GW := gt3 147 rfl rfl
theorem mm_max3 : Cond.code Lib.Math.max.name Lib.Math.max.code 2 (some .int) ∈ GW := gt3 148 rfl rfl
theorem mm_min1 : Cond.static Lib.Math.min.name ∈ GW := gt3 150 rfl rfl
theorem mm_min3 : Cond.code Lib.Math.min.name Lib.Math.min.code 2 (some .int) ∈ GW := gt3 151 rfl rfl
theorem mm_2 : Cond.initialized "java/lang/Math" ∈ GW := gt1 17 rfl rfl
abbrev mxI (x y : Int32) : Int32 := if x < y then y else x
abbrev mnI (x y : Int32) : Int32 := if y < x then y else x
theorem np_10 : plainName RX10 = true := by decide +kernel
theorem nm_10 : RX10 ≠ "java/lang/invoke/MethodHandle" ∧ RX10 ≠ "java/lang/invoke/VarHandle" := by decide +kernel
theorem nl_10 : RX10 ≠ RL := by decide +kernel
theorem np_0 : plainName RX0 = true := by decide +kernel
theorem nm_0 : RX0 ≠ "java/lang/invoke/MethodHandle" ∧ RX0 ≠ "java/lang/invoke/VarHandle" := by decide +kernel
theorem nl_0 : RX0 ≠ RL := by decide +kernel
theorem np_1 : plainName RX1 = true := by decide +kernel
theorem nm_1 : RX1 ≠ "java/lang/invoke/MethodHandle" ∧ RX1 ≠ "java/lang/invoke/VarHandle" := by decide +kernel
theorem nl_1 : RX1 ≠ RL := by decide +kernel
theorem np_2 : plainName RX2 = true := by decide +kernel
theorem nm_2 : RX2 ≠ "java/lang/invoke/MethodHandle" ∧ RX2 ≠ "java/lang/invoke/VarHandle" := by decide +kernel
theorem nl_2 : RX2 ≠ RL := by decide +kernel
theorem np_3 : plainName RX3 = true := by decide +kernel
theorem nm_3 : RX3 ≠ "java/lang/invoke/MethodHandle" ∧ RX3 ≠ "java/lang/invoke/VarHandle" := by decide +kernel
theorem nl_3 : RX3 ≠ RL := by decide +kernel
theorem np_4 : plainName RX4 = true := by decide +kernel
theorem nm_4 : RX4 ≠ "java/lang/invoke/MethodHandle" ∧ RX4 ≠ "java/lang/invoke/VarHandle" := by decide +kernel
theorem nl_4 : RX4 ≠ RL := by decide +kernel
theorem np_5 : plainName RX5 = true := by decide +kernel
theorem nm_5 : RX5 ≠ "java/lang/invoke/MethodHandle" ∧ RX5 ≠ "java/lang/invoke/VarHandle" := by decide +kernel
theorem nl_5 : RX5 ≠ RL := by decide +kernel
theorem np_6 : plainName RX6 = true := by decide +kernel
theorem nm_6 : RX6 ≠ "java/lang/invoke/MethodHandle" ∧ RX6 ≠ "java/lang/invoke/VarHandle" := by decide +kernel
theorem nl_6 : RX6 ≠ RL := by decide +kernel
theorem np_7 : plainName RX7 = true := by decide +kernel
theorem nm_7 : RX7 ≠ "java/lang/invoke/MethodHandle" ∧ RX7 ≠ "java/lang/invoke/VarHandle" := by decide +kernel
theorem nl_7 : RX7 ≠ RL := by decide +kernel
theorem np_8 : plainName RX8 = true := by decide +kernel
theorem nm_8 : RX8 ≠ "java/lang/invoke/MethodHandle" ∧ RX8 ≠ "java/lang/invoke/VarHandle" := by decide +kernel
theorem nl_8 : RX8 ≠ RL := by decide +kernel
theorem np_9 : plainName RX9 = true := by decide +kernel
theorem nm_9 : RX9 ≠ "java/lang/invoke/MethodHandle" ∧ RX9 ≠ "java/lang/invoke/VarHandle" := by decide +kernel
theorem nl_9 : RX9 ≠ RL := by decide +kernel
theorem np_L : plainName RL = true := by decide +kernel
theorem nm_L : RL ≠ "java/lang/invoke/MethodHandle" ∧ RL ≠ "java/lang/invoke/VarHandle" := by decide +kernel
theorem np_11 : plainName RX11 = true := by decide +kernel
theorem nm_11 : RX11 ≠ "java/lang/invoke/MethodHandle" ∧ RX11 ≠ "java/lang/invoke/VarHandle" := by decide +kernel
theorem nl_11 : RX11 ≠ RL := by decide +kernel
theorem np_Js : plainName "java/lang/String" = true := by decide +kernel
theorem nm_Js : "java/lang/String" ≠ "java/lang/invoke/MethodHandle" ∧ "java/lang/String" ≠ "java/lang/invoke/VarHandle" := by decide +kernel
theorem nl_Js : "java/lang/String" ≠ RL := by decide +kernel
theorem np_Jl : plainName "java/lang/StringLatin1" = true := by decide +kernel
theorem nm_Jl : "java/lang/StringLatin1" ≠ "java/lang/invoke/MethodHandle" ∧ "java/lang/StringLatin1" ≠ "java/lang/invoke/VarHandle" := by decide +kernel
theorem nl_Jl : "java/lang/StringLatin1" ≠ RL := by decide +kernel
theorem np_Jp : plainName "jdk/internal/util/Preconditions" = true := by decide +kernel
theorem nm_Jp : "jdk/internal/util/Preconditions" ≠ "java/lang/invoke/MethodHandle" ∧ "jdk/internal/util/Preconditions" ≠ "java/lang/invoke/VarHandle" := by decide +kernel
theorem nl_Jp : "jdk/internal/util/Preconditions" ≠ RL := by decide +kernel
theorem pd_0 : (parseMethodDescriptor "()B").map (fun d => d.parameters.length) = some 0 := by decide +kernel
theorem pd_1 : (parseMethodDescriptor "()I").map (fun d => d.parameters.length) = some 0 := by decide +kernel
theorem pd_2 : (parseMethodDescriptor "()V").map (fun d => d.parameters.length) = some 0 := by decide +kernel
theorem pd_3 : (parseMethodDescriptor "()Z").map (fun d => d.parameters.length) = some 0 := by decide +kernel
theorem pd_4 : (parseMethodDescriptor "(I)C").map (fun d => d.parameters.length) = some 1 := by decide +kernel
theorem pd_5 : (parseMethodDescriptor "(I)I").map (fun d => d.parameters.length) = some 1 := by decide +kernel
theorem pd_6 : (parseMethodDescriptor "(I)V").map (fun d => d.parameters.length) = some 1 := by decide +kernel
theorem pd_7 : (parseMethodDescriptor "(I)Z").map (fun d => d.parameters.length) = some 1 := by decide +kernel
theorem pd_8 : (parseMethodDescriptor "(II)I").map (fun d => d.parameters.length) = some 2 := by decide +kernel
theorem pd_9 : (parseMethodDescriptor "(II)V").map (fun d => d.parameters.length) = some 2 := by decide +kernel
theorem pd_10 : (parseMethodDescriptor "(II)Z").map (fun d => d.parameters.length) = some 2 := by decide +kernel
theorem pd_11 : (parseMethodDescriptor "(III)I").map (fun d => d.parameters.length) = some 3 := by decide +kernel
theorem pd_12 : (parseMethodDescriptor "(III)V").map (fun d => d.parameters.length) = some 3 := by decide +kernel
theorem pd_13 : (parseMethodDescriptor "(III)Z").map (fun d => d.parameters.length) = some 3 := by decide +kernel
theorem pd_14 : (parseMethodDescriptor "(IIII)I").map (fun d => d.parameters.length) = some 4 := by decide +kernel
theorem pd_15 : (parseMethodDescriptor "(IIIII)I").map (fun d => d.parameters.length) = some 5 := by decide +kernel
theorem pd_16 : (parseMethodDescriptor "(IIIII)V").map (fun d => d.parameters.length) = some 5 := by decide +kernel
theorem pd_17 : (parseMethodDescriptor "(IIIIIZ)I").map (fun d => d.parameters.length) = some 6 := by decide +kernel
theorem pd_18 : (parseMethodDescriptor "(IIIZ)I").map (fun d => d.parameters.length) = some 4 := by decide +kernel
theorem pd_19 : (parseMethodDescriptor "(IILLastsEvening$Night;)I").map (fun d => d.parameters.length) = some 3 := by decide +kernel
theorem pd_20 : (parseMethodDescriptor "(IILjava/util/function/BiFunction;)I").map (fun d => d.parameters.length) = some 3 := by decide +kernel
theorem pd_21 : (parseMethodDescriptor "(IIZ)I").map (fun d => d.parameters.length) = some 3 := by decide +kernel
theorem pd_22 : (parseMethodDescriptor "(IIZ)V").map (fun d => d.parameters.length) = some 3 := by decide +kernel
theorem pd_23 : (parseMethodDescriptor "(ILLastsEvening$Night;)I").map (fun d => d.parameters.length) = some 2 := by decide +kernel
theorem pd_24 : (parseMethodDescriptor "(IZ)I").map (fun d => d.parameters.length) = some 2 := by decide +kernel
theorem pd_25 : (parseMethodDescriptor "(IZ)V").map (fun d => d.parameters.length) = some 2 := by decide +kernel
theorem pd_26 : (parseMethodDescriptor "(IZ)Z").map (fun d => d.parameters.length) = some 2 := by decide +kernel
theorem pd_27 : (parseMethodDescriptor "(J)V").map (fun d => d.parameters.length) = some 1 := by decide +kernel
theorem pd_28 : (parseMethodDescriptor "(J)Z").map (fun d => d.parameters.length) = some 1 := by decide +kernel
theorem pd_29 : (parseMethodDescriptor "(JI)J").map (fun d => d.parameters.length) = some 2 := by decide +kernel
theorem pd_30 : (parseMethodDescriptor "(JII)Z").map (fun d => d.parameters.length) = some 3 := by decide +kernel
theorem pd_31 : (parseMethodDescriptor "(JJJ)I").map (fun d => d.parameters.length) = some 3 := by decide +kernel
theorem pd_32 : (parseMethodDescriptor "(LLastsEvening$House;)V").map (fun d => d.parameters.length) = some 1 := by decide +kernel
theorem pd_33 : (parseMethodDescriptor "(LLastsEvening$House;)Z").map (fun d => d.parameters.length) = some 1 := by decide +kernel
theorem pd_34 : (parseMethodDescriptor "(LLastsEvening$House;I)I").map (fun d => d.parameters.length) = some 2 := by decide +kernel
theorem pd_35 : (parseMethodDescriptor "(LLastsEvening$House;I)V").map (fun d => d.parameters.length) = some 2 := by decide +kernel
theorem pd_36 : (parseMethodDescriptor "(LLastsEvening$House;I)Z").map (fun d => d.parameters.length) = some 2 := by decide +kernel
theorem pd_37 : (parseMethodDescriptor "(LLastsEvening$House;II)Z").map (fun d => d.parameters.length) = some 3 := by decide +kernel
theorem pd_38 : (parseMethodDescriptor "(LLastsEvening$House;LLastsEvening$Means;)V").map (fun d => d.parameters.length) = some 2 := by decide +kernel
theorem pd_39 : (parseMethodDescriptor "(LLastsEvening$House;ZZ)V").map (fun d => d.parameters.length) = some 3 := by decide +kernel
theorem pd_40 : (parseMethodDescriptor "(LLastsEvening$Night;)V").map (fun d => d.parameters.length) = some 1 := by decide +kernel
theorem pd_41 : (parseMethodDescriptor "(LLastsEvening$Script;)V").map (fun d => d.parameters.length) = some 1 := by decide +kernel
theorem pd_42 : (parseMethodDescriptor "(LLastsEvening$Tape;LLastsEvening$House;LLastsEvening$Script;)V").map (fun d => d.parameters.length) = some 3 := by decide +kernel
theorem pd_43 : (parseMethodDescriptor "(LLastsEvening;IIIZ[J)I").map (fun d => d.parameters.length) = some 6 := by decide +kernel
theorem pd_44 : (parseMethodDescriptor "(LLastsEvening;I[J)I").map (fun d => d.parameters.length) = some 3 := by decide +kernel
theorem pd_45 : (parseMethodDescriptor "(LLastsEvening;[J)I").map (fun d => d.parameters.length) = some 2 := by decide +kernel
theorem pd_46 : (parseMethodDescriptor "(ZI)V").map (fun d => d.parameters.length) = some 2 := by decide +kernel
theorem pd_47 : (parseMethodDescriptor "(ZII)I").map (fun d => d.parameters.length) = some 3 := by decide +kernel
theorem pd_48 : (parseMethodDescriptor "(ZIII)I").map (fun d => d.parameters.length) = some 4 := by decide +kernel
theorem pd_49 : (parseMethodDescriptor "(ZZ)I").map (fun d => d.parameters.length) = some 2 := by decide +kernel
theorem pd_50 : (parseMethodDescriptor "(ZZ)V").map (fun d => d.parameters.length) = some 2 := by decide +kernel
theorem pd_51 : (parseMethodDescriptor "([BI)C").map (fun d => d.parameters.length) = some 2 := by decide +kernel
theorem pd_52 : (parseMethodDescriptor "([BIII)I").map (fun d => d.parameters.length) = some 4 := by decide +kernel
theorem pd_53 : (parseMethodDescriptor "([I)Z").map (fun d => d.parameters.length) = some 1 := by decide +kernel
theorem pd_54 : (parseMethodDescriptor "([II)I").map (fun d => d.parameters.length) = some 2 := by decide +kernel
theorem pd_55 : (parseMethodDescriptor "([II)V").map (fun d => d.parameters.length) = some 2 := by decide +kernel
theorem pd_56 : (parseMethodDescriptor "([II)[I").map (fun d => d.parameters.length) = some 2 := by decide +kernel
theorem pd_57 : (parseMethodDescriptor "([III)V").map (fun d => d.parameters.length) = some 3 := by decide +kernel
theorem pd_58 : (parseMethodDescriptor "([II[II)V").map (fun d => d.parameters.length) = some 4 := by decide +kernel
theorem pd_59 : (parseMethodDescriptor "([I[II)V").map (fun d => d.parameters.length) = some 3 := by decide +kernel
theorem pd_60 : (parseMethodDescriptor "([LLastsEvening$Night;I)LLastsEvening$Night;").map (fun d => d.parameters.length) = some 2 := by decide +kernel
theorem wt_law : wTab "law" = none := by decide +kernel
theorem wt_give : wTab "give" = some (0, 9, 12, 13) := by decide +kernel
theorem wt_judged : wTab "judged" = some (0, 9, 12, 13) := by decide +kernel
theorem wt_value : wTab "value" = some (0, 14, 17, 13) := by decide +kernel
theorem wt_may : wTab "may" = some (0, 9, 12, 13) := by decide +kernel
theorem wt_mean : wTab "mean" = some (0, 9, 12, 13) := by decide +kernel
theorem wt_left : wTab "left" = some (0, 9, 12, 13) := by decide +kernel
theorem wt_talk : wTab "talk" = some (0, 8, 11, 13) := by decide +kernel
theorem wt_fence : wTab "fence" = some (0, 9, 12, 13) := by decide +kernel
theorem wt_tonight : wTab "tonight" = some (0, 8, 11, 13) := by decide +kernel
