/-! THE PURE PROOFS, 1: a calculus for the shallow programs; ints as integers. -/
def W {α : Type} (m : Option (α × PH)) (Q : α → PH → Prop) : Prop := ∃ v h, m = some (v, h) ∧ Q v h
theorem W_ret {α : Type} {v : α} {h : PH} {Q : α → PH → Prop} (k : Q v h) : W (some (v, h)) Q := ⟨v, h, rfl, k⟩
theorem W_mono {α : Type} {m : Option (α × PH)} {P Q : α → PH → Prop} (w : W m P) (k : ∀ v h, P v h → Q v h) : W m Q := by
  obtain ⟨v, h, e, p⟩ := w
  exact ⟨v, h, e, k v h p⟩
theorem W_ck {α : Type} {c : Prop} [Decidable c] {x : Option (α × PH)} {Q : α → PH → Prop} (hc : c) (k : W x Q) : W (ck c x) Q := by
  unfold ck
  rw [if_pos hc]
  exact k
theorem W_bd {α β : Type} {x : Option (α × PH)} {f : α → PH → Option (β × PH)} {Q : β → PH → Prop} (k : W x (fun v h => W (f v h) Q)) : W (bd x f) Q := by
  obtain ⟨v, h, e, p⟩ := k
  rw [e]
  exact p
theorem W_bd2 {α β : Type} {x : Option (α × PH)} {f : α → PH → Option (β × PH)} {P : α → PH → Prop} {Q : β → PH → Prop} (w : W x P) (k : ∀ v h, P v h → W (f v h) Q) : W (bd x f) Q := W_bd (W_mono w k)
theorem W_bde {α β : Type} {x : Option (α × PH)} {v : α} {h : PH} {f : α → PH → Option (β × PH)} {Q : β → PH → Prop} (e : x = some (v, h)) (k : W (f v h) Q) : W (bd x f) Q := by
  rw [e]
  exact k
theorem W_lt {α : Type} {h : PH} {f : PH → Option (α × PH)} {Q : α → PH → Prop} (k : W (f h) Q) : W (lt0 h f) Q := k
theorem W_bn {α β : Type} {x : Option α} {a : α} {f : α → Option (β × PH)} {Q : β → PH → Prop} (e : x = some a) (k : W (f a) Q) : W (x.bind f) Q := by
  rw [e]
  exact k
theorem W_if {α : Type} {c : Prop} [Decidable c] {x y : Option (α × PH)} {Q : α → PH → Prop} (kp : c → W x Q) (kn : ¬ c → W y Q) : W (if c then x else y) Q := by
  by_cases hc : c
  · rw [if_pos hc]; exact kp hc
  · rw [if_neg hc]; exact kn hc
theorem W_ifp {α : Type} {c : Prop} [Decidable c] {x y : Option (α × PH)} {Q : α → PH → Prop} (hc : c) (k : W x Q) : W (if c then x else y) Q := by rw [if_pos hc]; exact k
theorem W_ifn {α : Type} {c : Prop} [Decidable c] {x y : Option (α × PH)} {Q : α → PH → Prop} (hc : ¬ c) (k : W y Q) : W (if c then x else y) Q := by rw [if_neg hc]; exact k
theorem ck_p {β : Type} {c : Prop} [Decidable c] {x : Option β} (hc : c) : ck c x = x := if_pos hc
theorem ck_T {β : Type} {i : Decidable True} {x : Option β} : @ck β True i x = x := if_pos trivial
theorem bd_s {α β : Type} {v : α} {h : PH} {f : α → PH → Option β} : bd (some (v, h)) f = f v h := rfl
theorem lt_s {β : Type} {h : PH} {f : PH → Option β} : lt0 h f = f h := rfl
theorem bn_s {α β : Type} {a : α} {f : α → Option β} : (some a).bind f = f a := rfl
/-! ### an int as an integer -/
def iv (z : Int) : Int32 := Int32.ofInt z
def jv (z : Int) : Int64 := Int64.ofInt z
theorem iv_lit (n : Nat) : (@OfNat.ofNat Int32 n _) = iv (@OfNat.ofNat Int n _) := (Int32.ofInt_eq_ofNat (n := n)).symm
theorem jv_lit (n : Nat) : (@OfNat.ofNat Int64 n _) = jv (@OfNat.ofNat Int n _) := (Int64.ofInt_eq_ofNat (n := n)).symm
theorem iv_nat (n : Nat) : Int32.ofNat n = iv n := (Int32.ofInt_eq_ofNat (n := n)).symm
theorem iv_add (a b : Int) : iv a + iv b = iv (a + b) := (Int32.ofInt_add a b).symm
theorem iv_sub (a b : Int) : iv a - iv b = iv (a - b) := (Int32.ofInt_sub a b).symm
theorem iv_mul (a b : Int) : iv a * iv b = iv (a * b) := (Int32.ofInt_mul a b).symm
theorem iv_neg (a : Int) : - iv a = iv (-a) := (Int32.ofInt_neg a).symm
theorem jv_add (a b : Int) : jv a + jv b = jv (a + b) := (Int64.ofInt_add a b).symm
theorem jv_sub (a b : Int) : jv a - jv b = jv (a - b) := (Int64.ofInt_sub a b).symm
theorem jv_mul (a b : Int) : jv a * jv b = jv (a * b) := (Int64.ofInt_mul a b).symm
theorem jv_neg (a : Int) : - jv a = jv (-a) := (Int64.ofInt_neg a).symm
theorem iv_to {a : Int} (h1 : -2147483648 ≤ a) (h2 : a < 2147483648) : (iv a).toInt = a := Int32.toInt_ofInt_of_le (by omega) (by omega)
theorem jv_to {a : Int} (h1 : -9223372036854775808 ≤ a) (h2 : a < 9223372036854775808) : (jv a).toInt = a := Int64.toInt_ofInt_of_le (by omega) (by omega)
theorem iv_of (x : Int32) : iv x.toInt = x := Int32.ofInt_toInt x
theorem jv_of (x : Int64) : jv x.toInt = x := Int64.ofInt_toInt x
theorem iv_wide {a : Int} (h1 : -2147483648 ≤ a) (h2 : a < 2147483648) : (iv a).toInt64 = jv a := by
  apply Int64.toInt.inj
  rw [Int32.toInt_toInt64, iv_to h1 h2, jv_to (by omega) (by omega)]
theorem jv_narrow (a : Int) : (jv a).toInt32 = iv a := Int64.toInt32_ofInt
theorem iv_lt {a b : Int} (h1 : -2147483648 ≤ a) (h2 : a < 2147483648) (h3 : -2147483648 ≤ b) (h4 : b < 2147483648) : (iv a < iv b) ↔ a < b := by
  rw [Int32.lt_iff_toInt_lt, iv_to h1 h2, iv_to h3 h4]
theorem iv_le {a b : Int} (h1 : -2147483648 ≤ a) (h2 : a < 2147483648) (h3 : -2147483648 ≤ b) (h4 : b < 2147483648) : (iv a ≤ iv b) ↔ a ≤ b := by
  rw [Int32.le_iff_toInt_le, iv_to h1 h2, iv_to h3 h4]
theorem iv_eq {a b : Int} (h1 : -2147483648 ≤ a) (h2 : a < 2147483648) (h3 : -2147483648 ≤ b) (h4 : b < 2147483648) : (iv a = iv b) ↔ a = b := by
  rw [← Int32.toInt_inj, iv_to h1 h2, iv_to h3 h4]
theorem jv_lt {a b : Int} (h1 : -9223372036854775808 ≤ a) (h2 : a < 9223372036854775808) (h3 : -9223372036854775808 ≤ b) (h4 : b < 9223372036854775808) : (jv a < jv b) ↔ a < b := by
  rw [Int64.lt_iff_toInt_lt, jv_to h1 h2, jv_to h3 h4]
theorem jv_le {a b : Int} (h1 : -9223372036854775808 ≤ a) (h2 : a < 9223372036854775808) (h3 : -9223372036854775808 ≤ b) (h4 : b < 9223372036854775808) : (jv a ≤ jv b) ↔ a ≤ b := by
  rw [Int64.le_iff_toInt_le, jv_to h1 h2, jv_to h3 h4]
theorem jv_eq {a b : Int} (h1 : -9223372036854775808 ≤ a) (h2 : a < 9223372036854775808) (h3 : -9223372036854775808 ≤ b) (h4 : b < 9223372036854775808) : (jv a = jv b) ↔ a = b := by
  rw [← Int64.toInt_inj, jv_to h1 h2, jv_to h3 h4]
theorem iv_div {a b : Int} (h1 : -2147483648 < a) (h2 : a < 2147483648) (h3 : -2147483648 ≤ b) (h4 : b < 2147483648) : iv a / iv b = iv (a.tdiv b) := by
  apply Int32.toInt.inj
  have ha := iv_to (Int.le_of_lt h1) h2
  have hb := iv_to h3 h4
  rw [Int32.toInt_div, ha, hb]
  exact (Int32.toInt_ofInt).symm
theorem jv_div {a b : Int} (h1 : -9223372036854775808 < a) (h2 : a < 9223372036854775808) (h3 : -9223372036854775808 ≤ b) (h4 : b < 9223372036854775808) : jv a / jv b = jv (a.tdiv b) := by
  apply Int64.toInt.inj
  have ha := jv_to (Int.le_of_lt h1) h2
  have hb := jv_to h3 h4
  rw [Int64.toInt_div, ha, hb]
  exact (Int64.toInt_ofInt).symm
theorem iv_mn {a b : Int} (h1 : -2147483648 ≤ a) (h2 : a < 2147483648) (h3 : -2147483648 ≤ b) (h4 : b < 2147483648) : mnI (iv a) (iv b) = iv (min a b) := by
  unfold mnI
  by_cases h : b < a
  · rw [if_pos ((iv_lt h3 h4 h1 h2).mpr h), Int.min_eq_right (by omega)]
  · rw [if_neg (fun k => h ((iv_lt h3 h4 h1 h2).mp k)), Int.min_eq_left (by omega)]
theorem iv_mx {a b : Int} (h1 : -2147483648 ≤ a) (h2 : a < 2147483648) (h3 : -2147483648 ≤ b) (h4 : b < 2147483648) : mxI (iv a) (iv b) = iv (max a b) := by
  unfold mxI
  by_cases h : a < b
  · rw [if_pos ((iv_lt h1 h2 h3 h4).mpr h), Int.max_eq_right (by omega)]
  · rw [if_neg (fun k => h ((iv_lt h1 h2 h3 h4).mp k)), Int.max_eq_left (by omega)]
theorem ix_iv {a : Int} (h1 : 0 ≤ a) (h2 : a < 2147483648) : ix (iv a) = a.toNat := by
  show (iv a).toInt.toNat = a.toNat
  rw [iv_to (by omega) h2]
theorem inb_iv {a : Int} {n : Nat} (h1 : 0 ≤ a) (h2 : a < n) (h3 : a < 2147483648) : inb (iv a) n = true := by
  have e : ix (iv a) = a.toNat := ix_iv h1 h3
  unfold inb
  unfold ix at e
  rw [decide_eq_true_iff, iv_lit 0, iv_lt (by omega) h3 (by omega) (by omega), e]
  omega
theorem bI_0 (b : Bool) : (bI b = 0) ↔ (b = false) := by cases b <;> decide
theorem bI_1 (b : Bool) : (bI b = 1) ↔ (b = true) := by cases b <;> decide
theorem tb_bI (b : Bool) : tb (bI b) = b := by cases b <;> decide
theorem tb_0 : tb 0 = false := by decide
theorem tb_1 : tb 1 = true := by decide
theorem isB_0 : isB 0 = true := by decide
theorem isB_1 : isB 1 = true := by decide
theorem isB_bI (b : Bool) : isB (bI b) = true := by cases b <;> decide
theorem nb_iv {a : Int} (h1 : 0 ≤ a) (h2 : a ≤ 1000000) : nb (iv a) = true := by
  have e : ix (iv a) = a.toNat := ix_iv h1 (by omega)
  unfold ix at e
  unfold nb
  rw [decide_eq_true_iff, iv_lit 0, iv_lt (by omega) (by omega) (by omega) (by omega), e]
  omega
theorem ix_nat {n : Nat} (h : n < 2147483648) : ix (iv n) = n := by rw [ix_iv (by omega) (by omega)]; omega
