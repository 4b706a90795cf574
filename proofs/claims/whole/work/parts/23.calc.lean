/-! THE PURE PROOFS, 1: a calculus for the shallow programs; ints as integers. -/
def Wp {α : Type} (m : Option (α × PH)) (Q : α → PH → Prop) : Prop := ∃ v h, m = some (v, h) ∧ Q v h
theorem Wp_ret {α : Type} {v : α} {h : PH} {Q : α → PH → Prop} (k : Q v h) : Wp (some (v, h)) Q := ⟨v, h, rfl, k⟩
theorem Wp_mono {α : Type} {m : Option (α × PH)} {P Q : α → PH → Prop} (w : Wp m P) (k : ∀ v h, P v h → Q v h) : Wp m Q := by
  obtain ⟨v, h, e, p⟩ := w
  exact ⟨v, h, e, k v h p⟩
theorem Wp_ck {α : Type} {c : Prop} [Decidable c] {x : Option (α × PH)} {Q : α → PH → Prop} (hc : c) (k : Wp x Q) : Wp (ck c x) Q := by
  unfold ck
  rw [if_pos hc]
  exact k
theorem Wp_bd {α β : Type} {x : Option (α × PH)} {f : α → PH → Option (β × PH)} {Q : β → PH → Prop} (k : Wp x (fun v h => Wp (f v h) Q)) : Wp (bd x f) Q := by
  obtain ⟨v, h, e, p⟩ := k
  rw [e]
  exact p
theorem Wp_bd2 {α β : Type} {x : Option (α × PH)} {f : α → PH → Option (β × PH)} {P : α → PH → Prop} {Q : β → PH → Prop} (w : Wp x P) (k : ∀ v h, P v h → Wp (f v h) Q) : Wp (bd x f) Q := Wp_bd (Wp_mono w k)
theorem Wp_bde {α β : Type} {x : Option (α × PH)} {v : α} {h : PH} {f : α → PH → Option (β × PH)} {Q : β → PH → Prop} (e : x = some (v, h)) (k : Wp (f v h) Q) : Wp (bd x f) Q := by
  rw [e]
  exact k
theorem Wp_lt {α : Type} {h : PH} {f : PH → Option (α × PH)} {Q : α → PH → Prop} (k : Wp (f h) Q) : Wp (lt0 h f) Q := k
theorem Wp_bn {α β : Type} {x : Option α} {a : α} {f : α → Option (β × PH)} {Q : β → PH → Prop} (e : x = some a) (k : Wp (f a) Q) : Wp (x.bind f) Q := by
  rw [e]
  exact k
theorem Wp_if {α : Type} {c : Prop} [Decidable c] {x y : Option (α × PH)} {Q : α → PH → Prop} (kp : c → Wp x Q) (kn : ¬ c → Wp y Q) : Wp (if c then x else y) Q := by
  by_cases hc : c
  · rw [if_pos hc]; exact kp hc
  · rw [if_neg hc]; exact kn hc
theorem Wp_ifp {α : Type} {c : Prop} [Decidable c] {x y : Option (α × PH)} {Q : α → PH → Prop} (hc : c) (k : Wp x Q) : Wp (if c then x else y) Q := by rw [if_pos hc]; exact k
theorem Wp_ifn {α : Type} {c : Prop} [Decidable c] {x y : Option (α × PH)} {Q : α → PH → Prop} (hc : ¬ c) (k : Wp y Q) : Wp (if c then x else y) Q := by rw [if_neg hc]; exact k
theorem ck_p {β : Type} {c : Prop} [Decidable c] {x : Option β} (hc : c) : ck c x = x := if_pos hc
theorem ck_T {β : Type} {i : Decidable True} {x : Option β} : @ck β True i x = x := if_pos trivial
theorem bd_s {α β : Type} {v : α} {h : PH} {f : α → PH → Option β} : bd (some (v, h)) f = f v h := rfl
theorem lt0_s {β : Type} {h : PH} {f : PH → Option β} : lt0 h f = f h := rfl
theorem bn_s {α β : Type} {a : α} {f : α → Option β} : (some a).bind f = f a := rfl
/-! ### an int as an integer -/
def iv (z : Int) : Int32 := Int32.ofInt z
def jv (z : Int) : Int64 := Int64.ofInt z
theorem iv_lit (n : Nat) : (@OfNat.ofNat Int32 n _) = iv (@OfNat.ofNat Int n _) := (Int32.ofInt_eq_ofNat (n := n)).symm
theorem jv_lit (n : Nat) : (@OfNat.ofNat Int64 n _) = jv (@OfNat.ofNat Int n _) := (Int64.ofInt_eq_ofNat (n := n)).symm
theorem il0 : (0 : Int32) = iv 0 := iv_lit _
theorem il1 : (1 : Int32) = iv 1 := iv_lit _
theorem il2 : (2 : Int32) = iv 2 := iv_lit _
theorem il3 : (3 : Int32) = iv 3 := iv_lit _
theorem il4 : (4 : Int32) = iv 4 := iv_lit _
theorem il5 : (5 : Int32) = iv 5 := iv_lit _
theorem il6 : (6 : Int32) = iv 6 := iv_lit _
theorem il7 : (7 : Int32) = iv 7 := iv_lit _
theorem il8 : (8 : Int32) = iv 8 := iv_lit _
theorem il9 : (9 : Int32) = iv 9 := iv_lit _
theorem il10 : (10 : Int32) = iv 10 := iv_lit _
theorem il11 : (11 : Int32) = iv 11 := iv_lit _
theorem il12 : (12 : Int32) = iv 12 := iv_lit _
theorem il13 : (13 : Int32) = iv 13 := iv_lit _
theorem il14 : (14 : Int32) = iv 14 := iv_lit _
theorem il15 : (15 : Int32) = iv 15 := iv_lit _
theorem il16 : (16 : Int32) = iv 16 := iv_lit _
theorem il17 : (17 : Int32) = iv 17 := iv_lit _
theorem il18 : (18 : Int32) = iv 18 := iv_lit _
theorem il19 : (19 : Int32) = iv 19 := iv_lit _
theorem il20 : (20 : Int32) = iv 20 := iv_lit _
theorem il21 : (21 : Int32) = iv 21 := iv_lit _
theorem il22 : (22 : Int32) = iv 22 := iv_lit _
theorem il23 : (23 : Int32) = iv 23 := iv_lit _
theorem il24 : (24 : Int32) = iv 24 := iv_lit _
theorem il25 : (25 : Int32) = iv 25 := iv_lit _
theorem il26 : (26 : Int32) = iv 26 := iv_lit _
theorem il27 : (27 : Int32) = iv 27 := iv_lit _
theorem il28 : (28 : Int32) = iv 28 := iv_lit _
theorem il29 : (29 : Int32) = iv 29 := iv_lit _
theorem il30 : (30 : Int32) = iv 30 := iv_lit _
theorem il31 : (31 : Int32) = iv 31 := iv_lit _
theorem il32 : (32 : Int32) = iv 32 := iv_lit _
theorem il33 : (33 : Int32) = iv 33 := iv_lit _
theorem il34 : (34 : Int32) = iv 34 := iv_lit _
theorem il35 : (35 : Int32) = iv 35 := iv_lit _
theorem il36 : (36 : Int32) = iv 36 := iv_lit _
theorem il48 : (48 : Int32) = iv 48 := iv_lit _
theorem il58 : (58 : Int32) = iv 58 := iv_lit _
theorem il64 : (64 : Int32) = iv 64 := iv_lit _
theorem il96 : (96 : Int32) = iv 96 := iv_lit _
theorem il97 : (97 : Int32) = iv 97 := iv_lit _
theorem il99 : (99 : Int32) = iv 99 := iv_lit _
theorem il120 : (120 : Int32) = iv 120 := iv_lit _
theorem il121 : (121 : Int32) = iv 121 := iv_lit _
theorem il122 : (122 : Int32) = iv 122 := iv_lit _
theorem il126 : (126 : Int32) = iv 126 := iv_lit _
theorem il241 : (241 : Int32) = iv 241 := iv_lit _
theorem il242 : (242 : Int32) = iv 242 := iv_lit _
theorem il360 : (360 : Int32) = iv 360 := iv_lit _
theorem il999 : (999 : Int32) = iv 999 := iv_lit _
theorem il1000 : (1000 : Int32) = iv 1000 := iv_lit _
theorem il2000 : (2000 : Int32) = iv 2000 := iv_lit _
theorem il9999 : (9999 : Int32) = iv 9999 := iv_lit _
theorem il10000 : (10000 : Int32) = iv 10000 := iv_lit _
theorem il37752 : (37752 : Int32) = iv 37752 := iv_lit _
theorem il65536 : (65536 : Int32) = iv 65536 := iv_lit _
theorem il75504 : (75504 : Int32) = iv 75504 := iv_lit _
theorem il100000 : (100000 : Int32) = iv 100000 := iv_lit _
theorem il1000000 : (1000000 : Int32) = iv 1000000 := iv_lit _
theorem jl0 : (0 : Int64) = jv 0 := jv_lit _
theorem jl1 : (1 : Int64) = jv 1 := jv_lit _
theorem jl10 : (10 : Int64) = jv 10 := jv_lit _
theorem jl27 : (27 : Int64) = jv 27 := jv_lit _
theorem jl32 : (32 : Int64) = jv 32 := jv_lit _
theorem jl96 : (96 : Int64) = jv 96 := jv_lit _
theorem jl100 : (100 : Int64) = jv 100 := jv_lit _
theorem jl255 : (255 : Int64) = jv 255 := jv_lit _
theorem jl12345 : (12345 : Int64) = jv 12345 := jv_lit _
theorem jl65536 : (65536 : Int64) = jv 65536 := jv_lit _
theorem jl1000000 : (1000000 : Int64) = jv 1000000 := jv_lit _
theorem jl1103515245 : (1103515245 : Int64) = jv 1103515245 := jv_lit _
theorem jl2147483648 : (2147483648 : Int64) = jv 2147483648 := jv_lit _
theorem iv_nat (n : Nat) : Int32.ofNat n = iv n := (Int32.ofInt_eq_ofNat (n := n)).symm
theorem iv_add (a b : Int) : iv a + iv b = iv (a + b) := (Int32.ofInt_add a b).symm
theorem iv_sub (a b : Int) : iv a - iv b = iv (a - b) := (Int32.ofInt_sub a b).symm
theorem iv_mul (a b : Int) : iv a * iv b = iv (a * b) := (Int32.ofInt_mul a b).symm
theorem iv_neg (a : Int) : - iv a = iv (-a) := (Int32.ofInt_neg a).symm
theorem jv_add (a b : Int) : jv a + jv b = jv (a + b) := (Int64.ofInt_add a b).symm
theorem jv_sub (a b : Int) : jv a - jv b = jv (a - b) := (Int64.ofInt_sub a b).symm
theorem jv_mul (a b : Int) : jv a * jv b = jv (a * b) := (Int64.ofInt_mul a b).symm
theorem jv_neg (a : Int) : - jv a = jv (-a) := (Int64.ofInt_neg a).symm
theorem iv_to {a : Int} (h1 : -2147483648 ≤ a) (h2 : a < 2147483648) : (iv a).toInt = a := Int32.toInt_ofInt_of_le (by omega) (by omega)
theorem jv_to {a : Int} (h1 : -9223372036854775808 ≤ a) (h2 : a < 9223372036854775808) : (jv a).toInt = a := Int64.toInt_ofInt_of_le (by omega) (by omega)
theorem iv_of (x : Int32) : iv x.toInt = x := Int32.ofInt_toInt x
theorem jv_of (x : Int64) : jv x.toInt = x := Int64.ofInt_toInt x
theorem iv_wide {a : Int} (h1 : -2147483648 ≤ a) (h2 : a < 2147483648) : (iv a).toInt64 = jv a := by
  apply Int64.toInt.inj
  rw [Int32.toInt_toInt64, iv_to h1 h2, jv_to (by omega) (by omega)]
theorem jv_narrow (a : Int) : (jv a).toInt32 = iv a := Int64.toInt32_ofInt
theorem iv_lt {a b : Int} (h1 : -2147483648 ≤ a) (h2 : a < 2147483648) (h3 : -2147483648 ≤ b) (h4 : b < 2147483648) : (iv a < iv b) ↔ a < b := by
  rw [Int32.lt_iff_toInt_lt, iv_to h1 h2, iv_to h3 h4]
theorem iv_le {a b : Int} (h1 : -2147483648 ≤ a) (h2 : a < 2147483648) (h3 : -2147483648 ≤ b) (h4 : b < 2147483648) : (iv a ≤ iv b) ↔ a ≤ b := by
  rw [Int32.le_iff_toInt_le, iv_to h1 h2, iv_to h3 h4]
theorem iv_eq {a b : Int} (h1 : -2147483648 ≤ a) (h2 : a < 2147483648) (h3 : -2147483648 ≤ b) (h4 : b < 2147483648) : (iv a = iv b) ↔ a = b := by
  rw [← Int32.toInt_inj, iv_to h1 h2, iv_to h3 h4]
theorem jv_lt {a b : Int} (h1 : -9223372036854775808 ≤ a) (h2 : a < 9223372036854775808) (h3 : -9223372036854775808 ≤ b) (h4 : b < 9223372036854775808) : (jv a < jv b) ↔ a < b := by
  rw [Int64.lt_iff_toInt_lt, jv_to h1 h2, jv_to h3 h4]
theorem jv_le {a b : Int} (h1 : -9223372036854775808 ≤ a) (h2 : a < 9223372036854775808) (h3 : -9223372036854775808 ≤ b) (h4 : b < 9223372036854775808) : (jv a ≤ jv b) ↔ a ≤ b := by
  rw [Int64.le_iff_toInt_le, jv_to h1 h2, jv_to h3 h4]
theorem jv_eq {a b : Int} (h1 : -9223372036854775808 ≤ a) (h2 : a < 9223372036854775808) (h3 : -9223372036854775808 ≤ b) (h4 : b < 9223372036854775808) : (jv a = jv b) ↔ a = b := by
  rw [← Int64.toInt_inj, jv_to h1 h2, jv_to h3 h4]
theorem iv_div {a b : Int} (h1 : -2147483648 < a) (h2 : a < 2147483648) (h3 : -2147483648 ≤ b) (h4 : b < 2147483648) : iv a / iv b = iv (a.tdiv b) := by
  apply Int32.toInt.inj
  have ha := iv_to (Int.le_of_lt h1) h2
  have hb := iv_to h3 h4
  rw [Int32.toInt_div, ha, hb]
  exact (Int32.toInt_ofInt).symm
theorem jv_div {a b : Int} (h1 : -9223372036854775808 < a) (h2 : a < 9223372036854775808) (h3 : -9223372036854775808 ≤ b) (h4 : b < 9223372036854775808) : jv a / jv b = jv (a.tdiv b) := by
  apply Int64.toInt.inj
  have ha := jv_to (Int.le_of_lt h1) h2
  have hb := jv_to h3 h4
  rw [Int64.toInt_div, ha, hb]
  exact (Int64.toInt_ofInt).symm
theorem iv_mn {a b : Int} (h1 : -2147483648 ≤ a) (h2 : a < 2147483648) (h3 : -2147483648 ≤ b) (h4 : b < 2147483648) : mnI (iv a) (iv b) = iv (min a b) := by
  unfold mnI
  by_cases h : b < a
  · rw [if_pos ((iv_lt h3 h4 h1 h2).mpr h), Int.min_eq_right (by omega)]
  · rw [if_neg (fun k => h ((iv_lt h3 h4 h1 h2).mp k)), Int.min_eq_left (by omega)]
theorem iv_mx {a b : Int} (h1 : -2147483648 ≤ a) (h2 : a < 2147483648) (h3 : -2147483648 ≤ b) (h4 : b < 2147483648) : mxI (iv a) (iv b) = iv (max a b) := by
  unfold mxI
  by_cases h : a < b
  · rw [if_pos ((iv_lt h1 h2 h3 h4).mpr h), Int.max_eq_right (by omega)]
  · rw [if_neg (fun k => h ((iv_lt h1 h2 h3 h4).mp k)), Int.max_eq_left (by omega)]
theorem ix_iv {a : Int} (h1 : 0 ≤ a) (h2 : a < 2147483648) : ix (iv a) = a.toNat := by
  show (iv a).toInt.toNat = a.toNat
  rw [iv_to (by omega) h2]
theorem inb_iv {a : Int} {n : Nat} (h1 : 0 ≤ a) (h2 : a < n) (h3 : a < 2147483648) : inb (iv a) n = true := by
  have e : ix (iv a) = a.toNat := ix_iv h1 h3
  unfold inb
  unfold ix at e
  rw [decide_eq_true_iff, il0, iv_lt (by omega) h3 (by omega) (by omega), e]
  omega
theorem bI_0 (b : Bool) : (bI b = 0) ↔ (b = false) := by cases b <;> decide
theorem bI_1 (b : Bool) : (bI b = 1) ↔ (b = true) := by cases b <;> decide
theorem tb_0 : tb 0 = false := by decide
theorem tb_1 : tb 1 = true := by decide
theorem isB_0 : isB 0 = true := by decide
theorem isB_1 : isB 1 = true := by decide
theorem nb_iv {a : Int} (h1 : 0 ≤ a) (h2 : a ≤ 1000000) : nb (iv a) = true := by
  have e : ix (iv a) = a.toNat := ix_iv h1 (by omega)
  unfold ix at e
  unfold nb
  rw [decide_eq_true_iff, il0, iv_lt (by omega) (by omega) (by omega) (by omega), e]
  omega
theorem ix_nat {n : Nat} (h : n < 2147483648) : ix (iv n) = n := by rw [ix_iv (by omega) (by omega)]; omega
