/-! THE PURE PROOFS, 4: the class's house and nights. -/
def FrS (S : Nat → Prop) (h h2 : PH) : Prop := h2.1 = h.1 ∧ hK h2 = hK h ∧ hR h2 = hR h ∧ ∀ b, ¬ S b → hI h2 b = hI h b ∧ hJ h2 b = hJ h b ∧ hZ h2 b = hZ h b
theorem FrS.rf {S : Nat → Prop} {h : PH} : FrS S h h := ⟨rfl, rfl, rfl, fun _ _ => ⟨rfl, rfl, rfl⟩⟩
theorem FrS.tr {S : Nat → Prop} {h h1 h2 : PH} (a : FrS S h h1) (b : FrS S h1 h2) : FrS S h h2 := ⟨b.1.trans a.1, b.2.1.trans a.2.1, b.2.2.1.trans a.2.2.1, fun c hc => ⟨(b.2.2.2 c hc).1.trans (a.2.2.2 c hc).1, (b.2.2.2 c hc).2.1.trans (a.2.2.2 c hc).2.1, (b.2.2.2 c hc).2.2.trans (a.2.2.2 c hc).2.2⟩⟩
theorem FrS.up {S T : Nat → Prop} {h h2 : PH} (a : FrS S h h2) (k : ∀ b, S b → T b) : FrS T h h2 := ⟨a.1, a.2.1, a.2.2.1, fun c hc => a.2.2.2 c (fun s => hc (k c s))⟩
theorem u2_ne {α : Type} {f : Nat → Nat → α} {a i : Nat} {v : α} {b : Nat} (h : b ≠ a) : u2 f a i v b = f b := by
  funext j
  exact if_neg (fun k => h k.1)
theorem FrS.aI {S : Nat → Prop} {h0 h : PH} {a i : Nat} {v : Int32} (f : FrS S h0 h) (s : S a) : FrS S h0 (wI h a i v) := f.tr ⟨rfl, rfl, rfl, fun b hb => ⟨u2_ne (fun e => hb (e ▸ s)), rfl, rfl⟩⟩
theorem FrS.aJ {S : Nat → Prop} {h0 h : PH} {a i : Nat} {v : Int64} (f : FrS S h0 h) (s : S a) : FrS S h0 (wJ h a i v) := f.tr ⟨rfl, rfl, rfl, fun b hb => ⟨rfl, u2_ne (fun e => hb (e ▸ s)), rfl⟩⟩
theorem FrS.aZ {S : Nat → Prop} {h0 h : PH} {a i : Nat} {v : Bool} (f : FrS S h0 h) (s : S a) : FrS S h0 (wZ h a i v) := f.tr ⟨rfl, rfl, rfl, fun b hb => ⟨rfl, rfl, u2_ne (fun e => hb (e ▸ s))⟩⟩
theorem FrS.i1 {a : Nat} {h0 h : PH} {i : Nat} {v : Int32} (f : FrS (fun b => b = a) h0 h) : FrS (fun b => b = a) h0 (wI h a i v) := f.aI rfl
theorem FrS.z1 {a : Nat} {h0 h : PH} {i : Nat} {v : Bool} (f : FrS (fun b => b = a) h0 h) : FrS (fun b => b = a) h0 (wZ h a i v) := f.aZ rfl
theorem FrS.j1 {a : Nat} {h0 h : PH} {i : Nat} {v : Int64} (f : FrS (fun b => b = a) h0 h) : FrS (fun b => b = a) h0 (wJ h a i v) := f.aJ rfl
theorem FrS.shp {S : Nat → Prop} {h h2 : PH} (f : FrS S h h2) (s : Shp h) : Shp h2 := Shp.of f.2.1 f.2.2.1 s
theorem FrS.I {S : Nat → Prop} {h h2 : PH} (f : FrS S h h2) {b : Nat} (n : ¬ S b) (i : Nat) : hI h2 b i = hI h b i := congrFun (f.2.2.2 b n).1 i
theorem FrS.J {S : Nat → Prop} {h h2 : PH} (f : FrS S h h2) {b : Nat} (n : ¬ S b) (i : Nat) : hJ h2 b i = hJ h b i := congrFun (f.2.2.2 b n).2.1 i
theorem FrS.Z {S : Nat → Prop} {h h2 : PH} (f : FrS S h h2) {b : Nat} (n : ¬ S b) (i : Nat) : hZ h2 b i = hZ h b i := congrFun (f.2.2.2 b n).2.2 i
theorem at_in {N : Nat} {h : PH} {a n : Nat} {z : Int} (hk : hK h a = (20, n)) (hn : n < 2147483648) (h1 : 0 ≤ z) (h2 : z < n) : Le_at N (some a) (iv z) h = some (hI h a z.toNat, h) := by
  unfold Le_at
  rw [il0, if_neg (by rw [iv_lt (by omega) (by omega) (by omega) (by omega)]; omega), bn_s, ck_p (by rw [hk]), hk, iv_nat, if_neg (by rw [iv_le (by omega) (by omega) (by omega) (by omega)]; omega), ck_p (inb_iv h1 h2 (by omega)), ix_iv h1 (by omega)]
theorem at_out {N : Nat} {h : PH} {a n : Nat} {z : Int} (hk : hK h a = (20, n)) (hn : n < 2147483648) (h0 : -2147483648 ≤ z ∧ z < 2147483648) (h1 : z < 0 ∨ n ≤ z) : Le_at N (some a) (iv z) h = some (iv 0, h) := by
  unfold Le_at
  rw [il0]
  by_cases hz : z < 0
  · rw [if_pos (by rw [iv_lt (by omega) (by omega) (by omega) (by omega)]; omega)]
  · rw [if_neg (by rw [iv_lt (by omega) (by omega) (by omega) (by omega)]; omega), bn_s, ck_p (by rw [hk]), hk, iv_nat, if_pos (by rw [iv_le (by omega) (by omega) (by omega) (by omega)]; omega)]
theorem put_in {N : Nat} {h : PH} {a n : Nat} {z : Int} {x : Int32} (hk : hK h a = (20, n)) (hn : n < 2147483648) (h1 : 0 ≤ z) (h2 : z < n) : Le_put N (some a) (iv z) x h = some ((), wI h a z.toNat x) := by
  unfold Le_put
  rw [il0, if_neg (by rw [iv_lt (by omega) (by omega) (by omega) (by omega)]; omega), bn_s, ck_p (by rw [hk]), hk, iv_nat, if_neg (by rw [iv_le (by omega) (by omega) (by omega) (by omega)]; omega), ck_p (inb_iv h1 h2 (by omega)), ix_iv h1 (by omega)]
  rfl
/-- the house at b, as the class keeps it -/
def HsL (b : Nat) (H C : Nat → Int) (h : PH) : Prop := hI h b 0 = iv (H 0) ∧ hI h b 1 = iv (H 1) ∧ hI h b 2 = iv (H 2) ∧ hI h b 3 = iv (H 3) ∧ hI h b 4 = iv (H 7) ∧ hI h b 5 = iv (H 8) ∧ hI h b 6 = iv (H 9) ∧ hI h b 7 = iv (if H 16 = 1 then H 10 else 24) ∧ hI h b 8 = iv (H 11) ∧ hI h b 9 = iv (H 12) ∧ hI h b 10 = iv (H 13) ∧ hI h b 11 = iv (H 14) ∧ hI h b 12 = iv (H 15) ∧ (∀ n : Nat, n < 4 → hI h (b + 1) n = iv (wsm H n)) ∧ (∀ k : Nat, k < 96 → hI h (b + 2) k = iv (C k)) ∧ (∀ q k : Nat, q < 24 → k < 4 → hI h (b + 3) (4 * q + k) = iv (cw C 1 q k))
/-- a night at a, as the class keeps it -/
def NtL (a : Nat) (n : Nat → Int) (h : PH) : Prop := hI h a 0 = iv (n 0) ∧ hI h a 1 = iv (n 1) ∧ hI h a 2 = iv (n 2) ∧ hI h a 3 = iv (n 3) ∧ hI h a 4 = iv (n 13) ∧ hI h a 5 = iv (n 11) ∧ hI h a 6 = iv (n 9) ∧ hI h a 7 = iv (n 10) ∧ hZ h a 8 = decide (n 5 = 1) ∧ hZ h a 9 = decide (n 4 = 1) ∧ hZ h a 10 = decide (n 6 = 0) ∧ hZ h a 11 = decide (n 6 = 1 ∧ n 12 ≤ n 0) ∧ hZ h a 12 = decide (n 7 = 1) ∧ hZ h a 13 = decide (n 8 = 1)
def NOK (H n : Nat → Int) : Prop := (0 ≤ n 0 ∧ n 0 ≤ H 0) ∧ (0 ≤ n 1 ∧ n 1 ≤ H 1) ∧ (0 ≤ n 2 ∧ n 2 ≤ H 2) ∧ (0 ≤ n 3 ∧ n 3 ≤ 4) ∧ (n 4 = 0 ∨ n 4 = 1) ∧ (n 5 = 0 ∨ n 5 = 1) ∧ (n 6 = 0 ∨ n 6 = 1) ∧ (n 7 = 0 ∨ n 7 = 1) ∧ (n 8 = 0 ∨ n 8 = 1) ∧ (0 ≤ n 13 ∧ n 13 ≤ 1000000) ∧ (0 ≤ n 12 ∧ n 12 ≤ n 0 + 1) ∧ (n 0 = H 0 → n 3 = 0) ∧ (n 12 = n 0 + 1 → n 5 = 1)
theorem HsL.fr {b : Nat} {H C : Nat → Int} {h h2 : PH} {S : Nat → Prop} (x : HsL b H C h) (f : FrS S h h2) (n0 : ¬ S b) (n1 : ¬ S (b + 1)) (n2 : ¬ S (b + 2)) (n3 : ¬ S (b + 3)) : HsL b H C h2 := by
  unfold HsL at x ⊢
  rw [(f.2.2.2 b n0).1, (f.2.2.2 _ n1).1, (f.2.2.2 _ n2).1, (f.2.2.2 _ n3).1]
  exact x
theorem NtL.fr {a : Nat} {n : Nat → Int} {h h2 : PH} {S : Nat → Prop} (x : NtL a n h) (f : FrS S h h2) (n0 : ¬ S a) : NtL a n h2 := by
  unfold NtL at x ⊢
  rw [(f.2.2.2 a n0).1, (f.2.2.2 a n0).2.2]
  exact x
/-! ### the house's own methods, over the house that stands (10) -/
theorem srv_eq {N : Nat} {h : PH} {a0 : Nat} {t a here how : Int} (ht : 0 ≤ t ∧ t ≤ 1000) (ha : 0 ≤ a ∧ a ≤ 1000) (hh : 0 ≤ here ∧ here ≤ 7) (hw : 0 ≤ how ∧ how ≤ 4) : Ho_served N a0 (iv t) (iv a) (iv here) (iv how) h = some (iv (srv t a here how), h) := by
  have c : how = 0 ∨ how = 1 ∨ how = 2 ∨ how = 3 ∨ how = 4 := by omega
  unfold Ho_served srv
  simp only [iv_lit]
  simp only [show (iv how = iv 4) ↔ how = 4 from iv_eq (by omega) (by omega) (by omega) (by omega)]
  by_cases h4 : how = 4
  · rw [if_pos h4, if_pos h4, iv_mn (by omega) (by omega) (by omega) (by omega)]
  · rw [if_neg h4, if_neg h4]
    simp only [show (iv 0 < iv how) ↔ 0 < how from iv_lt (by omega) (by omega) (by omega) (by omega)]
    by_cases h0 : 0 < how
    · rw [if_pos h0, if_pos h0, ck_p (by rw [show (iv how = iv 0) ↔ how = 0 from iv_eq (by omega) (by omega) (by omega) (by omega)]; omega), iv_add, iv_sub, iv_div (by omega) (by omega) (by omega) (by omega)]
      have e : (t + how - 1).tdiv how = (t + how - 1) / how := Int.tdiv_eq_ediv_of_nonneg (by omega)
      have b : 0 ≤ (t + how - 1) / how ∧ (t + how - 1) / how ≤ 2000 := by rcases c with rfl | rfl | rfl | rfl | rfl <;> omega
      rw [e, iv_mn (by omega) (by omega) (by omega) (by omega)]
    · rw [if_neg h0, if_neg h0]
theorem cgt_eq {N : Nat} {h : PH} {a0 : Nat} {t here how : Int} (ht : 0 ≤ t ∧ t ≤ 1000) (hh : 0 ≤ here ∧ here ≤ 7) (hw : 0 ≤ how ∧ how ≤ 4) : Ho_toffeesTaken N a0 (iv t) (iv here) (iv how) h = some (iv (cgt t here how), h) := by
  have c : how = 0 ∨ how = 1 ∨ how = 2 ∨ how = 3 ∨ how = 4 := by omega
  have b : 0 ≤ here * how ∧ here * how ≤ 28 := by rcases c with rfl | rfl | rfl | rfl | rfl <;> omega
  unfold Ho_toffeesTaken cgt
  simp only [iv_lit]
  simp only [show (iv how = iv 4) ↔ how = 4 from iv_eq (by omega) (by omega) (by omega) (by omega)]
  by_cases h4 : how = 4
  · rw [if_pos h4, if_pos h4]
  · rw [if_neg h4, if_neg h4, iv_mul, iv_mn (by omega) (by omega) (by omega) (by omega)]
theorem cga_eq {N : Nat} {h : PH} {a0 : Nat} {a here how : Int} (ha : 0 ≤ a ∧ a ≤ 1000) (hh : 0 ≤ here ∧ here ≤ 7) (hw : 0 ≤ how ∧ how ≤ 4) : Ho_applesTaken N a0 (iv a) (iv here) (iv how) h = some (iv (cga a here how), h) := by
  unfold Ho_applesTaken cga
  simp only [iv_lit]
  simp only [show (iv how = iv 4) ↔ how = 4 from iv_eq (by omega) (by omega) (by omega) (by omega)]
  by_cases h4 : how = 4
  · rw [if_pos h4, if_pos h4, iv_mn (by omega) (by omega) (by omega) (by omega)]
  · rw [if_neg h4, if_neg h4]
theorem isW_eq {N : Nat} {H C : Nat → Int} {h : PH} {here how : Int} (s : Shp h) (ho : HOK H C) (hs : HsL 10 H C h) (hh : 0 ≤ here ∧ here ≤ 7) (hw : 0 ≤ how ∧ how ≤ 4) : Ho_spreads N 10 (iv here) (iv how) h = some (decide (isW H how here = 1), h) := by
  obtain ⟨-, -, -, -, -, -, -, -, -, -, -, ⟨w1, w2⟩, -⟩ := ho
  obtain ⟨-, -, -, -, -, -, -, -, e8, -⟩ := hs
  unfold Ho_spreads isW
  rw [k10 s, e8, ck_p rfl]
  simp only [iv_lit]
  simp only [show (iv (H 11) ≤ iv 0) ↔ H 11 ≤ 0 from iv_le (by omega) (by omega) (by omega) (by omega), show (iv here ≤ iv 0) ↔ here ≤ 0 from iv_le (by omega) (by omega) (by omega) (by omega), show (iv how < iv (H 11)) ↔ how < H 11 from iv_lt (by omega) (by omega) (by omega) (by omega), show (iv 4 ≤ iv how) ↔ 4 ≤ how from iv_le (by omega) (by omega) (by omega) (by omega)]
  by_cases c1 : H 11 ≤ 0
  · rw [if_pos c1, if_neg (by omega)]; rfl
  · rw [if_neg c1]
    by_cases c2 : here ≤ 0
    · rw [if_pos c2, if_neg (by omega)]; rfl
    · rw [if_neg c2]
      by_cases c3 : how < H 11
      · rw [if_pos c3, if_neg (by omega)]; rfl
      · rw [if_neg c3]
        by_cases c4 : 4 ≤ how
        · rw [if_pos c4, if_neg (by omega)]; rfl
        · rw [if_neg c4, if_pos (by omega)]; rfl
theorem chL_eq {N : Nat} {H C : Nat → Int} {h : PH} {wet q k : Int} (s : Shp h) (hs : HsL 10 H C h) (hw : wet = 0 ∨ wet = 1) (hq : 0 ≤ q ∧ q < 24) (hk : 0 ≤ k ∧ k < 4) : Ho_chance N 10 (iv wet) (iv q) (iv k) h = some (iv (cw C wet q k), h) := by
  obtain ⟨-, -, -, -, -, -, -, -, -, -, -, -, -, -, e14, e15⟩ := hs
  unfold Ho_chance Ho_chance_b15
  simp only [iv_lit]
  simp only [show (iv wet = iv 0) ↔ wet = 0 from iv_eq (by omega) (by omega) (by omega) (by omega)]
  rw [k10 s, p10_15 s, p10_16 s, ck_p rfl, ck_p rfl, iv_mul, iv_add]
  by_cases c : wet = 0
  · rw [if_pos c, at_in (k12 s) (by omega) (by omega) (by omega), bd_s, e14 _ (by omega)]
    unfold cw ch
    rw [if_pos c, show (q * 4 + k).toNat = (4 * q + k).toNat from by omega]
  · have c1 : wet = 1 := by omega
    rw [if_neg c, at_in (k13 s) (by omega) (by omega) (by omega), bd_s, show (q * 4 + k).toNat = 4 * q.toNat + k.toNat from by omega, e15 _ _ (by omega) (by omega), c1, show ((q.toNat : Nat) : Int) = q from by omega, show ((k.toNat : Nat) : Int) = k from by omega]
theorem off_eq {N : Nat} {H C : Nat → Int} {h : PH} {q t : Int} (s : Shp h) (hs : HsL 10 H C h) : Ho_offWorth N 10 (iv q) (iv t) h = some (iv (off0 H q t), h) := by
  obtain ⟨e0, -, -, -, e4, -, -, -, -, e9, -⟩ := hs
  unfold Ho_offWorth off0
  rw [k10 s, e0, e4, e9, ck_p rfl]
  simp only [iv_lit, iv_neg, iv_mul, iv_sub, iv_add]
theorem wsm_b {H C : Nat → Int} (ho : HOK H C) (n : Int) : 0 ≤ wsm H n ∧ wsm H n ≤ 297 := by
  obtain ⟨-, -, -, -, ⟨b1, b2⟩, ⟨c1, c2⟩, ⟨d1, d2⟩, -⟩ := ho
  unfold wsm
  split <;> (try split) <;> (try split) <;> omega
theorem cgv_eq {N : Nat} {H C : Nat → Int} {h : PH} {q t a here how : Int} (s : Shp h) (ho : HOK H C) (hs : HsL 10 H C h) (hq : 0 ≤ q ∧ q < 24) (ht : 0 ≤ t ∧ t ≤ 1000) (ha : 0 ≤ a ∧ a ≤ 1000) (hh : 0 ≤ here ∧ here ≤ 7) (hw : 0 ≤ how ∧ how ≤ 4) : Ho_worthOf N 10 (iv q) (iv t) (iv a) (iv here) (iv how) h = some (iv (cgv H q t a here how), h) := by
  obtain ⟨-, -, -, e3, -, e5, e6, e7, -, -, -, -, -, e13, -⟩ := hs
  obtain ⟨-, -, -, -, -, -, -, -, -, -, ⟨g1, g2⟩, -, -, -, -, -, g16, -⟩ := ho
  have c : how = 0 ∨ how = 1 ∨ how = 2 ∨ how = 3 ∨ how = 4 := by omega
  have b : 0 ≤ here * how ∧ here * how ≤ 28 := by rcases c with rfl | rfl | rfl | rfl | rfl <;> omega
  have hg : 0 ≤ (if H 16 = 1 then H 10 else 24) ∧ (if H 16 = 1 then H 10 else 24) ≤ 24 := by split <;> omega
  have key : ∀ x : Int, x = nob H q → Ho_worthOf_b36 N (iv here - iv (srv t a here how)) (iv x) 10 (iv t) (iv here) (iv how) (iv (srv t a here how)) h = some (iv (cgv H q t a here how), h) := by
    rintro x rfl
    unfold Ho_worthOf_b36 Ho_worthOf_b81 cgv
    simp only [iv_lit]
    simp only [show (iv how = iv 4) ↔ how = 4 from iv_eq (by omega) (by omega) (by omega) (by omega), show (iv how ≤ iv 0) ↔ how ≤ 0 from iv_le (by omega) (by omega) (by omega) (by omega)]
    rw [k10 s, e3, ck_p rfl, iv_sub, iv_mul, iv_mul, iv_mul, iv_mn (by omega) (by omega) (by omega) (by omega)]
    by_cases h4 : how = 4
    · rw [if_pos h4, if_pos h4, iv_sub]
    · rw [if_neg h4, if_neg h4, p10_14 s]
      by_cases h0 : how ≤ 0
      · have h00 : how = 0 := by omega
        subst h00
        rw [if_pos h0, if_neg (by omega), ck_p rfl, at_in (k11 s) (by omega) (by omega) (by omega), bd_s, ck_p (by rw [k10 s]), p10_14 s, iv_mul, iv_sub, at_in (k11 s) (by omega) (by omega) (by omega), bd_s, e13 _ (by omega), e13 _ (by omega)]
        simp only [iv_mul, iv_add, iv_sub]
        rw [show (((min t (here * 0) - 0 * 0).toNat : Nat) : Int) = min t (here * 0) - 0 * 0 from by omega]
        rfl
      · rw [if_neg h0, if_pos (by omega), ck_p (by rw [show (iv how = iv 0) ↔ how = 0 from iv_eq (by omega) (by omega) (by omega) (by omega)]; omega), iv_div (by omega) (by omega) (by omega) (by omega), Int.tdiv_eq_ediv_of_nonneg (by omega)]
        have bb : 0 ≤ min t (here * how) - min t (here * how) / how * how ∧ min t (here * how) - min t (here * how) / how * how < 4 := by
          rcases c with rfl | rfl | rfl | rfl | rfl <;> omega
        rw [ck_p rfl, at_in (k11 s) (by omega) (by omega) (by omega), bd_s, ck_p (by rw [k10 s]), p10_14 s, iv_mul, iv_sub, at_in (k11 s) (by omega) (by omega) (by omega), bd_s, e13 _ (by omega), e13 _ (by omega)]
        simp only [iv_mul, iv_add, iv_sub]
        rw [show (((min t (here * how) - min t (here * how) / how * how).toNat : Nat) : Int) = min t (here * how) - min t (here * how) / how * how from by omega, show ((how.toNat : Nat) : Int) = how from by omega]
  unfold Ho_worthOf
  rw [ck_p (by rw [k10 s]), srv_eq ht ha hh hw, bd_s, ck_p (by rw [k10 s]), e5, e6, e7]
  simp only [show (iv q < iv (if H 16 = 1 then H 10 else 24)) ↔ q < (if H 16 = 1 then H 10 else 24) from iv_lt (by omega) (by omega) (by omega) (by omega)]
  by_cases c1 : q < (if H 16 = 1 then H 10 else 24)
  · rw [if_pos c1]
    refine key _ ?_
    unfold nob
    split at c1 <;> rw [if_neg (by omega)]
  · rw [if_neg c1]
    refine key _ ?_
    unfold nob
    split at c1 <;> first | rw [if_pos (by omega)] | omega
theorem cg_all {H : Nat → Int} {q t a here how : Int} (hh : 0 ≤ here) (hw : 0 ≤ how ∧ how ≤ 4) (ht : 0 ≤ t) (ha : 0 ≤ a) : gv H q here how t a = cgv H q t a here how ∧ gt H q here how t a = t - cgt t here how ∧ ga H q here how t a = a - cga a here how ∧ glk H q here how t a = here - srv t a here how := by
  unfold gv gt ga glk
  rw [cg_N H q t a how hw ht ha, show ((here.toNat : Nat) : Int) = here from by omega]
  exact ⟨rfl, rfl, rfl, rfl⟩
