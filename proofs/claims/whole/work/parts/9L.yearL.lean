/-! THE PURE PROOFS, 89: years: what is so; the class. -/
def nxt (d : Int) : Int := (d * 1103515245 + 12345) % 2147483648
def dig (d : Int) : Int := (d / 65536) % 10
theorem nxt_b (d : Int) : 0 ≤ nxt d ∧ nxt d < 2147483648 := by unfold nxt; omega
theorem dig_b (d : Int) : 0 ≤ dig d ∧ dig d ≤ 9 := by unfold dig; omega
theorem nxt_eq {d : Int} (h : 0 ≤ d ∧ d < 2147483648) : ((jv d * 1103515245) + 12345) - ((jv d * 1103515245) + 12345) / 2147483648 * 2147483648 = jv (nxt d) := by
  unfold nxt
  rw [jl1103515245, jl12345, jl2147483648, jv_mul, jv_add]
  have b : 0 ≤ d * 1103515245 + 12345 ∧ d * 1103515245 + 12345 < 2370000000000000000 := by omega
  generalize d * 1103515245 + 12345 = y at b ⊢
  rw [jv_div (by omega) (by omega) (by omega) (by omega), jv_mul, jv_sub, Int.tdiv_eq_ediv_of_nonneg b.1]
  congr 1
  omega
theorem dig_eq {d : Int} (h : 0 ≤ d ∧ d < 2147483648) : Int64.toInt32 ((jv d / 65536) - (jv d / 65536) / 10 * 10) = iv (dig d) := by
  unfold dig
  rw [jl65536, jl10, jv_div (by omega) (by omega) (by omega) (by omega), Int.tdiv_eq_ediv_of_nonneg h.1]
  have b : 0 ≤ d / 65536 ∧ d / 65536 < 32768 := by omega
  generalize d / 65536 = y at b ⊢
  rw [jv_div (by omega) (by omega) (by omega) (by omega), jv_mul, jv_sub, Int.tdiv_eq_ediv_of_nonneg b.1, jv_narrow]
  congr 1
  omega
def drw (C : Nat → Int) (q dg : Int) : Int := if dg < ch C q 0 then 0 else if dg < ch C q 0 + ch C q 1 then 1 else if dg < ch C q 0 + ch C q 1 + ch C q 2 then 2 else 3
theorem drw_b (C : Nat → Int) (q dg : Int) : 0 ≤ drw C q dg ∧ drw C q dg ≤ 3 := by unfold drw; split <;> (try split) <;> (try split) <;> omega
def yC (C n : Nat → Int) (d : Int) : Nat → Int := comeM C n (drw C (n 0) (dig d) + n 7)
def yQ (H C : Nat → Int) (E : Int → Int → Int → Int → Int) (n : Nat → Int) (d : Int) : Nat → Int := passM H (if yC C n d 3 ≤ 0 then yC C n d else handM H (yC C n d) (E (yC C n d 0) (yC C n d 1) (yC C n d 2) (yC C n d 3)))
def yE (H C : Nat → Int) (E : Int → Int → Int → Int → Int) : Nat → (Nat → Int) → Int → (Nat → Int) × Int
  | 0, n, d => (n, d)
  | m + 1, n, d => yE H C E m (yQ H C E n (nxt d)) (nxt d)
def yY (H C : Nat → Int) (E : Int → Int → Int → Int → Int) : Nat → Int → Int → Int → Int → Int × Int × Int
  | 0, _, a, b, c => (a, b, c)
  | y + 1, d, a, b, c => yY H C E y (yE H C E (H 0).toNat (begM H) d).2 (a + (yE H C E (H 0).toNat (begM H) d).1 11) (b + (yE H C E (H 0).toNat (begM H) d).1 1) (c + (yE H C E (H 0).toNat (begM H) d).1 10)
theorem yC_f (C n : Nat → Int) (d : Int) : yC C n d 0 = n 0 ∧ yC C n d 1 = n 1 ∧ yC C n d 2 = n 2 ∧ yC C n d 3 = drw C (n 0) (dig d) + n 7 := by
  unfold yC comeM
  exact ⟨rfl, rfl, rfl, rfl⟩
theorem yC_ok {H C n : Nat → Int} (ho : HOK H C) (nk : NOK H n) (hq : n 0 < H 0) (d : Int) : NOK H (yC C n d) := by
  have b := drw_b C (n 0) (dig d)
  exact comeM_ok ho nk hq (by omega)
theorem handM_0 (H n : Nat → Int) (w : Int) : handM H n w 0 = n 0 := rfl
theorem passM_0 (H n : Nat → Int) : passM H n 0 = n 0 + 1 := by
  have e : ∀ m : Nat → Int, endM H m 0 = m 0 := fun m => by
    unfold endM
    split
    · rfl
    · rfl
  have d : ∀ m : Nat → Int, darkM H m 0 = m 0 := fun m => by
    unfold darkM
    split
    · rfl
    · rfl
  unfold passM
  rw [e]
  show darkM H _ 0 + 1 = _
  rw [d]
  split
  · rfl
  · rfl
theorem yH_ok {H C n : Nat → Int} {E : Int → Int → Int → Int → Int} (ho : HOK H C) (eo : ∀ a b c d, 0 ≤ E a b c d ∧ E a b c d ≤ 4) (nk : NOK H n) (hq : n 0 < H 0) (d : Int) : NOK H (if yC C n d 3 ≤ 0 then yC C n d else handM H (yC C n d) (E (yC C n d 0) (yC C n d 1) (yC C n d 2) (yC C n d 3))) ∧ (if yC C n d 3 ≤ 0 then yC C n d else handM H (yC C n d) (E (yC C n d 0) (yC C n d 1) (yC C n d 2) (yC C n d 3))) 0 = n 0 := by
  have c := yC_ok ho nk hq d
  by_cases z : yC C n d 3 ≤ 0
  · rw [if_pos z]
    exact ⟨c, (yC_f C n d).1⟩
  · rw [if_neg z]
    exact ⟨handM_ok ho c (eo _ _ _ _), by rw [handM_0]; exact (yC_f C n d).1⟩
theorem yQ_ok {H C n : Nat → Int} {E : Int → Int → Int → Int → Int} (ho : HOK H C) (eo : ∀ a b c d, 0 ≤ E a b c d ∧ E a b c d ≤ 4) (nk : NOK H n) (hq : n 0 < H 0) (d : Int) : NOK H (yQ H C E n d) ∧ yQ H C E n d 0 = n 0 + 1 := by
  have c := yH_ok ho eo nk hq d
  unfold yQ
  exact ⟨passM_ok ho c.1 (by rw [c.2]; exact hq), by rw [passM_0, c.2]⟩
def gE3 (g : Gs) (z : Int) (a b c d : Int) : Int := gE2 g z a b c d
theorem gE3_b (g : Gs) (z : Int) : ∀ a b c d, 0 ≤ gE3 g z a b c d ∧ gE3 g z a b c d ≤ 4 := fun a b c d => EvE_ok (gsE g) (gsH g) z a b c d
def fYears (g : Gs) (a y z w : Int) : Int := if (0 ≤ a ∧ a ≤ 9999) ∧ (1 ≤ y ∧ y ≤ 20) ∧ hbt g z ∧ 0 ≤ w ∧ w ≤ 2 then (if w = 0 then (mxI 0 (iv (yY (gsH g) (gsC g) (gE3 g z) y.toNat a 0 0 0).1)).toInt else if w = 1 then (yY (gsH g) (gsC g) (gE3 g z) y.toNat a 0 0 0).2.1 else (yY (gsH g) (gsC g) (gE3 g z) y.toNat a 0 0 0).2.2) else -1
section
variable {N c : Nat} {g : Gs} {h : PH}
theorem LeI.only46 {h2 : PH} (x : LeI c g h) (f : FrI (fun b => b = 46) h h2) : LeI c g h2 ∧ CFr h h2 := by
  refine ⟨⟨x.1.frS f.s (fun b hb => by unfold LowL at hb; omega), ?_⟩, f.s.cf x.2.1 (fun b z => by omega)⟩
  obtain ⟨hn, d, len, ff, rd, ⟨v0, v1, v2, m, r, s, a, b⟩, r1, r2, r3⟩ := x.2
  have eN : hN h2 = hN h := by unfold hN; rw [f.1]
  have eS : hS h2 = hS h := by unfold hS; rw [f.1]
  have eE : hE h2 = hE h := by unfold hE; rw [f.1]
  have nd : ∀ i, i < 7 → ¬ (d i = 46) := fun i hi z => by
    have w := (a i hi).1
    unfold Dyn at w
    omega
  exact ⟨by omega, d, len, ff, rd, ⟨v0.frH f.s.h (by omega) (by omega) (nd 0 (by omega)), v1.frH f.s.h (by omega) (by omega) (nd 1 (by omega)), v2.frH f.s.h (by omega) (by omega) (nd 2 (by omega)), m.frH f.s.h (by omega) (nd 3 (by omega)) (nd 4 (by omega)), r.frH f.s.h (by omega), s.frH f.s.h hn (by omega), fun i hi => ⟨(a i hi).1, by rw [eN]; exact (a i hi).2⟩, b⟩, by rw [eN, eE]; exact r1, r2, by rw [eS]; exact r3⟩
theorem callersL {q dg : Int} (hN : 100 ≤ N) (x : LeI c g h) (k : GOK g) (hq : 0 ≤ q ∧ q < 24) (hd : 0 ≤ dg ∧ dg ≤ 9) : Le_callersDrawn N 6 (iv q) (iv dg) h = some (iv (drw (gsC g) q dg), h) := by
  have s := x.s
  have cb := k.1.2.2.2.2.2.2.2.2.2.2.2.2.2.2.2.2.2.1
  have c0 := cb (4 * q + 0).toNat (by omega)
  have c1 := cb (4 * q + 1).toNat (by omega)
  have c2 := cb (4 * q + 2).toNat (by omega)
  have chb : (0 ≤ ch (gsC g) q 0 ∧ ch (gsC g) q 0 ≤ 10) ∧ (0 ≤ ch (gsC g) q 1 ∧ ch (gsC g) q 1 ≤ 10) ∧ (0 ≤ ch (gsC g) q 2 ∧ ch (gsC g) q 2 ≤ 10) := ⟨c0, c1, c2⟩
  have cE : ∀ j : Int, 0 ≤ j ∧ j < 4 → Ho_chance N 10 (iv 0) (iv q) (iv j) h = some (iv (ch (gsC g) q j), h) := fun j hj => by
    have e := chL_eq (N := N) (wet := 0) (q := q) (k := j) s x.hs (Or.inl rfl) hq hj
    unfold cw at e
    rwa [if_pos rfl] at e
  obtain ⟨fu, rfl⟩ : ∃ e, N = e + 1 + 1 + 1 + 1 := ⟨N - 4, by omega⟩
  unfold Le_callersDrawn drw
  rw [il0, Le_callersDrawn_b5]
  dsimp only
  rw [il3, if_neg (by rw [iv_le (by omega) (by omega) (by omega) (by omega)]; omega), ck_p (by rw [k6 s]), p6_1 s, bn_s, ck_p (by rw [k10 s]), il0, cE 0 (by omega), bd_s, iv_add, il1, iv_add]
  simp only [show (iv (0 + ch (gsC g) q 0) ≤ iv dg) ↔ 0 + ch (gsC g) q 0 ≤ dg from iv_le (by omega) (by omega) (by omega) (by omega)]
  by_cases a0 : dg < ch (gsC g) q 0
  · rw [if_neg (by omega), if_pos a0]
  rw [if_pos (by omega), if_neg a0, Le_callersDrawn_b5]
  dsimp only
  rw [il3, if_neg (by rw [iv_le (by omega) (by omega) (by omega) (by omega)]; omega), ck_p (by rw [k6 s]), p6_1 s, bn_s, ck_p (by rw [k10 s]), il0, cE (0 + 1) (by omega), bd_s, iv_add, il1, iv_add]
  simp only [show (iv (0 + ch (gsC g) q 0 + ch (gsC g) q (0 + 1)) ≤ iv dg) ↔ 0 + ch (gsC g) q 0 + ch (gsC g) q 1 ≤ dg from iv_le (by show _ ≤ 0 + ch (gsC g) q 0 + ch (gsC g) q 1; omega) (by show 0 + ch (gsC g) q 0 + ch (gsC g) q 1 < _; omega) (by omega) (by omega)]
  by_cases a1 : dg < ch (gsC g) q 0 + ch (gsC g) q 1
  · rw [if_neg (by omega), if_pos a1]
    rfl
  rw [if_pos (by omega), if_neg a1, Le_callersDrawn_b5]
  dsimp only
  rw [il3, if_neg (by rw [iv_le (by omega) (by omega) (by omega) (by omega)]; omega), ck_p (by rw [k6 s]), p6_1 s, bn_s, ck_p (by rw [k10 s]), il0, cE (0 + 1 + 1) (by omega), bd_s, iv_add, il1, iv_add]
  simp only [show (iv (0 + ch (gsC g) q 0 + ch (gsC g) q (0 + 1) + ch (gsC g) q (0 + 1 + 1)) ≤ iv dg) ↔ 0 + ch (gsC g) q 0 + ch (gsC g) q 1 + ch (gsC g) q 2 ≤ dg from iv_le (by show _ ≤ 0 + ch (gsC g) q 0 + ch (gsC g) q 1 + ch (gsC g) q 2; omega) (by show 0 + ch (gsC g) q 0 + ch (gsC g) q 1 + ch (gsC g) q 2 < _; omega) (by omega) (by omega)]
  by_cases a2 : dg < ch (gsC g) q 0 + ch (gsC g) q 1 + ch (gsC g) q 2
  · rw [if_neg (by omega), if_pos a2]
    rfl
  rw [if_pos (by omega), if_neg a2, Le_callersDrawn_b5]
  dsimp only
  rw [il3, if_pos (by decide)]
end
