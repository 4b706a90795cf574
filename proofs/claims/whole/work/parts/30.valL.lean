/-! THE PURE PROOFS, 8: the class's Values. -/
def FrI (S : Nat → Prop) (h h2 : PH) : Prop := h2.1 = h.1 ∧ hK h2 = hK h ∧ hR h2 = hR h ∧ hZ h2 = hZ h ∧ hJ h2 = hJ h ∧ ∀ b, ¬ S b → hI h2 b = hI h b
theorem FrI.rf {S : Nat → Prop} {h : PH} : FrI S h h := ⟨rfl, rfl, rfl, rfl, rfl, fun _ _ => rfl⟩
theorem FrI.tr {S : Nat → Prop} {h h1 h2 : PH} (a : FrI S h h1) (b : FrI S h1 h2) : FrI S h h2 := ⟨b.1.trans a.1, b.2.1.trans a.2.1, b.2.2.1.trans a.2.2.1, b.2.2.2.1.trans a.2.2.2.1, b.2.2.2.2.1.trans a.2.2.2.2.1, fun c hc => (b.2.2.2.2.2 c hc).trans (a.2.2.2.2.2 c hc)⟩
theorem FrI.up {S T : Nat → Prop} {h h2 : PH} (a : FrI S h h2) (k : ∀ b, S b → T b) : FrI T h h2 := ⟨a.1, a.2.1, a.2.2.1, a.2.2.2.1, a.2.2.2.2.1, fun c hc => a.2.2.2.2.2 c (fun s => hc (k c s))⟩
theorem FrI.w {S : Nat → Prop} {h0 h : PH} {a i : Nat} {v : Int32} (f : FrI S h0 h) (s : S a) : FrI S h0 (wI h a i v) := f.tr ⟨rfl, rfl, rfl, rfl, rfl, fun b hb => u2_ne (fun e => hb (e ▸ s))⟩
theorem FrI.s {S : Nat → Prop} {h h2 : PH} (f : FrI S h h2) : FrS S h h2 := ⟨f.1, f.2.1, f.2.2.1, fun b hb => ⟨f.2.2.2.2.2 b hb, by rw [f.2.2.2.2.1], by rw [f.2.2.2.1]⟩⟩
theorem FrI.I {S : Nat → Prop} {h h2 : PH} (f : FrI S h h2) {b : Nat} (n : ¬ S b) (i : Nat) : hI h2 b i = hI h b i := congrFun (f.2.2.2.2.2 b n) i
theorem FrI.shp {S : Nat → Prop} {h h2 : PH} (f : FrI S h h2) (s : Shp h) : Shp h2 := Shp.of f.2.1 f.2.2.1 s
/-- what points where in a Values: its row of greatest, its table -/
def VaS (a0 g0 tb len : Nat) (wet mute : Int) (h : PH) : Prop := hK h a0 = (9, 0) ∧ hR h a0 0 = some 10 ∧ hR h a0 3 = some g0 ∧ hK h g0 = (20, 5) ∧ hR h a0 4 = some tb ∧ hK h tb = (20, len) ∧ hZ h a0 1 = decide (wet = 1) ∧ hZ h a0 2 = decide (mute = 0) ∧ (wet = 0 ∨ wet = 1) ∧ (mute = 0 ∨ mute = 1) ∧ (a0 < 10 ∨ 13 < a0) ∧ (g0 < 10 ∨ 13 < g0) ∧ (tb < 10 ∨ 13 < tb) ∧ g0 ≠ tb ∧ a0 ≠ g0 ∧ a0 ≠ tb ∧ len < 1000000
theorem VaS.fr {S : Nat → Prop} {a0 g0 tb len : Nat} {wet mute : Int} {h h2 : PH} (v : VaS a0 g0 tb len wet mute h) (f : FrI S h h2) : VaS a0 g0 tb len wet mute h2 := by
  unfold VaS at v ⊢
  rw [f.2.1, f.2.2.1, f.2.2.2.1]
  exact v
/-- the table is right from quarter ff on -/
def TabOK (H C : Nat → Int) (wet mute : Int) (tb : Nat) (ff : Int) (h : PH) : Prop := ∀ q t a w : Int, ff ≤ q → 0 ≤ q → q < H 0 → 0 ≤ t → t ≤ H 1 → 0 ≤ a → a ≤ H 2 → (w = 0 ∨ w = 1) → hI h tb (pl H q t a w).toNat = iv (Vq H C wet mute q t a w)
theorem TabOK.fr {S : Nat → Prop} {H C : Nat → Int} {wet mute ff : Int} {tb : Nat} {h h2 : PH} (x : TabOK H C wet mute tb ff h) (f : FrI S h h2) (n : ¬ S tb) : TabOK H C wet mute tb ff h2 := fun q t a w b0 b1 b2 b3 b4 b5 b6 b7 => (f.I n _).trans (x q t a w b0 b1 b2 b3 b4 b5 b6 b7)
theorem bI_w {w : Int} (h : w = 0 ∨ w = 1) : bI (decide (w = 1)) = iv w := by
  rcases h with rfl | rfl <;> decide
theorem place_eq {N : Nat} {H C : Nat → Int} {h : PH} {q t a w : Int} (s : Shp h) (hs : HsL 10 H C h) (hw : w = 0 ∨ w = 1) : Ho_placeOf N 10 (iv q) (iv t) (iv a) (iv w) h = some (iv (pl H q t a w), h) := by
  obtain ⟨-, e1, e2, -⟩ := hs
  unfold Ho_placeOf Ho_placeOf_b31 pl
  rw [ck_p (by rw [k10 s]), e1, e2]
  simp only [il0, il1, il2, iv_add, iv_mul]
  simp only [show (iv w = iv 0) ↔ w = 0 from iv_eq (by omega) (by omega) (by omega) (by omega)]
  rcases hw with rfl | rfl
  · rw [if_pos rfl]
  · rw [if_neg (by decide)]
theorem cell_eq {N a0 g0 tb len : Nat} {H C : Nat → Int} {wet mute ff : Int} {h : PH} {q t a w : Int} (s : Shp h) (ho : HOK H C) (hs : HsL 10 H C h) (v : VaS a0 g0 tb len wet mute h) (hl : ff < H 0 → szH H ≤ len) (x : TabOK H C wet mute tb ff h) (hq : 0 ≤ q ∧ q ≤ H 0) (hf : ff ≤ q) (ht : 0 ≤ t ∧ t ≤ H 1) (ha : 0 ≤ a ∧ a ≤ H 2) (hw : w = 0 ∨ w = 1) : Va_cell N a0 (iv q) (iv t) (iv a) (iv w) h = some (iv (Vq H C wet mute q t a w), h) := by
  obtain ⟨v1, v2, -, -, v5, v6, -, -, -, -, -, -, -, -, -, -, vl⟩ := v
  have e0 := hs.1
  have h0 := ho.1
  unfold Va_cell
  rw [ck_p (by rw [v1]), v2, bn_s, ck_p (by rw [k10 s]), e0, v5]
  simp only [show (iv q < iv (H 0)) ↔ q < H 0 from iv_lt (by omega) (by omega) (by omega) (by omega)]
  by_cases c : q < H 0
  · have pb := pl_b (H := H) (q := q) ⟨hq.1, c⟩ ht ha (by omega : 0 ≤ w ∧ w ≤ 1)
    have sb := hl (by omega)
    rw [if_pos c, place_eq s hs hw, bd_s, at_in v6 (by omega) pb.1 (by omega), bd_s, x q t a w hf hq.1 c ht.1 ht.2 ha.1 ha.2 hw]
  · have e : q = H 0 := by omega
    rw [if_neg c, off_eq s hs, bd_s, Vq_end e, e]
theorem giveW_eq {N a0 g0 tb len : Nat} {H C : Nat → Int} {wet mute ff : Int} {h : PH} {q t a here how : Int} (s : Shp h) (ho : HOK H C) (hs : HsL 10 H C h) (v : VaS a0 g0 tb len wet mute h) (hl : ff < H 0 → szH H ≤ len) (x : TabOK H C wet mute tb ff h) (hq : 0 ≤ q ∧ q < H 0) (hf : ff ≤ q + 1) (ht : 0 ≤ t ∧ t ≤ H 1) (ha : 0 ≤ a ∧ a ≤ H 2) (hh : 0 ≤ here ∧ here ≤ 4) (hw : 0 ≤ how ∧ how ≤ 4) : Va_giveWorth N a0 (iv q) (iv t) (iv a) (iv here) (iv how) h = some (iv (wv H mute (Vq H C wet mute (q + 1)) q here t a how), h) := by
  have v0 := v
  obtain ⟨v1, v2, -, -, v5, v6, -, v8, -, v10, -⟩ := v
  have h0 := ho.1
  have h1 := ho.2.1
  have h2 := ho.2.2.1
  have g := g_b ho (q := q) hw hh ht.1 ha.1
  obtain ⟨c1, c2, c3, c4⟩ := cg_all (H := H) (q := q) hh.1 hw ht.1 ha.1
  have fin : ∀ w : Int, (w = 0 ∨ w = 1) → w = (if mute = 0 then isW H how here else 0) → Va_giveWorth_b76 N (iv 1000 * iv (cgv H q t a here how)) a0 (iv (q + 1)) (iv (t - cgt t here how)) (iv (a - cga a here how)) (iv w) h = some (iv (wv H mute (Vq H C wet mute (q + 1)) q here t a how), h) := by
    intro w hw1 hw2
    unfold Va_giveWorth_b76
    rw [ck_p (by rw [v1]), ← c2, ← c3, cell_eq s ho hs v0 hl x (by omega) hf (by omega) (by omega) hw1, bd_s, iv_mul, iv_add]
    unfold wv
    rw [c1, hw2]
  unfold Va_giveWorth Va_giveWorth_b75
  rw [ck_p (by rw [v1]), v2, bn_s, ck_p (by rw [k10 s]), cgv_eq s ho hs (by omega) (by omega) (by omega) (by omega) hw, bd_s, ck_p (by rw [v1]), v2, bn_s, ck_p (by rw [k10 s]), cgt_eq (by omega) (by omega) hw, bd_s, ck_p (by rw [v1]), v2, bn_s, ck_p (by rw [k10 s]), cga_eq (by omega) (by omega) hw, bd_s, ck_p (by rw [v1]), v2, bn_s, ck_p (by rw [k10 s]), isW_eq s ho hs (by omega) hw, bd_s, v8]
  simp only [bI_0, bI_0]
  rw [il1000, il1, il0, iv_add, iv_sub, iv_sub]
  by_cases m : mute = 0
  · rw [if_neg (by simp [m])]
    rcases isW_01 H how here with e | e
    · rw [e, if_pos (by decide)]
      exact fin 0 (Or.inl rfl) (by rw [if_pos m, e])
    · rw [e, if_neg (by decide)]
      exact fin 1 (Or.inr rfl) (by rw [if_pos m, e])
  · rw [if_pos (by simp [m])]
    exact fin 0 (Or.inl rfl) (by rw [if_neg m])
theorem mx3 (a b : Int) : max a b = if a < b then b else a := by split <;> omega
theorem grL_eq {N a0 g0 tb len : Nat} {H C : Nat → Int} {wet mute ff : Int} {h : PH} {q t a here : Int} (hN : 100 ≤ N) (s : Shp h) (ho : HOK H C) (hs : HsL 10 H C h) (v : VaS a0 g0 tb len wet mute h) (hl : ff < H 0 → szH H ≤ len) (x : TabOK H C wet mute tb ff h) (hq : 0 ≤ q ∧ q < H 0) (hf : ff ≤ q + 1) (ht : 0 ≤ t ∧ t ≤ H 1) (ha : 0 ≤ a ∧ a ≤ H 2) (hh : 0 ≤ here ∧ here ≤ 4) : Va_greatestOf N a0 (iv q) (iv t) (iv a) (iv here) h = some (iv (gr H mute (Vq H C wet mute (q + 1)) q here t a), h) := by
  have v1 := v.1
  have h0 := ho.1
  have h2 := ho.2.2.1
  have gw : ∀ how : Int, 0 ≤ how ∧ how ≤ 4 → Va_giveWorth N a0 (iv q) (iv t) (iv a) (iv here) (iv how) h = some (iv (wv H mute (Vq H C wet mute (q + 1)) q here t a how), h) := fun how hw => giveW_eq s ho hs v hl x hq hf ht ha hh hw
  have bd := Vq_bd ho wet mute (q := q + 1) (by omega)
  have wb : ∀ how : Int, 0 ≤ how ∧ how ≤ 4 → -27000000 ≤ wv H mute (Vq H C wet mute (q + 1)) q here t a how ∧ wv H mute (Vq H C wet mute (q + 1)) q here t a how ≤ 30000000 := by
    intro how hw
    have := wv_b ho bd (mute := mute) (q := q) hw hh ht ha
    omega
  have step : ∀ (f : Nat) (x5 l k : Int), k ≤ l → -27000000 ≤ x5 ∧ x5 ≤ 30000000 → 0 ≤ k → l ≤ 4 → Va_greatestOf_b35 N (f + 1) a0 (iv q) (iv t) (iv a) (iv here) (iv x5) (iv l) (iv k) h = Va_greatestOf_b35 N f a0 (iv q) (iv t) (iv a) (iv here) (iv (max x5 (wv H mute (Vq H C wet mute (q + 1)) q here t a k))) (iv l) (iv (k + 1)) h := by
    intro f x5 l k hkl hx hk hl4
    have := wb k ⟨hk, by omega⟩
    rw [Va_greatestOf_b35]
    dsimp only
    rw [if_neg (by rw [iv_lt (by omega) (by omega) (by omega) (by omega)]; omega), ck_p (by rw [v1]), gw k (by omega), bd_s, iv_mx (by omega) (by omega) (by omega) (by omega), il1, iv_add]
  have stop : ∀ (f : Nat) (x5 l k : Int), l < k → k ≤ 5 → 0 ≤ l → Va_greatestOf_b35 N (f + 1) a0 (iv q) (iv t) (iv a) (iv here) (iv x5) (iv l) (iv k) h = some (iv x5, h) := by
    intro f x5 l k hkl hk hl0
    rw [Va_greatestOf_b35]
    dsimp only
    rw [if_pos (by rw [iv_lt (by omega) (by omega) (by omega) (by omega)]; omega)]
  obtain ⟨f, rfl⟩ : ∃ f, N = f + 1 + 1 + 1 + 1 + 1 := ⟨N - 5, by omega⟩
  have w0 := wb 0 (by omega)
  have w1 := wb 1 (by omega)
  have w2 := wb 2 (by omega)
  have w3 := wb 3 (by omega)
  have w4 := wb 4 (by omega)
  unfold Va_greatestOf Va_greatestOf_b30
  rw [ck_p (by rw [v1])]
  simp only [il0, il1, il3, il4]
  rw [gw 0 (by omega), bd_s]
  simp only [show (iv here = iv 0) ↔ here = 0 from iv_eq (by omega) (by omega) (by omega) (by omega), show (iv a ≤ iv 0) ↔ a ≤ 0 from iv_le (by omega) (by omega) (by omega) (by omega)]
  by_cases c : here = 0
  · rw [if_pos c, stop _ _ _ _ (by omega) (by omega) (by omega)]
    subst c
    rw [gr_none, wv_none]
  · rw [if_neg c]
    by_cases c2 : a ≤ 0
    · have ea : a = 0 := by omega
      rw [if_pos c2, step _ _ _ _ (by omega) (by omega) (by omega) (by omega), show (1 : Int) + 1 = 2 from rfl, step _ _ _ _ (by omega) (by omega) (by omega) (by omega), show (2 : Int) + 1 = 3 from rfl, step _ _ _ _ (by omega) (by omega) (by omega) (by omega), show (3 : Int) + 1 = 4 from rfl, stop _ _ _ _ (by omega) (by omega) (by omega)]
      unfold gr
      rw [show wv H mute (Vq H C wet mute (q + 1)) q here t a 4 = wv H mute (Vq H C wet mute (q + 1)) q here t a 0 from by rw [ea]; exact wv_noapple ht.1]
      congr 3
      omega
    · rw [if_neg c2, step _ _ _ _ (by omega) (by omega) (by omega) (by omega), show (1 : Int) + 1 = 2 from rfl, step _ _ _ _ (by omega) (by omega) (by omega) (by omega), show (2 : Int) + 1 = 3 from rfl, step _ _ _ _ (by omega) (by omega) (by omega) (by omega), show (3 : Int) + 1 = 4 from rfl, step _ _ _ _ (by omega) (by omega) (by omega) (by omega), show (4 : Int) + 1 = 5 from rfl, stop _ _ _ _ (by omega) (by omega) (by omega)]
      rfl
def canK (C : Nat → Int) (wet q k : Int) : Prop := (k < 4 ∧ 0 < cw C wet q k) ∨ (0 < k ∧ 0 < cw C wet q (k - 1))
theorem weigh_step {N f a0 g0 tb len : Nat} {H C : Nat → Int} {wet mute ff : Int} {h : PH} {q t a k : Int} (hN : 100 ≤ N) (s : Shp h) (ho : HOK H C) (hs : HsL 10 H C h) (v : VaS a0 g0 tb len wet mute h) (hl : ff < H 0 → szH H ≤ len) (x : TabOK H C wet mute tb ff h) (hq : 0 ≤ q ∧ q < H 0) (hf : ff ≤ q + 1) (ht : 0 ≤ t ∧ t ≤ H 1) (ha : 0 ≤ a ∧ a ≤ H 2) (hk : 0 ≤ k ∧ k ≤ 4) : ∃ y : Int, (canK C wet q k → y = gr H mute (Vq H C wet mute (q + 1)) q k t a) ∧ Va_weigh_b3 N (f + 1) a0 (iv q) (iv t) (iv a) (iv k) h = Va_weigh_b3 N f a0 (iv q) (iv t) (iv a) (iv (k + 1)) (wI h g0 k.toNat (iv y)) := by
  have g := grL_eq hN s ho hs v hl x hq hf ht ha hk
  obtain ⟨v1, v2, v3, v4, v5, v6, v7, -, vw, -⟩ := v
  have h0 := ho.1
  have yes : Va_weigh_b56 N (Va_weigh_b3 N f) a0 (iv q) (iv t) (iv a) (iv k) h = Va_weigh_b3 N f a0 (iv q) (iv t) (iv a) (iv (k + 1)) (wI h g0 k.toNat (iv (gr H mute (Vq H C wet mute (q + 1)) q k t a))) := by
    unfold Va_weigh_b56 Va_weigh_b61 Va_weigh_b87
    rw [ck_p (by rw [v1]), if_neg (by decide), g, bd_s, v3, put_in v4 (by omega) hk.1 (by omega), bd_s, il1, iv_add]
  have no : Va_weigh_b60 N (Va_weigh_b3 N f) a0 (iv q) (iv t) (iv a) (iv k) h = Va_weigh_b3 N f a0 (iv q) (iv t) (iv a) (iv (k + 1)) (wI h g0 k.toNat (iv 0)) := by
    unfold Va_weigh_b60 Va_weigh_b61 Va_weigh_b87
    rw [ck_p (by rw [v1]), if_pos rfl, v3, put_in v4 (by omega) hk.1 (by omega), bd_s, il1, iv_add, il0]
  have second : (k < 4 → cw C wet q k ≤ 0) → ∃ y : Int, (canK C wet q k → y = gr H mute (Vq H C wet mute (q + 1)) q k t a) ∧ Va_weigh_b32 N (Va_weigh_b3 N f) a0 (iv q) (iv t) (iv a) (iv k) h = Va_weigh_b3 N f a0 (iv q) (iv t) (iv a) (iv (k + 1)) (wI h g0 k.toNat (iv y)) := by
    intro hc
    unfold Va_weigh_b32
    rw [ck_p (by rw [v1]), v2, bn_s, ck_p (by rw [k10 s]), v7, bI_w vw, il1, iv_sub, il0]
    simp only [show (iv k ≤ iv 0) ↔ k ≤ 0 from iv_le (by omega) (by omega) (by omega) (by omega)]
    by_cases c : k ≤ 0
    · rw [if_pos c]
      exact ⟨0, fun hh => by rcases hh with hh | hh <;> omega, no⟩
    · have cb := cw_b ho (wet := wet) (q := q) (k := k - 1) (by omega) (by omega)
      rw [if_neg c, chL_eq s hs vw (by omega) (by omega), bd_s]
      simp only [show (iv (cw C wet q (k - 1)) ≤ iv 0) ↔ cw C wet q (k - 1) ≤ 0 from iv_le (by omega) (by omega) (by omega) (by omega)]
      by_cases c2 : cw C wet q (k - 1) ≤ 0
      · rw [if_pos c2]
        exact ⟨0, fun hh => by rcases hh with hh | hh <;> omega, no⟩
      · rw [if_neg c2]
        exact ⟨_, fun _ => rfl, yes⟩
  rw [Va_weigh_b3]
  dsimp only
  rw [if_neg (by rw [il4, iv_lt (by omega) (by omega) (by omega) (by omega)]; omega), il4, ck_p (by rw [v1]), v2, bn_s, ck_p (by rw [k10 s]), v7, bI_w vw]
  simp only [show (iv 4 ≤ iv k) ↔ 4 ≤ k from iv_le (by omega) (by omega) (by omega) (by omega)]
  by_cases c : 4 ≤ k
  · rw [if_pos c]
    exact second (fun hh => by omega)
  · have cb := cw_b ho (wet := wet) (q := q) (k := k) (by omega) (by omega)
    rw [if_neg c, chL_eq s hs vw (by omega) (by omega), bd_s, il0]
    simp only [show (iv 0 < iv (cw C wet q k)) ↔ 0 < cw C wet q k from iv_lt (by omega) (by omega) (by omega) (by omega)]
    by_cases c2 : 0 < cw C wet q k
    · rw [if_pos c2]
      exact ⟨_, fun _ => rfl, yes⟩
    · rw [if_neg c2]
      exact second (fun _ => by omega)
theorem weighL {N a0 g0 tb len : Nat} {H C : Nat → Int} {wet mute ff : Int} {h : PH} {q t a : Int} (hN : 100 ≤ N) (s : Shp h) (ho : HOK H C) (hs : HsL 10 H C h) (v : VaS a0 g0 tb len wet mute h) (hl : ff < H 0 → szH H ≤ len) (x : TabOK H C wet mute tb ff h) (hq : 0 ≤ q ∧ q < H 0) (hf : ff ≤ q + 1) (ht : 0 ≤ t ∧ t ≤ H 1) (ha : 0 ≤ a ∧ a ≤ H 2) : ∃ h2, Va_weigh N a0 (iv q) (iv t) (iv a) h = some ((), h2) ∧ FrI (fun b => b = g0) h h2 ∧ ∀ k : Int, 0 ≤ k → k ≤ 4 → canK C wet q k → hI h2 g0 k.toNat = iv (gr H mute (Vq H C wet mute (q + 1)) q k t a) := by
  have v0 := v
  obtain ⟨-, -, -, -, -, -, -, -, -, -, d1, d2, d3, d4, d5, d6, -⟩ := v
  have next : ∀ {h1 : PH}, FrI (fun b => b = g0) h h1 → Shp h1 ∧ HsL 10 H C h1 ∧ VaS a0 g0 tb len wet mute h1 ∧ TabOK H C wet mute tb ff h1 := by
    intro h1 f
    exact ⟨f.shp s, hs.fr f.s (by omega) (by omega) (by omega) (by omega), v0.fr f, x.fr f (by omega)⟩
  obtain ⟨f, rfl⟩ : ∃ f, N = f + 1 + 1 + 1 + 1 + 1 + 1 := ⟨N - 6, by omega⟩
  unfold Va_weigh
  rw [il0]
  obtain ⟨y0, e0, r0⟩ := weigh_step (f := f + 1 + 1 + 1 + 1 + 1) (k := 0) hN s ho hs v0 hl x hq hf ht ha (by omega)
  have f0 : FrI (fun b => b = g0) h (wI h g0 (0 : Int).toNat (iv y0)) := FrI.rf.w rfl
  obtain ⟨s1, hs1, v1, x1⟩ := next f0
  obtain ⟨y1, e1, r1⟩ := weigh_step (f := f + 1 + 1 + 1 + 1) (k := 0 + 1) hN s1 ho hs1 v1 hl x1 hq hf ht ha (by omega)
  have f1 : FrI (fun b => b = g0) h _ := f0.w (i := ((0 : Int) + 1).toNat) (v := iv y1) rfl
  obtain ⟨s2, hs2, v2, x2⟩ := next f1
  obtain ⟨y2, e2, r2⟩ := weigh_step (f := f + 1 + 1 + 1) (k := 0 + 1 + 1) hN s2 ho hs2 v2 hl x2 hq hf ht ha (by omega)
  have f2 : FrI (fun b => b = g0) h _ := f1.w (i := ((0 : Int) + 1 + 1).toNat) (v := iv y2) rfl
  obtain ⟨s3, hs3, v3, x3⟩ := next f2
  obtain ⟨y3, e3, r3⟩ := weigh_step (f := f + 1 + 1) (k := 0 + 1 + 1 + 1) hN s3 ho hs3 v3 hl x3 hq hf ht ha (by omega)
  have f3 : FrI (fun b => b = g0) h _ := f2.w (i := ((0 : Int) + 1 + 1 + 1).toNat) (v := iv y3) rfl
  obtain ⟨s4, hs4, v4, x4⟩ := next f3
  obtain ⟨y4, e4, r4⟩ := weigh_step (f := f + 1) (k := 0 + 1 + 1 + 1 + 1) hN s4 ho hs4 v4 hl x4 hq hf ht ha (by omega)
  have f4 : FrI (fun b => b = g0) h _ := f3.w (i := ((0 : Int) + 1 + 1 + 1 + 1).toNat) (v := iv y4) rfl
  refine ⟨_, ?_, f4, ?_⟩
  · rw [r0, r1, r2, r3, r4, Va_weigh_b3]
    dsimp only
    rw [if_pos (by decide)]
  · intro k k0 k4 hk
    have c : k = 0 ∨ k = 1 ∨ k = 2 ∨ k = 3 ∨ k = 4 := by omega
    rcases c with rfl | rfl | rfl | rfl | rfl
    · have e : gr H mute (Vq H C wet mute (q + 1)) q 0 t a = y0 := (e0 hk).symm
      rw [e]
      simp [hI_wI]
    · have e : gr H mute (Vq H C wet mute (q + 1)) q 1 t a = y1 := (e1 hk).symm
      rw [e]
      simp [hI_wI]
    · have e : gr H mute (Vq H C wet mute (q + 1)) q 2 t a = y2 := (e2 hk).symm
      rw [e]
      simp [hI_wI]
    · have e : gr H mute (Vq H C wet mute (q + 1)) q 3 t a = y3 := (e3 hk).symm
      rw [e]
      simp [hI_wI]
    · have e : gr H mute (Vq H C wet mute (q + 1)) q 4 t a = y4 := (e4 hk).symm
      rw [e]
      simp [hI_wI]
theorem litM_step {N f a0 g0 tb len : Nat} {H C : Nat → Int} {wet mute : Int} {h : PH} {q w sum k : Int} (s : Shp h) (ho : HOK H C) (hs : HsL 10 H C h) (v : VaS a0 g0 tb len wet mute h) (hq : 0 ≤ q ∧ q < H 0) (hw : w = 0 ∨ w = 1) (hk : 0 ≤ k ∧ k ≤ 3) : Va_litMean_b5 N (f + 1) a0 (iv q) (iv w) (iv sum) (iv k) h = Va_litMean_b5 N f a0 (iv q) (iv w) (iv (sum + cw C wet q k * (hI h g0 (k + w).toNat).toInt)) (iv (k + 1)) h := by
  obtain ⟨v1, v2, v3, v4, v5, v6, v7, -, vw, -⟩ := v
  have h0 := ho.1
  have e : ∀ z : Int, z = k + w → Va_litMean_b43 N (Va_litMean_b5 N f) (iv sum) (iv (cw C wet q k)) (some g0) (iv z) a0 (iv q) (iv w) (iv k) h = Va_litMean_b5 N f a0 (iv q) (iv w) (iv (sum + cw C wet q k * (hI h g0 (k + w).toNat).toInt)) (iv (k + 1)) h := by
    rintro z rfl
    unfold Va_litMean_b43
    rw [at_in v4 (by omega) (by omega) (by omega), bd_s, ← iv_of (hI h g0 (k + w).toNat), iv_mul, iv_add, il1, iv_add, iv_of]
  rw [Va_litMean_b5]
  dsimp only
  rw [il3, if_neg (by rw [iv_lt (by omega) (by omega) (by omega) (by omega)]; omega), ck_p (by rw [v1]), v2, bn_s, ck_p (by rw [k10 s]), v7, bI_w vw, chL_eq s hs vw (by omega) (by omega), bd_s, ck_p (by rw [v1]), v3, il0, il1, iv_add]
  simp only [show (iv w = iv 0) ↔ w = 0 from iv_eq (by omega) (by omega) (by omega) (by omega)]
  by_cases c : w = 0
  · rw [if_pos c]
    exact e k (by omega)
  · rw [if_neg c]
    exact e (k + 1) (by omega)
theorem litML {N a0 g0 tb len : Nat} {H C : Nat → Int} {wet mute : Int} {h : PH} {q t a w : Int} (hN : 100 ≤ N) (s : Shp h) (ho : HOK H C) (hs : HsL 10 H C h) (v : VaS a0 g0 tb len wet mute h) (hq : 0 ≤ q ∧ q < H 0) (ht : 0 ≤ t ∧ t ≤ H 1) (ha : 0 ≤ a ∧ a ≤ H 2) (hw : w = 0 ∨ w = 1) (hg : ∀ k : Int, 0 ≤ k → k ≤ 4 → canK C wet q k → hI h g0 k.toNat = iv (gr H mute (Vq H C wet mute (q + 1)) q k t a)) : Va_litMean N a0 (iv q) (iv w) h = some (iv (lit H C wet mute (Vq H C wet mute (q + 1)) q t a w), h) := by
  have h0 := ho.1
  have bd := Vq_bd ho wet mute (q := q + 1) (by omega)
  have lb := lit_b ho bd (wet := wet) (mute := mute) (q := q) (t := t) (a := a) (w := w) (by omega) ht ha hw
  have term : ∀ k : Int, 0 ≤ k → k ≤ 3 → cw C wet q k * (hI h g0 (k + w).toNat).toInt = cw C wet q k * gr H mute (Vq H C wet mute (q + 1)) q (k + w) t a := by
    intro k k0 k3
    have cb := cw_b ho (wet := wet) (q := q) (k := k) (by omega) (by omega)
    by_cases c : 0 < cw C wet q k
    · have gb := gr_b ho bd (mute := mute) (q := q) (here := k + w) (t := t) (a := a) (by omega) ht ha
      rw [hg (k + w) (by omega) (by omega) ?_, iv_to (by omega) (by omega)]
      rcases hw with rfl | rfl
      · left; rw [Int.add_zero]; exact ⟨by omega, c⟩
      · right; rw [show k + 1 - 1 = k from by omega]; exact ⟨by omega, c⟩
    · rw [show cw C wet q k = 0 from by omega, Int.zero_mul, Int.zero_mul]
  obtain ⟨f, rfl⟩ : ∃ f, N = f + 1 + 1 + 1 + 1 + 1 := ⟨N - 5, by omega⟩
  unfold Va_litMean
  rw [il0, litM_step s ho hs v hq hw (by omega), litM_step s ho hs v hq hw (by omega), litM_step s ho hs v hq hw (by omega), litM_step s ho hs v hq hw (by omega), term 0 (by omega) (by omega), show (0 : Int) + 1 = 1 from rfl, term 1 (by omega) (by omega), show (1 : Int) + 1 = 2 from rfl, term 2 (by omega) (by omega), show (2 : Int) + 1 = 3 from rfl, term 3 (by omega) (by omega), Va_litMean_b5]
  dsimp only
  rw [if_pos (by decide), ck_p (by decide), il10]
  have e : 0 + cw C wet q 0 * gr H mute (Vq H C wet mute (q + 1)) q (0 + w) t a + cw C wet q 1 * gr H mute (Vq H C wet mute (q + 1)) q (1 + w) t a + cw C wet q 2 * gr H mute (Vq H C wet mute (q + 1)) q (2 + w) t a + cw C wet q 3 * gr H mute (Vq H C wet mute (q + 1)) q (3 + w) t a = cw C wet q 0 * gr H mute (Vq H C wet mute (q + 1)) q (0 + w) t a + cw C wet q 1 * gr H mute (Vq H C wet mute (q + 1)) q (1 + w) t a + cw C wet q 2 * gr H mute (Vq H C wet mute (q + 1)) q (2 + w) t a + cw C wet q 3 * gr H mute (Vq H C wet mute (q + 1)) q (3 + w) t a := by omega
  rw [e, iv_div (by omega) (by omega) (by omega) (by omega)]
  rfl
/-- all of quarter q that lies ahead of (t, a) is right -/
def DoneQ (H C : Nat → Int) (wet mute : Int) (tb : Nat) (q t a : Int) (h : PH) : Prop := ∀ t2 a2 w : Int, 0 ≤ t2 → t2 ≤ H 1 → 0 ≤ a2 → a2 ≤ H 2 → (w = 0 ∨ w = 1) → (t2 < t ∨ (t2 = t ∧ a2 < a)) → hI h tb (pl H q t2 a2 w).toNat = iv (Vq H C wet mute q t2 a2 w)
def S3 (a0 g0 tb : Nat) (b : Nat) : Prop := b = a0 ∨ b = g0 ∨ b = tb
theorem fill75 {N a0 g0 tb len : Nat} {H C : Nat → Int} {wet mute : Int} {q t : Int} {x1 : Int32} {K1 : Nat → Int32 → Int32 → PH → Option (Unit × PH)} {K2 : Nat → Int32 → Int32 → Int32 → PH → Option (Unit × PH)} {Q : Unit → PH → Prop} (hN : 100 ≤ N) (ho : HOK H C) (hq : 0 ≤ q ∧ q < H 0) (ht : 0 ≤ t ∧ t ≤ H 1) (hl : szH H ≤ len) {h0 : PH} (kk : ∀ h2, FrI (S3 a0 g0 tb) h0 h2 → hI h2 a0 = hI h0 a0 → TabOK H C wet mute tb (q + 1) h2 → DoneQ H C wet mute tb q t (H 2 + 1) h2 → Wp (K2 a0 x1 (iv q) (iv (t + 1)) h2) Q) : ∀ (m : Nat) (a : Int) (h : PH), a + m = H 2 + 1 → 0 ≤ a → Shp h → HsL 10 H C h → VaS a0 g0 tb len wet mute h → FrI (S3 a0 g0 tb) h0 h → hI h a0 = hI h0 a0 → TabOK H C wet mute tb (q + 1) h → DoneQ H C wet mute tb q t a h → ∀ fuel, m < fuel → Wp (Va_fillTo_b75 N K1 K2 fuel a0 x1 (iv q) (iv t) (iv (off0 H q t)) (iv a) h) Q := by
  intro m
  have h01 := ho.1
  have h11 := ho.2.1
  have h21 := ho.2.2.1
  induction m with
  | zero =>
    intro a h e ha s hs v f fa x d fuel hf
    obtain ⟨fu, rfl⟩ : ∃ fu, fuel = fu + 1 := ⟨fuel - 1, by omega⟩
    rw [Va_fillTo_b75]
    refine Wp_ck (by rw [v.1]) (Wp_bn v.2.1 (Wp_ck (by rw [k10 s]) ?_))
    rw [hs.2.2.1, il1, iv_add]
    refine Wp_ifp (by rw [iv_lt (by omega) (by omega) (by omega) (by omega)]; omega) ?_
    exact kk h f fa x (by rw [show H 2 + 1 = a from by omega]; exact d)
  | succ m ih =>
    intro a h e ha s hs v f fa x d fuel hf
    obtain ⟨fu, rfl⟩ : ∃ fu, fuel = fu + 1 := ⟨fuel - 1, by omega⟩
    have v0 := v
    obtain ⟨-, -, -, -, -, -, -, -, -, -, d1, d2, d3, d4, d5, d6, dl⟩ := v
    have p0 := pl_b (H := H) (q := q) (t := t) (a := a) (w := 0) hq ht ⟨ha, by omega⟩ (by omega)
    have p1 := pl_b (H := H) (q := q) (t := t) (a := a) (w := 1) hq ht ⟨ha, by omega⟩ (by omega)
    have pe : pl H q t a 1 = pl H q t a 0 + 1 := by unfold pl; omega
    have bd := Vq_bd ho wet mute (q := q + 1) (by omega)
    have lb0 := lit_b ho bd (wet := wet) (mute := mute) (q := q) (t := t) (a := a) (w := 0) (by omega) ht ⟨ha, by omega⟩ (Or.inl rfl)
    have lb1 := lit_b ho bd (wet := wet) (mute := mute) (q := q) (t := t) (a := a) (w := 1) (by omega) ht ⟨ha, by omega⟩ (Or.inr rfl)
    have ob := off0_b ho (q := q) (t := t) (by omega) (by omega)
    have sb := sz_b ho
    obtain ⟨hw, ew, fw, gw⟩ := weighL hN s ho hs v0 (fun _ => hl) x hq (by omega) ht (a := a) ⟨ha, by omega⟩
    have sw := fw.shp s
    have hsw := hs.fr fw.s (by omega) (by omega) (by omega) (by omega)
    have vw := v0.fr fw
    have f1 : FrI (fun b => b = tb) hw (wI hw tb (pl H q t a 0).toNat (iv (max (off0 H q t) (lit H C wet mute (Vq H C wet mute (q + 1)) q t a 0)))) := FrI.rf.w rfl
    have s1 := f1.shp sw
    have hs1 := hsw.fr f1.s (by omega) (by omega) (by omega) (by omega)
    have v1 := vw.fr f1
    have gw1 : ∀ k : Int, 0 ≤ k → k ≤ 4 → canK C wet q k → hI (wI hw tb (pl H q t a 0).toNat (iv (max (off0 H q t) (lit H C wet mute (Vq H C wet mute (q + 1)) q t a 0)))) g0 k.toNat = iv (gr H mute (Vq H C wet mute (q + 1)) q k t a) := fun k k0 k4 hk => (f1.I (by omega) _).trans (gw k k0 k4 hk)
    rw [Va_fillTo_b75]
    refine Wp_ck (by rw [v0.1]) (Wp_bn v0.2.1 (Wp_ck (by rw [k10 s]) ?_))
    rw [hs.2.2.1]
    refine Wp_ifn (by rw [iv_lt (by omega) (by omega) (by omega) (by omega)]; omega) (Wp_bde ew (Wp_ck (by rw [vw.1]) (Wp_bn vw.2.1 (Wp_ck (by rw [k10 sw]) ?_))))
    rw [il0, il1]
    refine Wp_bde (place_eq sw hsw (Or.inl rfl)) (Wp_ck (by rw [vw.1]) ?_)
    refine Wp_bde (litML hN sw ho hsw vw hq ht ⟨ha, by omega⟩ (Or.inl rfl) gw) ?_
    rw [vw.2.2.2.2.1, iv_mx (by omega) (by omega) (by omega) (by omega)]
    refine Wp_bde (put_in vw.2.2.2.2.2.1 (by omega) p0.1 (by omega)) (Wp_ck (by rw [v1.1]) ?_)
    refine Wp_bde (litML hN s1 ho hs1 v1 hq ht ⟨ha, by omega⟩ (Or.inr rfl) gw1) ?_
    rw [v1.2.2.2.2.1, iv_mx (by omega) (by omega) (by omega) (by omega), iv_add, ← pe]
    refine Wp_bde (put_in v1.2.2.2.2.2.1 (by omega) p1.1 (by omega)) ?_
    rw [iv_add]
    have f2 : FrI (fun b => b = tb) hw (wI (wI hw tb (pl H q t a 0).toNat (iv (max (off0 H q t) (lit H C wet mute (Vq H C wet mute (q + 1)) q t a 0)))) tb (pl H q t a 1).toNat (iv (max (off0 H q t) (lit H C wet mute (Vq H C wet mute (q + 1)) q t a 1)))) := f1.w rfl
    have r : ∀ j, hI (wI (wI hw tb (pl H q t a 0).toNat (iv (max (off0 H q t) (lit H C wet mute (Vq H C wet mute (q + 1)) q t a 0)))) tb (pl H q t a 1).toNat (iv (max (off0 H q t) (lit H C wet mute (Vq H C wet mute (q + 1)) q t a 1)))) tb j = if j = (pl H q t a 1).toNat then iv (Vq H C wet mute q t a 1) else if j = (pl H q t a 0).toNat then iv (Vq H C wet mute q t a 0) else hI h tb j := by
      intro j
      rw [hI_wI, hI_wI, fw.I (by omega), Vq_lt hq.2, Vq_lt hq.2]
      simp only [true_and]
    generalize (wI (wI hw tb (pl H q t a 0).toNat (iv (max (off0 H q t) (lit H C wet mute (Vq H C wet mute (q + 1)) q t a 0)))) tb (pl H q t a 1).toNat (iv (max (off0 H q t) (lit H C wet mute (Vq H C wet mute (q + 1)) q t a 1)))) = h2 at f2 r ⊢
    have f3 : FrI (S3 a0 g0 tb) h h2 := (fw.up (fun b e => Or.inr (Or.inl e))).tr (f2.up (fun b e => Or.inr (Or.inr e)))
    refine ih (a + 1) h2 (by omega) (by omega) (f3.shp s) (hs.fr f3.s ?_ ?_ ?_ ?_) (v0.fr f3) (f.tr f3) ?_ ?_ ?_ fu (by omega)
    · unfold S3; omega
    · unfold S3; omega
    · unfold S3; omega
    · unfold S3; omega
    · rw [← fa]
      exact (f2.2.2.2.2.2 a0 (by omega)).trans (fw.2.2.2.2.2 a0 (by omega))
    · intro q3 t3 a3 w3 b0 b1 b2 b3 b4 b5 b6 b7
      have pb := pl_b (H := H) (q := q3) (t := t3) (a := a3) (w := w3) ⟨b1, b2⟩ ⟨b3, b4⟩ ⟨b5, b6⟩ (by omega)
      rw [r, if_neg, if_neg]
      · exact x q3 t3 a3 w3 b0 b1 b2 b3 b4 b5 b6 b7
      · intro e
        have := (pl_inj (H := H) ⟨b3, b4⟩ ⟨b5, b6⟩ (by omega : 0 ≤ w3 ∧ w3 ≤ 1) ht ⟨ha, by omega⟩ (by omega : (0 : Int) ≤ 0 ∧ (0 : Int) ≤ 1) (q := q3) (q2 := q) (by omega)).1
        omega
      · intro e
        have := (pl_inj (H := H) ⟨b3, b4⟩ ⟨b5, b6⟩ (by omega : 0 ≤ w3 ∧ w3 ≤ 1) ht ⟨ha, by omega⟩ (by omega : (0 : Int) ≤ 1 ∧ (1 : Int) ≤ 1) (q := q3) (q2 := q) (by omega)).1
        omega
    · intro t3 a3 w3 b3 b4 b5 b6 b7 b8
      have pb := pl_b (H := H) (q := q) (t := t3) (a := a3) (w := w3) hq ⟨b3, b4⟩ ⟨b5, b6⟩ (by omega)
      rw [r]
      by_cases c1 : pl H q t3 a3 w3 = pl H q t a 1
      · obtain ⟨-, i2, i3, i4⟩ := pl_inj (H := H) ⟨b3, b4⟩ ⟨b5, b6⟩ (by omega : 0 ≤ w3 ∧ w3 ≤ 1) ht ⟨ha, by omega⟩ (by omega : (0 : Int) ≤ 1 ∧ (1 : Int) ≤ 1) c1
        rw [if_pos (by rw [c1]), i2, i3, i4]
      · rw [if_neg (by omega)]
        by_cases c0 : pl H q t3 a3 w3 = pl H q t a 0
        · obtain ⟨-, i2, i3, i4⟩ := pl_inj (H := H) ⟨b3, b4⟩ ⟨b5, b6⟩ (by omega : 0 ≤ w3 ∧ w3 ≤ 1) ht ⟨ha, by omega⟩ (by omega : (0 : Int) ≤ 0 ∧ (0 : Int) ≤ 1) c0
          rw [if_pos (by rw [c0]), i2, i3, i4]
        · rw [if_neg (by omega)]
          refine d t3 a3 w3 b3 b4 b5 b6 b7 ?_
          have ne : ¬ (t3 = t ∧ a3 = a) := by
            rintro ⟨rfl, rfl⟩
            rcases b7 with rfl | rfl
            · exact c0 rfl
            · exact c1 rfl
          omega
theorem fill50 {N a0 g0 tb len : Nat} {H C : Nat → Int} {wet mute : Int} {q : Int} {x1 : Int32} {K1 : Nat → Int32 → Int32 → PH → Option (Unit × PH)} {Q : Unit → PH → Prop} (hN : 200 ≤ N) (ho : HOK H C) (hq : 0 ≤ q ∧ q < H 0) (hl : szH H ≤ len) {h0 : PH} (kk : ∀ h2, FrI (S3 a0 g0 tb) h0 h2 → hI h2 a0 5 = iv q → TabOK H C wet mute tb q h2 → Wp (K1 a0 x1 (iv (q - 1)) h2) Q) : ∀ (m : Nat) (t : Int) (h : PH), t + m = H 1 + 1 → 0 ≤ t → Shp h → HsL 10 H C h → VaS a0 g0 tb len wet mute h → FrI (S3 a0 g0 tb) h0 h → TabOK H C wet mute tb (q + 1) h → DoneQ H C wet mute tb q t 0 h → ∀ fuel, m < fuel → Wp (Va_fillTo_b50 N K1 fuel a0 x1 (iv q) (iv t) h) Q := by
  intro m
  have h01 := ho.1
  have h11 := ho.2.1
  have h21 := ho.2.2.1
  induction m with
  | zero =>
    intro t h e ht s hs v f x d fuel hf
    obtain ⟨fu, rfl⟩ : ∃ fu, fuel = fu + 1 := ⟨fuel - 1, by omega⟩
    rw [Va_fillTo_b50]
    refine Wp_ck (by rw [v.1]) (Wp_bn v.2.1 (Wp_ck (by rw [k10 s]) ?_))
    rw [hs.2.1]
    refine Wp_ifp (by rw [iv_lt (by omega) (by omega) (by omega) (by omega)]; omega) (Wp_lt ?_)
    rw [il1, iv_neg, iv_add, show q + -1 = q - 1 from by omega]
    refine kk _ (f.w (Or.inl rfl)) ?_ ?_
    · simp [hI_wI]
    · have g : FrI (fun b => b = a0) h (wI h a0 5 (iv q)) := FrI.rf.w rfl
      obtain ⟨-, -, -, -, -, -, -, -, -, -, d1, d2, d3, d4, d5, d6, dl⟩ := v
      intro q3 t3 a3 w3 b0 b1 b2 b3 b4 b5 b6 b7
      rw [g.I (by omega)]
      by_cases c : q3 = q
      · rw [c]
        exact d t3 a3 w3 b3 b4 b5 b6 b7 (Or.inl (by omega))
      · exact x q3 t3 a3 w3 (by omega) b1 b2 b3 b4 b5 b6 b7
  | succ m ih =>
    intro t h e ht s hs v f x d fuel hf
    obtain ⟨fu, rfl⟩ : ∃ fu, fuel = fu + 1 := ⟨fuel - 1, by omega⟩
    have v0 := v
    obtain ⟨-, -, -, -, -, -, -, -, -, -, d1, d2, d3, d4, d5, d6, dl⟩ := v
    rw [Va_fillTo_b50]
    refine Wp_ck (by rw [v0.1]) (Wp_bn v0.2.1 (Wp_ck (by rw [k10 s]) ?_))
    rw [hs.2.1]
    refine Wp_ifn (by rw [iv_lt (by omega) (by omega) (by omega) (by omega)]; omega) (Wp_bde (off_eq s hs) ?_)
    rw [il0]
    refine fill75 (by omega) ho hq ⟨ht, by omega⟩ hl (h0 := h) ?_ (H 2 + 1).toNat 0 h (by omega) (by omega) s hs v0 FrI.rf rfl x d N (by omega)
    intro h2 g ga x2 d2
    refine ih (t + 1) h2 (by omega) (by omega) (g.shp s) (hs.fr g.s ?_ ?_ ?_ ?_) (v0.fr g) (f.tr g) x2 ?_ fu (by omega)
    · unfold S3; omega
    · unfold S3; omega
    · unfold S3; omega
    · unfold S3; omega
    · intro t3 a3 w3 b3 b4 b5 b6 b7 b8
      exact d2 t3 a3 w3 b3 b4 b5 b6 b7 (by omega)
theorem fill39 {N a0 g0 tb len : Nat} {H C : Nat → Int} {wet mute : Int} {to : Int} (hN : 200 ≤ N) (ho : HOK H C) (hto : 0 ≤ to ∧ to ≤ H 0) (hl : szH H ≤ len) {h0 : PH} : ∀ (m : Nat) (ff : Int) (h : PH), ff = to + m → ff ≤ H 0 → Shp h → HsL 10 H C h → VaS a0 g0 tb len wet mute h → FrI (S3 a0 g0 tb) h0 h → hI h a0 5 = iv ff → TabOK H C wet mute tb ff h → ∀ fuel, m < fuel → Wp (Va_fillTo_b39 N fuel a0 (iv to) (iv (ff - 1)) h) (fun _ h2 => FrI (S3 a0 g0 tb) h0 h2 ∧ hI h2 a0 5 = iv to ∧ TabOK H C wet mute tb to h2) := by
  intro m
  have h01 := ho.1
  induction m with
  | zero =>
    intro ff h e hff s hs v f fa x fuel hf
    obtain ⟨fu, rfl⟩ : ∃ fu, fuel = fu + 1 := ⟨fuel - 1, by omega⟩
    have e2 : ff = to := by omega
    subst e2
    rw [Va_fillTo_b39]
    exact Wp_ifp (by rw [iv_lt (by omega) (by omega) (by omega) (by omega)]; omega) (Wp_ret ⟨f, fa, x⟩)
  | succ m ih =>
    intro ff h e hff s hs v f fa x fuel hf
    obtain ⟨fu, rfl⟩ : ∃ fu, fuel = fu + 1 := ⟨fuel - 1, by omega⟩
    have v0 := v
    obtain ⟨-, -, -, -, -, -, -, -, -, -, d1, d2, d3, d4, d5, d6, dl⟩ := v
    have h11 := ho.2.1
    rw [Va_fillTo_b39]
    refine Wp_ifn (by rw [iv_lt (by omega) (by omega) (by omega) (by omega)]; omega) (Wp_ifn (by rw [il0, iv_lt (by omega) (by omega) (by omega) (by omega)]; omega) ?_)
    rw [il0]
    refine fill50 hN ho ⟨by omega, by omega⟩ hl (h0 := h) ?_ (H 1 + 1).toNat 0 h (by omega) (by omega) s hs v0 FrI.rf (by rw [show ff - 1 + 1 = ff from by omega]; exact x) ?_ N (by omega)
    · intro h2 g ga x2
      refine ih (ff - 1) h2 (by omega) (by omega) (g.shp s) (hs.fr g.s ?_ ?_ ?_ ?_) (v0.fr g) (f.tr g) ga x2 fu (by omega)
      · unfold S3; omega
      · unfold S3; omega
      · unfold S3; omega
      · unfold S3; omega
    · intro t3 a3 w3 b3 b4 b5 b6 b7 b8
      omega
/-! ### rows that grow -/
def newL (need : Int) : Int := if 37752 < need then max need 75504 else need * 2
def phi (l : Nat) : Nat := if l < 75504 then 2 * l else 226512
theorem roomL {N tb len : Nat} {h : PH} {need : Int} (hk : hK h tb = (20, len)) (hl : len ≤ 75504) (hn : 0 ≤ need ∧ need ≤ 75504) : Le_roomFor N (some tb) (iv need) h = if need ≤ len then some (some tb, h) else some (some (hN h), nw h (20, (newL need).toNat) (newL need).toNat) := by
  have e : ∀ z : Int, 0 ≤ z → z ≤ 75504 → Le_roomFor_b28 N (iv z) (some tb) h = some (some (hN h), nw h (20, z.toNat) z.toNat) := by
    intro z z0 z1
    unfold Le_roomFor_b28
    rw [il0, if_neg (by rw [iv_lt (by omega) (by omega) (by omega) (by omega)]; omega), ck_p (nb_iv z0 (by omega)), ix_iv z0 (by omega)]
    rfl
  unfold Le_roomFor newL
  rw [bn_s, ck_p (by rw [hk]), hk, iv_nat, il37752, il75504, il2, iv_mul, iv_mx (by omega) (by omega) (by omega) (by omega)]
  simp only [show (iv ((len : Nat) : Int) < iv need) ↔ (len : Int) < need from iv_lt (by omega) (by omega) (by omega) (by omega), show (iv 37752 < iv need) ↔ 37752 < need from iv_lt (by omega) (by omega) (by omega) (by omega)]
  by_cases c : (len : Int) < need
  · rw [if_pos c]
    by_cases c2 : 37752 < need
    · rw [if_pos c2, if_pos c2, e _ (by omega) (by omega), if_neg (by omega)]
    · rw [if_neg c2, if_neg c2, e _ (by omega) (by omega), if_neg (by omega)]
  · rw [if_neg c, if_pos (by omega)]
theorem newL_b {need : Int} {len : Nat} (hl : (len : Int) < need) (hn : need ≤ 75504) : need ≤ newL need ∧ newL need ≤ 75504 ∧ (newL need).toNat + phi len ≤ phi (newL need).toNat := by
  unfold newL phi
  split <;> (try split) <;> (try split) <;> omega
/-- a heap that has grown: outside S all is as it was -/
def FrG (S : Nat → Prop) (h h2 : PH) : Prop := (Shp h → Shp h2) ∧ hN h ≤ hN h2 ∧ hE h2 = hE h ∧ (∀ b, b < hN h → hK h2 b = hK h b ∧ hZ h2 b = hZ h b ∧ hJ h2 b = hJ h b) ∧ (∀ b, b < hN h → ¬ S b → hI h2 b = hI h b ∧ hR h2 b = hR h b)
theorem FrG.rf {S : Nat → Prop} {h : PH} : FrG S h h := ⟨id, Nat.le_refl _, rfl, fun _ _ => ⟨rfl, rfl, rfl⟩, fun _ _ _ => ⟨rfl, rfl⟩⟩
theorem FrG.tr {S : Nat → Prop} {h h1 h2 : PH} (a : FrG S h h1) (b : FrG S h1 h2) : FrG S h h2 := ⟨fun s => b.1 (a.1 s), Nat.le_trans a.2.1 b.2.1, b.2.2.1.trans a.2.2.1, fun c hc => ⟨(b.2.2.2.1 c (Nat.lt_of_lt_of_le hc a.2.1)).1.trans (a.2.2.2.1 c hc).1, (b.2.2.2.1 c (Nat.lt_of_lt_of_le hc a.2.1)).2.1.trans (a.2.2.2.1 c hc).2.1, (b.2.2.2.1 c (Nat.lt_of_lt_of_le hc a.2.1)).2.2.trans (a.2.2.2.1 c hc).2.2⟩, fun c hc hs => ⟨(b.2.2.2.2 c (Nat.lt_of_lt_of_le hc a.2.1) hs).1.trans (a.2.2.2.2 c hc hs).1, (b.2.2.2.2 c (Nat.lt_of_lt_of_le hc a.2.1) hs).2.trans (a.2.2.2.2 c hc hs).2⟩⟩
theorem FrG.up {S T : Nat → Prop} {h h2 : PH} (a : FrG S h h2) (k : ∀ b, b < hN h → S b → T b) : FrG T h h2 := ⟨a.1, a.2.1, a.2.2.1, a.2.2.2.1, fun c hc hs => a.2.2.2.2 c hc (fun s => hs (k c hc s))⟩
theorem FrI.g {S : Nat → Prop} {h h2 : PH} (f : FrI S h h2) : FrG S h h2 := ⟨fun s => f.shp s, Nat.le_of_eq (by unfold hN; rw [f.1]), by unfold hE; rw [f.1], fun b _ => ⟨by rw [f.2.1], by rw [f.2.2.2.1], by rw [f.2.2.2.2.1]⟩, fun b _ hs => ⟨f.2.2.2.2.2 b hs, by rw [f.2.2.1]⟩⟩
/-- a Values with its table tb of that length, right from ff on -/
def VaP (a0 g0 : Nat) (wet mute : Int) (H C : Nat → Int) (tb len : Nat) (ff : Int) (h : PH) : Prop := VaS a0 g0 tb len wet mute h ∧ (0 ≤ ff ∧ ff ≤ H 0) ∧ hI h a0 5 = iv ff ∧ (ff < H 0 → szH H ≤ len) ∧ TabOK H C wet mute tb ff h ∧ tb < hN h ∧ len ≤ 75504 ∧ (a0 = 36 ∨ a0 = 39 ∨ a0 = 42) ∧ g0 = a0 + 1 ∧ 127 ≤ hN h
theorem growShp {h : PH} {a0 l : Nat} (s : Shp h) (ha : a0 = 36 ∨ a0 = 39 ∨ a0 = 42) (hn : 127 ≤ hN h) : Shp (wR (nw h (20, l) l) a0 4 (some (hN h))) := by
  constructor
  · intro q hq
    rw [hK_wR, hK_nw, if_neg]
    · exact s.1 q hq
    · have : ∀ q ∈ KL, q.1 < 127 := by decide +kernel
      have := this q hq
      omega
  · intro q hq
    rw [hR_wR, if_neg, hR_nw, if_neg]
    · exact s.2 q hq
    · have : ∀ q ∈ PL, q.1.1 < 127 := by decide +kernel
      have := this q hq
      omega
    · have : ∀ q ∈ PL, ¬ ((q.1.1 = 36 ∨ q.1.1 = 39 ∨ q.1.1 = 42) ∧ q.1.2 = 4) := by decide +kernel
      have := this q hq
      omega
theorem fillL {N a0 g0 tb len : Nat} {H C : Nat → Int} {wet mute ff to : Int} {h : PH} (hN0 : 200 ≤ N) (s : Shp h) (ho : HOK H C) (hs : HsL 10 H C h) (p : VaP a0 g0 wet mute H C tb len ff h) (hto : 0 ≤ to ∧ to ≤ H 0) : Wp (Va_fillTo N a0 (iv to) h) (fun _ h2 => ∃ tb2 len2 ff2, FrG (S3 a0 g0 tb) h h2 ∧ HsL 10 H C h2 ∧ VaP a0 g0 wet mute H C tb2 len2 ff2 h2 ∧ ff2 ≤ to ∧ (tb2 = tb ∨ hN h ≤ tb2) ∧ hN h2 ≤ hN h + 1 ∧ hS h2 + phi len ≤ hS h + phi len2) := by
  obtain ⟨v, hff, e5, hl, x, htb, hlen, ha0, hg0, hn⟩ := p
  have h01 := ho.1
  have v0 := v
  obtain ⟨v1, v2, v3, v4, v5, v6, v7, v8, vw, vm, d1, d2, d3, d4, d5, d6, dl⟩ := v
  have tail : ∀ (h1 : PH) (tb1 len1 : Nat), Shp h1 → HsL 10 H C h1 → VaS a0 g0 tb1 len1 wet mute h1 → (szH H ≤ len1 ∨ ff ≤ to) → (ff < H 0 → szH H ≤ len1) → TabOK H C wet mute tb1 ff h1 → hI h1 a0 5 = iv ff → FrG (S3 a0 g0 tb) h h1 → len1 ≤ 75504 → tb1 < hN h1 → (tb1 = tb ∨ hN h ≤ tb1) → hN h1 ≤ hN h + 1 → hS h1 + phi len ≤ hS h + phi len1 → Wp (Va_fillTo_b32 N a0 (iv to) h1) (fun _ h2 => ∃ tb2 len2 ff2, FrG (S3 a0 g0 tb) h h2 ∧ HsL 10 H C h2 ∧ VaP a0 g0 wet mute H C tb2 len2 ff2 h2 ∧ ff2 ≤ to ∧ (tb2 = tb ∨ hN h ≤ tb2) ∧ hN h2 ≤ hN h + 1 ∧ hS h2 + phi len ≤ hS h + phi len2) := by
    intro h1 tb1 len1 s1 hs1 v1 hc hl1 x1 e1 f1 b1 b2 b3 b4 b5
    unfold Va_fillTo_b32
    refine Wp_ck (by rw [v1.1]) ?_
    rw [e1, il1, iv_sub]
    by_cases c : ff ≤ to
    · obtain ⟨fu, rfl⟩ : ∃ fu, N = fu + 1 := ⟨N - 1, by omega⟩
      rw [Va_fillTo_b39]
      refine Wp_ifp (by rw [iv_lt (by omega) (by omega) (by omega) (by omega)]; omega) (Wp_ret ?_)
      exact ⟨tb1, len1, ff, f1, hs1, ⟨v1, hff, e1, hl1, x1, b2, b1, ha0, hg0, by have := f1.2.1; omega⟩, c, b3, b4, b5⟩
    · have hsz : szH H ≤ len1 := by rcases hc with k | k; exact k; omega
      refine Wp_mono (fill39 hN0 ho hto hsz (h0 := h1) (ff - to).toNat ff h1 (by omega) hff.2 s1 hs1 v1 FrI.rf e1 x1 N (by omega)) ?_
      rintro - h2 ⟨f2, e2, x2⟩
      have v1' := v1
      obtain ⟨-, -, -, -, -, -, -, -, -, -, d1, d2, d3, d4, d5, d6, dl⟩ := v1'
      have fin : FrG (S3 a0 g0 tb) h h2 := by
        refine ⟨fun s => f2.shp (f1.1 s), Nat.le_trans f1.2.1 f2.g.2.1, f2.g.2.2.1.trans f1.2.2.1, fun b hb => ?_, fun b hb hS => ?_⟩
        · have k1 := f1.2.2.2.1 b hb
          have k2 := f2.g.2.2.2.1 b (Nat.lt_of_lt_of_le hb f1.2.1)
          exact ⟨k2.1.trans k1.1, k2.2.1.trans k1.2.1, k2.2.2.trans k1.2.2⟩
        · have k1 := f1.2.2.2.2 b hb hS
          have k2 := f2.g.2.2.2.2 b (Nat.lt_of_lt_of_le hb f1.2.1) (by unfold S3 at hS ⊢; omega)
          exact ⟨k2.1.trans k1.1, k2.2.trans k1.2⟩
      have n2 : hN h2 = hN h1 := by unfold hN; rw [f2.1]
      have m2 : hS h2 = hS h1 := by unfold hS; rw [f2.1]
      refine ⟨tb1, len1, to, fin, hs1.fr f2.s ?_ ?_ ?_ ?_, ⟨v1.fr f2, hto, e2, fun _ => hsz, x2, by omega, b1, ha0, hg0, by have := fin.2.1; omega⟩, Int.le_refl _, b3, by omega, by omega⟩
      · unfold S3; omega
      · unfold S3; omega
      · unfold S3; omega
      · unfold S3; omega
  have sb := sz_b ho
  have hsz : Ho_size N 10 h = some (iv (szH H), h) := by
    unfold Ho_size szH
    rw [ck_p (by rw [k10 s]), hs.1, hs.2.1, hs.2.2.1]
    simp only [il1, il2, iv_add, iv_mul]
  unfold Va_fillTo
  refine Wp_ck (by rw [v1]) (Wp_bn v2 (Wp_ck (by rw [k10 s]) ?_))
  rw [e5, hs.1, v5]
  refine Wp_if (fun c => ?_) (fun c => ?_)
  · rw [iv_lt (by omega) (by omega) (by omega) (by omega)] at c
    exact tail h tb len s hs v0 (Or.inl (hl c)) hl x e5 FrG.rf hlen htb (Or.inl rfl) (by omega) (by omega)
  · rw [iv_lt (by omega) (by omega) (by omega) (by omega)] at c
    have eff : ff = H 0 := by omega
    refine Wp_bde hsz ?_
    have r := roomL (N := N) v6 hlen (need := szH H) (by omega)
    by_cases cl : szH H ≤ len
    · rw [if_pos cl] at r
      refine Wp_bde r (Wp_ck (by rw [v1]) (Wp_lt ?_))
      have f1 : FrG (S3 a0 g0 tb) h (wR h a0 4 (some tb)) := by
        refine ⟨fun s => ⟨s.1, fun q hq => ?_⟩, Nat.le_refl _, rfl, fun _ _ => ⟨rfl, rfl, rfl⟩, fun b hb hS => ⟨rfl, u2_ne (by unfold S3 at hS; omega)⟩⟩
        rw [hR_wR]
        split
        · next e =>
          have : ∀ q ∈ PL, ¬ ((q.1.1 = 36 ∨ q.1.1 = 39 ∨ q.1.1 = 42) ∧ q.1.2 = 4) := by decide +kernel
          have := this q hq
          omega
        · exact s.2 q hq
      refine tail _ tb len (f1.1 s) hs ⟨v1, ?_, ?_, v4, ?_, v6, v7, v8, vw, vm, d1, d2, d3, d4, d5, d6, dl⟩ (Or.inl cl) hl x e5 f1 hlen htb (Or.inl rfl) (Nat.le_succ _) (Nat.le_refl _)
      · rw [hR_wR, if_neg (by omega)]; exact v2
      · rw [hR_wR, if_neg (by omega)]; exact v3
      · rw [hR_wR, if_pos ⟨rfl, rfl⟩]
    · rw [if_neg cl] at r
      have nb := newL_b (len := len) (need := szH H) (by omega) (by omega)
      refine Wp_bde r (Wp_ck (by rw [hK_nw, if_neg (by omega), v1]) (Wp_lt ?_))
      have f1 : FrG (S3 a0 g0 tb) h (wR (nw h (20, (newL (szH H)).toNat) (newL (szH H)).toNat) a0 4 (some (hN h))) := by
        refine ⟨fun s => growShp s ha0 hn, Nat.le_succ _, rfl, fun b hb => ⟨?_, ?_, ?_⟩, fun b hb hS => ⟨?_, ?_⟩⟩
        · rw [hK_wR, hK_nw, if_neg (by omega)]
        · funext j; rw [hZ_wR, hZ_nw, if_neg (by omega)]
        · funext j; rw [hJ_wR, hJ_nw, if_neg (by omega)]
        · funext j; rw [hI_wR, hI_nw, if_neg (by omega)]
        · funext j; rw [hR_wR, if_neg (by unfold S3 at hS; omega), hR_nw, if_neg (by omega)]
      have hsN : HsL 10 H C (wR (nw h (20, (newL (szH H)).toNat) (newL (szH H)).toNat) a0 4 (some (hN h))) := by
        have z : ∀ b, b < 127 → hI (wR (nw h (20, (newL (szH H)).toNat) (newL (szH H)).toNat) a0 4 (some (hN h))) b = hI h b := by
          intro b hb
          funext j
          rw [hI_wR, hI_nw, if_neg (by omega)]
        unfold HsL at hs ⊢
        rw [z 10 (by omega), z (10 + 1) (by omega), z (10 + 2) (by omega), z (10 + 3) (by omega)]
        exact hs
      have lt : ∀ b, b < hN h → ¬ b = hN h := fun b hb => by omega
      have a0n : a0 < hN h := by omega
      have g0n : g0 < hN h := by omega
      refine tail _ (hN h) (newL (szH H)).toNat (f1.1 s) hsN ⟨?_, ?_, ?_, ?_, ?_, ?_, ?_, ?_, vw, vm, d1, d2, by omega, by omega, d5, by omega, by omega⟩ (Or.inl (by omega)) (fun _ => by omega) (fun q t a w b0 b1 b2 => by omega) ?_ f1 (by omega) ?_ (Or.inr (Nat.le_refl _)) (Nat.le_refl _) ?_
      · rw [hK_wR, hK_nw, if_neg (by omega)]; exact v1
      · rw [hR_wR, if_neg (by omega), hR_nw, if_neg (by omega)]; exact v2
      · rw [hR_wR, if_neg (by omega), hR_nw, if_neg (by omega)]; exact v3
      · rw [hK_wR, hK_nw, if_neg (by omega)]; exact v4
      · rw [hR_wR, if_pos ⟨rfl, rfl⟩]
      · rw [hK_wR, hK_nw, if_pos rfl]
      · rw [hZ_wR, hZ_nw, if_neg (by omega)]; exact v7
      · rw [hZ_wR, hZ_nw, if_neg (by omega)]; exact v8
      · rw [hI_wR, hI_nw, if_neg (by omega)]; exact e5
      · show hN h < hN h + 1; omega
      · show hS h + (newL (szH H)).toNat + phi len ≤ hS h + phi (newL (szH H)).toNat
        omega
