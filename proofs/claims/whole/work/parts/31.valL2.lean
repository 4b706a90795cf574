/-! THE PURE PROOFS, 9: what is asked of a Values. -/
def VaStep (a0 g0 : Nat) (wet mute : Int) (H C : Nat → Int) (tb len : Nat) (h h2 : PH) : Prop := ∃ tb2 len2 ff2, FrG (S3 a0 g0 tb) h h2 ∧ HsL 10 H C h2 ∧ VaP a0 g0 wet mute H C tb2 len2 ff2 h2 ∧ (tb2 = tb ∨ hN h ≤ tb2) ∧ hN h2 ≤ hN h + 1 ∧ hS h2 + phi len ≤ hS h + phi len2
theorem worthL {N a0 g0 tb len : Nat} {H C : Nat → Int} {wet mute ff q t a w : Int} {h : PH} (hN0 : 200 ≤ N) (s : Shp h) (ho : HOK H C) (hs : HsL 10 H C h) (p : VaP a0 g0 wet mute H C tb len ff h) (hq : 0 ≤ q ∧ q ≤ H 0) (ht : 0 ≤ t ∧ t ≤ H 1) (ha : 0 ≤ a ∧ a ≤ H 2) (hw : w = 0 ∨ w = 1) : Wp (Va_worthFrom N a0 (iv q) (iv t) (iv a) (iv w) h) (fun v h2 => v = iv (Vq H C wet mute q t a w) ∧ VaStep a0 g0 wet mute H C tb len h h2) := by
  unfold Va_worthFrom
  refine Wp_ck (by rw [p.1.1]) (Wp_bd2 (fillL hN0 s ho hs p hq) ?_)
  rintro - h2 ⟨tb2, len2, ff2, f, hs2, p2, hf, r1, r2, r3⟩
  refine Wp_ck (by rw [p2.1.1]) (Wp_bde (cell_eq (f.1 s) ho hs2 p2.1 p2.2.2.2.1 p2.2.2.2.2.1 hq hf ht ha hw) (Wp_ret ⟨rfl, tb2, len2, ff2, f, hs2, p2, r1, r2, r3⟩))
theorem bestWL {N a0 g0 tb len : Nat} {H C : Nat → Int} {wet mute ff q t a here : Int} {h : PH} (hN0 : 200 ≤ N) (s : Shp h) (ho : HOK H C) (hs : HsL 10 H C h) (p : VaP a0 g0 wet mute H C tb len ff h) (hq : 0 ≤ q ∧ q < H 0) (ht : 0 ≤ t ∧ t ≤ H 1) (ha : 0 ≤ a ∧ a ≤ H 2) (hh : 0 ≤ here ∧ here ≤ 4) : Wp (Va_bestWorth N a0 (iv q) (iv t) (iv a) (iv here) h) (fun v h2 => v = iv (gr H mute (Vq H C wet mute (q + 1)) q here t a) ∧ VaStep a0 g0 wet mute H C tb len h h2) := by
  unfold Va_bestWorth
  rw [il1, iv_add]
  refine Wp_ck (by rw [p.1.1]) (Wp_bd2 (fillL hN0 s ho hs p (by omega)) ?_)
  rintro - h2 ⟨tb2, len2, ff2, f, hs2, p2, hf, r1, r2, r3⟩
  refine Wp_ck (by rw [p2.1.1]) (Wp_bde (grL_eq (by omega) (f.1 s) ho hs2 p2.1 p2.2.2.2.1 p2.2.2.2.2.1 hq hf ht ha hh) (Wp_ret ⟨rfl, tb2, len2, ff2, f, hs2, p2, r1, r2, r3⟩))
theorem litWL {N a0 g0 tb len : Nat} {H C : Nat → Int} {wet mute ff q t a w : Int} {h : PH} (hN0 : 200 ≤ N) (s : Shp h) (ho : HOK H C) (hs : HsL 10 H C h) (p : VaP a0 g0 wet mute H C tb len ff h) (hq : 0 ≤ q ∧ q < H 0) (ht : 0 ≤ t ∧ t ≤ H 1) (ha : 0 ≤ a ∧ a ≤ H 2) (hw : w = 0 ∨ w = 1) : Wp (Va_litWorth N a0 (iv q) (iv t) (iv a) (iv w) h) (fun v h2 => v = iv (lit H C wet mute (Vq H C wet mute (q + 1)) q t a w) ∧ VaStep a0 g0 wet mute H C tb len h h2) := by
  unfold Va_litWorth
  rw [il1, iv_add]
  refine Wp_ck (by rw [p.1.1]) (Wp_bd2 (fillL hN0 s ho hs p (by omega)) ?_)
  rintro - h2 ⟨tb2, len2, ff2, f, hs2, p2, hf, r1, r2, r3⟩
  obtain ⟨h3, e3, f3, g3⟩ := weighL (N := N) (by omega) (f.1 s) ho hs2 p2.1 p2.2.2.2.1 p2.2.2.2.2.1 hq hf ht ha
  have v := p2.1
  obtain ⟨-, -, -, -, -, -, -, -, -, -, d1, d2, d3, d4, d5, d6, dl⟩ := v
  have s3 := f3.shp (f.1 s)
  have hs3 : HsL 10 H C h3 := hs2.fr f3.s (by omega) (by omega) (by omega) (by omega)
  have p3 : VaP a0 g0 wet mute H C tb2 len2 ff2 h3 := ⟨p2.1.fr f3, p2.2.1, (f3.I (by omega) 5).trans p2.2.2.1, p2.2.2.2.1, p2.2.2.2.2.1.fr f3 (by omega), by have := p2.2.2.2.2.2.1; have := f3.g.2.1; omega, p2.2.2.2.2.2.2.1, p2.2.2.2.2.2.2.2.1, p2.2.2.2.2.2.2.2.2.1, by have := p2.2.2.2.2.2.2.2.2.2; have := f3.g.2.1; omega⟩
  refine Wp_ck (by rw [p2.1.1]) (Wp_bde e3 (Wp_ck (by rw [p3.1.1]) (Wp_bde (litML (by omega) s3 ho hs3 p3.1 hq ht ha hw g3) (Wp_ret ⟨rfl, tb2, len2, ff2, f.tr (f3.g.up (fun b _ e => Or.inr (Or.inl e))), hs3, p3, r1, ?_, ?_⟩))))
  · unfold hN at r2 ⊢; rw [f3.1]; exact r2
  · unfold hS at r3 ⊢; rw [f3.1]; exact r3
theorem bestGL_eq {N a0 g0 tb len : Nat} {H C : Nat → Int} {wet mute ff : Int} {h : PH} {q t a here : Int} (hN : 100 ≤ N) (s : Shp h) (ho : HOK H C) (hs : HsL 10 H C h) (v : VaS a0 g0 tb len wet mute h) (hl : ff < H 0 → szH H ≤ len) (x : TabOK H C wet mute tb ff h) (hq : 0 ≤ q ∧ q < H 0) (hf : ff ≤ q + 1) (ht : 0 ≤ t ∧ t ≤ H 1) (ha : 0 ≤ a ∧ a ≤ H 2) (hh : 0 ≤ here ∧ here ≤ 4) : Va_bestGive_b25 N N a0 (iv q) (iv t) (iv a) (iv here) (iv 0) (iv (wv H mute (Vq H C wet mute (q + 1)) q here t a 0)) (iv 1) h = some (iv (bgv H mute (Vq H C wet mute (q + 1)) q here t a), h) := by
  have v1 := v.1
  have gw : ∀ how : Int, 0 ≤ how ∧ how ≤ 4 → Va_giveWorth N a0 (iv q) (iv t) (iv a) (iv here) (iv how) h = some (iv (wv H mute (Vq H C wet mute (q + 1)) q here t a how), h) := fun how hw => giveW_eq s ho hs v hl x hq hf ht ha hh hw
  have bd := Vq_bd ho wet mute (q := q + 1) (by omega)
  have wb : ∀ how : Int, 0 ≤ how ∧ how ≤ 4 → -27000000 ≤ wv H mute (Vq H C wet mute (q + 1)) q here t a how ∧ wv H mute (Vq H C wet mute (q + 1)) q here t a how ≤ 30000000 := by
    intro how hw
    have := wv_b ho bd (mute := mute) (q := q) hw hh ht ha
    omega
  have bb : ∀ k : Nat, k ≤ 4 → -27000000 ≤ (bs (wv H mute (Vq H C wet mute (q + 1)) q here t a) k).2 ∧ (bs (wv H mute (Vq H C wet mute (q + 1)) q here t a) k).2 ≤ 30000000 := by
    intro k
    induction k with
    | zero => intro _; exact wb 0 (by omega)
    | succ k ih =>
      intro hk
      have i := ih (by omega)
      have w := wb ((k : Int) + 1) (by omega)
      rw [bs]
      split
      · exact w
      · exact i
  have step : ∀ (f k : Nat), k < 4 → Va_bestGive_b25 N (f + 1) a0 (iv q) (iv t) (iv a) (iv here) (iv (bs (wv H mute (Vq H C wet mute (q + 1)) q here t a) k).1) (iv (bs (wv H mute (Vq H C wet mute (q + 1)) q here t a) k).2) (iv ((k : Int) + 1)) h = Va_bestGive_b25 N f a0 (iv q) (iv t) (iv a) (iv here) (iv (bs (wv H mute (Vq H C wet mute (q + 1)) q here t a) (k + 1)).1) (iv (bs (wv H mute (Vq H C wet mute (q + 1)) q here t a) (k + 1)).2) (iv ((k : Int) + 1 + 1)) h := by
    intro f k hk
    have i := bb k (by omega)
    have w := wb ((k : Int) + 1) (by omega)
    rw [Va_bestGive_b25, bs]
    unfold Va_bestGive_b59
    dsimp only
    rw [if_neg (by rw [il4, iv_lt (by omega) (by omega) (by omega) (by omega)]; omega), ck_p (by rw [v1]), gw _ (by omega), bd_s]
    simp only [show (iv (wv H mute (Vq H C wet mute (q + 1)) q here t a ((k : Int) + 1)) ≤ iv (bs (wv H mute (Vq H C wet mute (q + 1)) q here t a) k).2) ↔ wv H mute (Vq H C wet mute (q + 1)) q here t a ((k : Int) + 1) ≤ (bs (wv H mute (Vq H C wet mute (q + 1)) q here t a) k).2 from iv_le (by omega) (by omega) (by omega) (by omega)]
    rw [il1, iv_add]
    by_cases c : wv H mute (Vq H C wet mute (q + 1)) q here t a ((k : Int) + 1) ≤ (bs (wv H mute (Vq H C wet mute (q + 1)) q here t a) k).2
    · rw [if_pos c, if_neg (by omega)]
    · rw [if_neg c, if_pos (by omega)]
  obtain ⟨f, rfl⟩ : ∃ f, N = f + 1 + 1 + 1 + 1 + 1 := ⟨N - 5, by omega⟩
  have s0 := step (f + 1 + 1 + 1 + 1) 0 (by omega)
  have s1 := step (f + 1 + 1 + 1) 1 (by omega)
  have s2 := step (f + 1 + 1) 2 (by omega)
  have s3 := step (f + 1) 3 (by omega)
  have z0 : (((0 : Nat) : Int) + 1) = 1 := rfl
  have z1 : (((1 : Nat) : Int) + 1) = 2 := rfl
  have z2 : (((2 : Nat) : Int) + 1) = 3 := rfl
  have z3 : (((3 : Nat) : Int) + 1) = 4 := rfl
  rw [z0] at s0
  rw [z1] at s1
  rw [z2] at s2
  rw [z3] at s3
  refine s0.trans (s1.trans (s2.trans (s3.trans ?_)))
  rw [Va_bestGive_b25]
  dsimp only
  rw [if_pos (by decide)]
  rfl
theorem bestGL {N a0 g0 tb len : Nat} {H C : Nat → Int} {wet mute ff q t a here : Int} {h : PH} (hN0 : 200 ≤ N) (s : Shp h) (ho : HOK H C) (hs : HsL 10 H C h) (p : VaP a0 g0 wet mute H C tb len ff h) (hq : 0 ≤ q ∧ q < H 0) (ht : 0 ≤ t ∧ t ≤ H 1) (ha : 0 ≤ a ∧ a ≤ H 2) (hh : 0 ≤ here ∧ here ≤ 4) : Wp (Va_bestGive N a0 (iv q) (iv t) (iv a) (iv here) h) (fun v h2 => v = iv (bgv H mute (Vq H C wet mute (q + 1)) q here t a) ∧ VaStep a0 g0 wet mute H C tb len h h2) := by
  unfold Va_bestGive
  rw [il1, iv_add, il0]
  refine Wp_ck (by rw [p.1.1]) (Wp_bd2 (fillL hN0 s ho hs p (by omega)) ?_)
  rintro - h2 ⟨tb2, len2, ff2, f, hs2, p2, hf, r1, r2, r3⟩
  refine Wp_ck (by rw [p2.1.1]) (Wp_bde (giveW_eq (f.1 s) ho hs2 p2.1 p2.2.2.2.1 p2.2.2.2.2.1 hq hf ht ha hh (by omega)) ?_)
  exact ⟨_, _, bestGL_eq (by omega) (f.1 s) ho hs2 p2.1 p2.2.2.2.1 p2.2.2.2.2.1 hq hf ht ha hh, rfl, tb2, len2, ff2, f, hs2, p2, r1, r2, r3⟩
