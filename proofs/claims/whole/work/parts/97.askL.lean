/-! THE PURE PROOFS, 75: the class is asked: its tables, one after another. -/
def amax (f : Int → Int) : Nat → Int → Int → Int → Int
  | 0, _, b, _ => b
  | k + 1, q, b, m => if f q ≤ m then amax f k (q + 1) b m else amax f k (q + 1) q (f q)
abbrev opn (g : Gs) : Prop := gsN g 0 ≠ gsH g 0 ∧ gsN g 6 = 0
abbrev hbt (g : Gs) (z : Int) : Prop := 0 ≤ z ∧ z < gsH g 15
abbrev gE2 (g : Gs) : Int → Int → Int → Int → Int → Int := EvE (gsE g) (gsH g)
section
variable {N c : Nat} {g : Gs} {h : PH}
theorem LeI.s (x : LeI c g h) : Shp h := x.1.1.1
theorem LeI.hs (x : LeI c g h) : HsL 10 (gsH g) (gsC g) h := x.1.2.2.1.1
theorem LeI.nt (x : LeI c g h) : NtL 32 (gsN g) h := x.1.2.2.2.1
theorem isOpenL (x : LeI c g h) (k : GOK g) : Le_isOpen N 6 h = some (decide (gsN g 0 ≠ gsH g 0 ∧ gsN g 6 = 0), h) := by
  have s := x.s
  have n6 := k.2.2.1.2.2.2.2.2.2.1
  unfold Le_isOpen
  rw [ck_p (by rw [k6 s]), p6_6 s, bn_s, ck_p (by rw [k32 s]), x.nt.2.2.2.2.2.2.2.2.2.2.1, p6_1 s]
  simp only [bI_0]
  by_cases c : gsN g 6 = 0
  · rw [decide_eq_true c, if_neg (by decide), overL s (k32 s) k.1 x.hs x.nt k.2.2.1, bd_s]
    by_cases d : gsN g 0 = gsH g 0
    · rw [decide_eq_true d, if_neg (by decide), decide_eq_false (fun z => z.1 d)]
    · rw [decide_eq_false d, if_pos rfl, decide_eq_true ⟨d, c⟩]
  · rw [decide_eq_false c, if_pos rfl, decide_eq_false (fun z => c z.2)]
theorem hasHabitL {z : Int} (x : LeI c g h) (k : GOK g) (hz : -2147483648 ≤ z ∧ z < 2147483648) : Le_hasHabit N 6 (iv z) h = some (decide (0 ≤ z ∧ z < gsH g 15), h) := by
  have s := x.s
  have h15 : 0 ≤ gsH g 15 ∧ gsH g 15 ≤ 4 := k.1.2.2.2.2.2.2.2.2.2.2.2.2.2.2.2.1
  have e12 : hI h 10 12 = iv (gsH g 15) := x.hs.2.2.2.2.2.2.2.2.2.2.2.2.1
  unfold Le_hasHabit
  rw [il0]
  simp only [show (iv z < iv 0) ↔ z < 0 from iv_lt (by omega) (by omega) (by omega) (by omega)]
  by_cases c : z < 0
  · rw [if_pos c, decide_eq_false (by omega)]
  · rw [if_neg c, ck_p (by rw [k6 s]), p6_1 s, bn_s, ck_p (by rw [k10 s]), e12]
    simp only [show (iv (gsH g 15) ≤ iv z) ↔ gsH g 15 ≤ z from iv_le (by omega) (by omega) (by omega) (by omega)]
    by_cases d : gsH g 15 ≤ z
    · rw [if_pos d, decide_eq_false (by omega)]
    · rw [if_neg d, decide_eq_true (by omega)]
/-! ### the tables -/
theorem worth0L {q t a w : Int} (hN : 24000 ≤ N) (x : LeI c g h) (k : GOK g) (hq : 0 ≤ q ∧ q ≤ gsH g 0) (ht : 0 ≤ t ∧ t ≤ gsH g 1) (ha : 0 ≤ a ∧ a ≤ gsH g 2) (hw : w = 0 ∨ w = 1) : Wp (Va_worthFrom N 36 (iv q) (iv t) (iv a) (iv w) h) (fun v h2 => v = iv (Vq (gsH g) (gsC g) 0 0 q t a w) ∧ LeI (c + 1) g h2 ∧ CFr h h2) := by
  obtain ⟨hn, d, len, ff, rd, p, r⟩ := x.2
  refine Wp_mono (worthL (by omega) x.s k.1 x.hs p.1 hq ht ha hw) ?_
  rintro v h2 ⟨rfl, st⟩
  exact ⟨rfl, LeI.va0 x.1 hn p r st⟩
theorem worth1L {q t a w : Int} (hN : 24000 ≤ N) (x : LeI c g h) (k : GOK g) (hq : 0 ≤ q ∧ q ≤ gsH g 0) (ht : 0 ≤ t ∧ t ≤ gsH g 1) (ha : 0 ≤ a ∧ a ≤ gsH g 2) (hw : w = 0 ∨ w = 1) : Wp (Va_worthFrom N 39 (iv q) (iv t) (iv a) (iv w) h) (fun v h2 => v = iv (Vq (gsH g) (gsC g) 1 0 q t a w) ∧ LeI (c + 1) g h2 ∧ CFr h h2) := by
  obtain ⟨hn, d, len, ff, rd, p, r⟩ := x.2
  refine Wp_mono (worthL (by omega) x.s k.1 x.hs p.2.1 hq ht ha hw) ?_
  rintro v h2 ⟨rfl, st⟩
  exact ⟨rfl, LeI.va1 x.1 hn p r st⟩
theorem worth2L {q t a w : Int} (hN : 24000 ≤ N) (x : LeI c g h) (k : GOK g) (hq : 0 ≤ q ∧ q ≤ gsH g 0) (ht : 0 ≤ t ∧ t ≤ gsH g 1) (ha : 0 ≤ a ∧ a ≤ gsH g 2) (hw : w = 0 ∨ w = 1) : Wp (Va_worthFrom N 42 (iv q) (iv t) (iv a) (iv w) h) (fun v h2 => v = iv (Vq (gsH g) (gsC g) 0 1 q t a w) ∧ LeI (c + 1) g h2 ∧ CFr h h2) := by
  obtain ⟨hn, d, len, ff, rd, p, r⟩ := x.2
  refine Wp_mono (worthL (by omega) x.s k.1 x.hs p.2.2.1 hq ht ha hw) ?_
  rintro v h2 ⟨rfl, st⟩
  exact ⟨rfl, LeI.va2 x.1 hn p r st⟩
theorem bestW0L {q t a here : Int} (hN : 24000 ≤ N) (x : LeI c g h) (k : GOK g) (hq : 0 ≤ q ∧ q < gsH g 0) (ht : 0 ≤ t ∧ t ≤ gsH g 1) (ha : 0 ≤ a ∧ a ≤ gsH g 2) (hh : 0 ≤ here ∧ here ≤ 4) : Wp (Va_bestWorth N 36 (iv q) (iv t) (iv a) (iv here) h) (fun v h2 => v = iv (gr (gsH g) 0 (Vq (gsH g) (gsC g) 0 0 (q + 1)) q here t a) ∧ LeI (c + 1) g h2 ∧ CFr h h2) := by
  obtain ⟨hn, d, len, ff, rd, p, r⟩ := x.2
  refine Wp_mono (bestWL (by omega) x.s k.1 x.hs p.1 hq ht ha hh) ?_
  rintro v h2 ⟨rfl, st⟩
  exact ⟨rfl, LeI.va0 x.1 hn p r st⟩
theorem bestG0L {q t a here : Int} (hN : 24000 ≤ N) (x : LeI c g h) (k : GOK g) (hq : 0 ≤ q ∧ q < gsH g 0) (ht : 0 ≤ t ∧ t ≤ gsH g 1) (ha : 0 ≤ a ∧ a ≤ gsH g 2) (hh : 0 ≤ here ∧ here ≤ 4) : Wp (Va_bestGive N 36 (iv q) (iv t) (iv a) (iv here) h) (fun v h2 => v = iv (bgv (gsH g) 0 (Vq (gsH g) (gsC g) 0 0 (q + 1)) q here t a) ∧ LeI (c + 1) g h2 ∧ CFr h h2) := by
  obtain ⟨hn, d, len, ff, rd, p, r⟩ := x.2
  refine Wp_mono (bestGL (by omega) x.s k.1 x.hs p.1 hq ht ha hh) ?_
  rintro v h2 ⟨rfl, st⟩
  exact ⟨rfl, LeI.va0 x.1 hn p r st⟩
theorem lit0L {q t a w : Int} (hN : 24000 ≤ N) (x : LeI c g h) (k : GOK g) (hq : 0 ≤ q ∧ q < gsH g 0) (ht : 0 ≤ t ∧ t ≤ gsH g 1) (ha : 0 ≤ a ∧ a ≤ gsH g 2) (hw : w = 0 ∨ w = 1) : Wp (Va_litWorth N 36 (iv q) (iv t) (iv a) (iv w) h) (fun v h2 => v = iv (lit (gsH g) (gsC g) 0 0 (Vq (gsH g) (gsC g) 0 0 (q + 1)) q t a w) ∧ LeI (c + 1) g h2 ∧ CFr h h2) := by
  obtain ⟨hn, d, len, ff, rd, p, r⟩ := x.2
  refine Wp_mono (litWL (by omega) x.s k.1 x.hs p.1 hq ht ha hw) ?_
  rintro v h2 ⟨rfl, st⟩
  exact ⟨rfl, LeI.va0 x.1 hn p r st⟩
theorem dyn32 {d : Nat → Nat} {h : PH} (a : ∀ i, i < 7 → Dyn (d i) ∧ d i < hN h) {i : Nat} (hi : i < 7) : 32 ≠ d i := by
  have := (a i hi).1
  unfold Dyn at this
  omega
theorem meanWL {z u : Int} (hN : 24000 ≤ N) (hc : c ≤ 100000) (x : LeI c g h) (k : GOK g) (hz : 0 ≤ z ∧ z < gsH g 15) (hu : gsN g 0 ≤ u ∧ u ≤ gsH g 0) : Wp (Me_worthOf N 45 (iv z) (iv u) (some 32) h) (fun v h2 => v = iv (Fq (gsH g) (gsC g) (gE2 g) z 0 u (gsN g 0) (gsN g 1) (gsN g 2) (gsN g 7)) ∧ LeI (c + 1) g h2 ∧ CFr h h2) := by
  obtain ⟨hn, d, len, ff, rd, p, r⟩ := x.2
  have r2 := r.2.1
  obtain ⟨v0, v1, v2, m, -, -, a, -⟩ := id p
  refine Wp_mono (mworthL (by omega) x.s k.1 (EvE_ok _ _) x.hs (x.1.hab (by omega) k) m (by omega) (k32 x.s) ⟨by omega, by omega, by omega, dyn32 a (by omega), dyn32 a (by omega)⟩ x.nt k.2.2.1 hz hu) ?_
  rintro v h2 ⟨rfl, st⟩
  exact ⟨rfl, LeI.me x.1 hn p r st⟩
theorem leftWL {z : Int} (hN : 24000 ≤ N) (hc : c ≤ 100000) (x : LeI c g h) (k : GOK g) (hz : 0 ≤ z ∧ z < gsH g 15) : Wp (Me_leftBy N 45 (iv z) (some 32) h) (fun v h2 => v = iv (Fq (gsH g) (gsC g) (gE2 g) z 1 (gsH g 0) (gsN g 0) (gsN g 1) (gsN g 2) (gsN g 7)) ∧ LeI (c + 1) g h2 ∧ CFr h h2) := by
  obtain ⟨hn, d, len, ff, rd, p, r⟩ := x.2
  have r2 := r.2.1
  obtain ⟨v0, v1, v2, m, -, -, a, -⟩ := id p
  refine Wp_mono (mleftL (by omega) x.s k.1 (EvE_ok _ _) x.hs (x.1.hab (by omega) k) m (by omega) (k32 x.s) ⟨by omega, by omega, by omega, dyn32 a (by omega), dyn32 a (by omega)⟩ x.nt k.2.2.1 hz) ?_
  rintro v h2 ⟨rfl, st⟩
  exact ⟨rfl, LeI.me x.1 hn p r st⟩
theorem sureWL {e : Int} (hN : 24000 ≤ N) (x : LeI c g h) (k : GOK g) (he : 1 ≤ e ∧ e ≤ 3) : Wp (Sh_sureness N 52 (iv e) (some 32) h) (fun v h2 => v = iv (Sq (gsH g) (gsC g) e (gsN g 0) (gsN g 1) (gsN g 7)) ∧ LeI c g h2 ∧ CFr h h2) := by
  obtain ⟨hn, d, len, ff, rd, p, r⟩ := x.2
  refine Wp_mono (surenessL (by omega) k.1 he hn x.s x.hs p.2.2.2.2.2.1 x.nt k.2.2.1) ?_
  rintro v h2 ⟨rfl, f, e1, e2, sp⟩
  exact ⟨rfl, x.sh f e1 e2 sp⟩
theorem fewWL {e m : Int} (hN : 24000 ≤ N) (x : LeI c g h) (k : GOK g) (he : 1 ≤ e ∧ e ≤ 3) (hm : 0 ≤ m ∧ m ≤ 1000000) : Wp (Sh_fewest N 52 (iv e) (iv m) (some 32) h) (fun v h2 => v = iv (fewF (fun t => Sq (gsH g) (gsC g) e (gsN g 0) t (gsN g 7)) m (gsH g 1 + 1).toNat 0) ∧ LeI c g h2 ∧ CFr h h2) := by
  obtain ⟨hn, d, len, ff, rd, p, r⟩ := x.2
  refine Wp_mono (fewestL (by omega) k.1 he hm hn x.s x.hs p.2.2.2.2.2.1 x.nt k.2.2.1) ?_
  rintro v h2 ⟨rfl, f, e1, e2, sp⟩
  exact ⟨rfl, x.sh f e1 e2 sp⟩
theorem fenceWL {q a b : Int} (hN : 24000 ≤ N) (x : LeI c g h) (k : GOK g) (hq : 0 ≤ q ∧ q ≤ gsH g 0) (ha : 0 ≤ a ∧ a ≤ 120) (hb : 0 ≤ b ∧ b ≤ 120) : Wp (Sh_overFence N 52 (iv q) (iv a) (iv b) h) (fun v h2 => v = iv (Tq (gsH g) (gsC g) 1 q (a + b) - Tq (gsH g) (gsC g) 0 q a - Tq (gsH g) (gsC g) 0 q b) ∧ LeI c g h2 ∧ CFr h h2) := by
  obtain ⟨hn, d, len, ff, rd, p, r⟩ := x.2
  refine Wp_mono (overL2 (by omega) k.1 hq ha hb hn x.s x.hs p.2.2.2.2.2.1) ?_
  rintro v h2 ⟨rfl, f, e1, e2, sp⟩
  exact ⟨rfl, x.sh f e1 e2 sp⟩
theorem readWL {z : Int} {q t : Nat} (hN : 24000 ≤ N) (x : LeI c g h) (k : GOK g) (hz : 0 ≤ z ∧ z < gsH g 15) (hq : (q : Int) ≤ gsH g 0) (ht : t ≤ 120) : Wp (Rd_tell N 49 (iv z) (iv q) h) (fun _ h2 => LeI (c + 1) g h2 ∧ CFr h h2 ∧ Rd_chanceOf N 49 (iv t) h2 = some (iv (rdS (Dq (gsH g) (gsC g) (gE2 g) z q) t 97), h2) ∧ Rd_likeliest N 49 (iv t) h2 = some (iv (rdB (Dq (gsH g) (gsC g) (gE2 g) z q) t 97).1, h2)) := by
  obtain ⟨hn, d, len, ff, rd, p, r⟩ := x.2
  refine Wp_mono (tellL (by omega) k.1 (EvE_ok _ _) hz hq x.s x.hs (x.1.hab (by omega) k) p.2.2.2.2.1) ?_
  rintro v h2 ⟨bf2, af2, lb2, la2, rc, rk, row, st⟩
  have h0 := k.1.1
  have dk := Dq_ok (C := gsC g) k.1 (EvE_ok (gsE g) (gsH g)) (hb := z) q (by omega)
  obtain ⟨y1, y2⟩ := LeI.rd x.1 hn p r st
  exact ⟨y1, y2, chanceL (by omega) k.1 rk dk hq ht rc row, likeliestL (by omega) k.1 rk dk hq ht rc row⟩
end
