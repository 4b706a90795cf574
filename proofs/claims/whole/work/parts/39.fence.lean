/-! THE PURE PROOFS, 17: FENCE: weights of callers, both ways. -/
def stp (r : Nat → Int) (k : Nat) (v : Int) : Nat → Int := up r k (r k + v)
def oth (C : Nat → Int) (both q k : Int) : Int := if both = 0 then (if k = 0 then 10 else 0) else ch C q k
def addM (C : Nat → Int) (both q : Int) (m : Nat) (r : Nat → Int) : Nat → Int := stp (stp (stp (stp r m (ch C q m * oth C both q 0)) (m + 1) (ch C q m * oth C both q 1)) (m + 2) (ch C q m * oth C both q 2)) (m + 3) (ch C q m * oth C both q 3)
/-- of a hundred that so many come to one house, or to both -/
def gwt (C : Nat → Int) (both q : Int) : Nat → Int := addM C both q 3 (addM C both q 2 (addM C both q 1 (addM C both q 0 (fun _ => 0))))
def RowG (a : Nat) (r : Nat → Int) (h : PH) : Prop := ∀ j, j < 7 → hI h a j = iv (r j)
theorem RowG.put {a j : Nat} {r : Nat → Int} {v : Int} {h : PH} (x : RowG a r h) : RowG a (up r j v) (wI h a j (iv v)) := by
  intro k hk
  rw [hI_wI]
  by_cases c : k = j
  · rw [if_pos ⟨rfl, c⟩, c, up_s]
  · rw [if_neg (fun e => c e.2), up_n _ _ _ _ c]
    exact x k hk
theorem gwt_0 (C : Nat → Int) (q : Int) (k : Nat) : gwt C 0 q k = if k < 4 then 10 * ch C q k else 0 := by
  have o0 : oth C 0 q 0 = 10 := rfl
  have o1 : oth C 0 q 1 = 0 := rfl
  have o2 : oth C 0 q 2 = 0 := rfl
  have o3 : oth C 0 q 3 = 0 := rfl
  unfold gwt addM stp
  simp only [o0, o1, o2, o3, Int.mul_zero, Int.add_zero]
  have c : k = 0 ∨ k = 1 ∨ k = 2 ∨ k = 3 ∨ k = 4 ∨ k = 5 ∨ k = 6 ∨ 6 < k := by omega
  rcases c with rfl | rfl | rfl | rfl | rfl | rfl | rfl | c
  · simp [up]; omega
  · simp [up]; omega
  · simp [up]; omega
  · simp [up]; omega
  · simp [up]
  · simp [up]
  · simp [up]
  · have n : ∀ j, j ≤ 6 → ¬ k = j := fun j hj => by omega
    simp [up, n 0, n 1, n 2, n 3, n 4, n 5, n 6]
    omega
theorem ch_b {H C : Nat → Int} (ho : HOK H C) {q k : Int} (hq : 0 ≤ q ∧ q < 24) (hk : 0 ≤ k ∧ k < 4) : 0 ≤ ch C q k ∧ ch C q k ≤ 10 := by
  have := cw_b ho (wet := 0) hq hk
  unfold cw at this
  rwa [if_pos rfl] at this
theorem gwt_sum {H C : Nat → Int} (ho : HOK H C) {both q : Int} (hb : both = 0 ∨ both = 1) (hq : 0 ≤ q ∧ q < 24) : (0 ≤ gwt C both q 0 ∧ 0 ≤ gwt C both q 1 ∧ 0 ≤ gwt C both q 2 ∧ 0 ≤ gwt C both q 3 ∧ 0 ≤ gwt C both q 4 ∧ 0 ≤ gwt C both q 5 ∧ 0 ≤ gwt C both q 6) ∧ gwt C both q 0 + gwt C both q 1 + gwt C both q 2 + gwt C both q 3 + gwt C both q 4 + gwt C both q 5 + gwt C both q 6 = 100 := by
  have c0 := ch_b ho hq (k := 0) (by omega)
  have c1 := ch_b ho hq (k := 1) (by omega)
  have c2 := ch_b ho hq (k := 2) (by omega)
  have c3 := ch_b ho hq (k := 3) (by omega)
  have cs := cw_sum ho (wet := 0) hq
  unfold cw at cs
  rw [if_pos rfl, if_pos rfl, if_pos rfl, if_pos rfl] at cs
  rcases hb with rfl | rfl
  · rw [gwt_0, gwt_0, gwt_0, gwt_0, gwt_0, gwt_0, gwt_0]
    simp
    omega
  · have o : ∀ k, oth C 1 q k = ch C q k := fun k => by unfold oth; rw [if_neg (by omega)]
    generalize e0 : ch C q 0 = a at *
    generalize e1 : ch C q 1 = b at *
    generalize e2 : ch C q 2 = c at *
    generalize e3 : ch C q 3 = d at *
    have z : (((0 : Nat) : Int) = 0) ∧ (((1 : Nat) : Int) = 1) ∧ (((2 : Nat) : Int) = 2) ∧ (((3 : Nat) : Int) = 3) := ⟨rfl, rfl, rfl, rfl⟩
    have g0 : gwt C 1 q 0 = a * a := by
      unfold gwt addM stp; simp [up, o, e0, e1, e2, e3]
    have g1 : gwt C 1 q 1 = a * b + b * a := by
      unfold gwt addM stp; simp [up, o, e0, e1, e2, e3]
    have g2 : gwt C 1 q 2 = a * c + b * b + c * a := by
      unfold gwt addM stp; simp [up, o, e0, e1, e2, e3]
    have g3 : gwt C 1 q 3 = a * d + b * c + c * b + d * a := by
      unfold gwt addM stp; simp [up, o, e0, e1, e2, e3]
    have g4 : gwt C 1 q 4 = b * d + c * c + d * b := by
      unfold gwt addM stp; simp [up, o, e0, e1, e2, e3]
    have g5 : gwt C 1 q 5 = c * d + d * c := by
      unfold gwt addM stp; simp [up, o, e0, e1, e2, e3]
    have g6 : gwt C 1 q 6 = d * d := by
      unfold gwt addM stp; simp [up, o, e0, e1, e2, e3]
    have p1 := Int.mul_nonneg c0.1 c0.1
    have p2 := Int.mul_nonneg c0.1 c1.1
    have p3 := Int.mul_nonneg c0.1 c2.1
    have p4 := Int.mul_nonneg c0.1 c3.1
    have p5 := Int.mul_nonneg c1.1 c1.1
    have p6 := Int.mul_nonneg c1.1 c2.1
    have p7 := Int.mul_nonneg c1.1 c3.1
    have p8 := Int.mul_nonneg c2.1 c2.1
    have p9 := Int.mul_nonneg c2.1 c3.1
    have p10 := Int.mul_nonneg c3.1 c3.1
    have m1 := Int.mul_comm b a
    have m2 := Int.mul_comm c a
    have m3 := Int.mul_comm d a
    have m4 := Int.mul_comm c b
    have m5 := Int.mul_comm d b
    have m6 := Int.mul_comm d c
    have sq : (a + b + c + d) * (a + b + c + d) = 10 * 10 := by rw [cs]
    simp only [Int.add_mul, Int.mul_add] at sq
    rw [g0, g1, g2, g3, g4, g5, g6]
    refine ⟨⟨?_, ?_, ?_, ?_, ?_, ?_, ?_⟩, ?_⟩ <;> omega
/-- what giving so to so many is worth, by the next quarter's row -/
def fv (H : Nat → Int) (nx : Int → Int) (q here t how : Int) : Int := 1000 * gv H q here how t 0 + nx (gt H q here how t 0)
def fG (H : Nat → Int) (nx : Int → Int) (q here t : Int) : Int := max (max (max (fv H nx q here t 0) (fv H nx q here t 1)) (fv H nx q here t 2)) (fv H nx q here t 3)
def fSum (H C : Nat → Int) (both : Int) (nx : Int → Int) (q t : Int) : Int := gwt C both q 0 * fG H nx q 0 t + gwt C both q 1 * fG H nx q 1 t + gwt C both q 2 * fG H nx q 2 t + gwt C both q 3 * fG H nx q 3 t + gwt C both q 4 * fG H nx q 4 t + gwt C both q 5 * fG H nx q 5 t + gwt C both q 6 * fG H nx q 6 t
def TF (H C : Nat → Int) (both : Int) : Nat → Int → Int
  | 0 => fun t => off0 H (H 0) t
  | n + 1 => fun t => (fSum H C both (TF H C both n) (H 0 - (n + 1)) t).tdiv 100
def Tq (H C : Nat → Int) (both q t : Int) : Int := TF H C both (H 0 - q).toNat t
theorem Tq_end {H C : Nat → Int} {both q t : Int} (h : q = H 0) : Tq H C both q t = off0 H (H 0) t := by
  unfold Tq
  rw [h, show (H 0 - H 0).toNat = 0 from by omega]
  rfl
theorem Tq_lt {H C : Nat → Int} {both q t : Int} (h : q < H 0) : Tq H C both q t = (fSum H C both (Tq H C both (q + 1)) q t).tdiv 100 := by
  have e : (H 0 - q).toNat = (H 0 - (q + 1)).toNat + 1 := by omega
  have e2 : H 0 - (((H 0 - (q + 1)).toNat : Int) + 1) = q := by omega
  unfold Tq
  rw [e]
  show (fSum H C both (TF H C both (H 0 - (q + 1)).toNat) (H 0 - (((H 0 - (q + 1)).toNat : Int) + 1)) t).tdiv 100 = _
  rw [e2]
  try rfl
def BT (nx : Int → Int) (lo hi : Int) : Prop := ∀ t, 0 ≤ t → t ≤ 240 → lo ≤ nx t ∧ nx t ≤ hi
theorem g6_b {H C : Nat → Int} (ho : HOK H C) {q here how t : Int} (hw : 0 ≤ how ∧ how ≤ 4) (hh : 0 ≤ here ∧ here ≤ 6) (ht : 0 ≤ t) : -594 ≤ gv H q here how t 0 ∧ gv H q here how t 0 ≤ 1782 ∧ 0 ≤ gt H q here how t 0 ∧ gt H q here how t 0 ≤ t := by
  have b := gN_b ho (q := q) hw ht (Int.le_refl 0) here.toNat
  unfold gv gt
  omega
theorem fG_b {H C : Nat → Int} (ho : HOK H C) {nx : Int → Int} {lo hi : Int} (b : BT nx lo hi) {q here t : Int} (hh : 0 ≤ here ∧ here ≤ 6) (ht : 0 ≤ t ∧ t ≤ 240) : lo - 594000 ≤ fG H nx q here t ∧ fG H nx q here t ≤ hi + 1782000 := by
  have k : ∀ how : Int, 0 ≤ how ∧ how ≤ 4 → lo - 594000 ≤ fv H nx q here t how ∧ fv H nx q here t how ≤ hi + 1782000 := by
    intro how hw
    have g := g6_b ho (q := q) hw hh ht.1
    have x := b (gt H q here how t 0) (by omega) (by omega)
    unfold fv
    omega
  have k0 := k 0 (by omega)
  have k1 := k 1 (by omega)
  have k2 := k 2 (by omega)
  have k3 := k 3 (by omega)
  unfold fG
  omega
theorem tdiv_b100 {s lo hi : Int} (h : 100 * lo ≤ s ∧ s ≤ 100 * hi) : lo ≤ s.tdiv 100 ∧ s.tdiv 100 ≤ hi := by
  rcases Int.le_total 0 s with c | c
  · rw [Int.tdiv_eq_ediv_of_nonneg c]; omega
  · have e : s.tdiv 100 = -((-s) / 100) := by
      rw [← Int.tdiv_eq_ediv_of_nonneg (by omega), Int.neg_tdiv, Int.neg_neg]
    rw [e]; omega
theorem fSum_b {H C : Nat → Int} (ho : HOK H C) {both : Int} {nx : Int → Int} {lo hi : Int} (b : BT nx lo hi) (hb : both = 0 ∨ both = 1) {q t : Int} (hq : 0 ≤ q ∧ q < 24) (ht : 0 ≤ t ∧ t ≤ 240) : 100 * (lo - 594000) ≤ fSum H C both nx q t ∧ fSum H C both nx q t ≤ 100 * (hi + 1782000) := by
  obtain ⟨⟨w0, w1, w2, w3, w4, w5, w6⟩, ws⟩ := gwt_sum ho hb hq
  have k : ∀ (j : Nat) (here : Int), 0 ≤ here ∧ here ≤ 6 → 0 ≤ gwt C both q j → gwt C both q j * (lo - 594000) ≤ gwt C both q j * fG H nx q here t ∧ gwt C both q j * fG H nx q here t ≤ gwt C both q j * (hi + 1782000) := by
    intro j here hh hw
    have x := fG_b ho b (q := q) hh ht
    exact ⟨Int.mul_le_mul_of_nonneg_left x.1 hw, Int.mul_le_mul_of_nonneg_left x.2 hw⟩
  have k0 := k 0 0 (by omega) w0
  have k1 := k 1 1 (by omega) w1
  have k2 := k 2 2 (by omega) w2
  have k3 := k 3 3 (by omega) w3
  have k4 := k 4 4 (by omega) w4
  have k5 := k 5 5 (by omega) w5
  have k6 := k 6 6 (by omega) w6
  have e1 : gwt C both q 0 * (lo - 594000) + gwt C both q 1 * (lo - 594000) + gwt C both q 2 * (lo - 594000) + gwt C both q 3 * (lo - 594000) + gwt C both q 4 * (lo - 594000) + gwt C both q 5 * (lo - 594000) + gwt C both q 6 * (lo - 594000) = 100 * (lo - 594000) := by
    rw [← Int.add_mul, ← Int.add_mul, ← Int.add_mul, ← Int.add_mul, ← Int.add_mul, ← Int.add_mul, ws]
  have e2 : gwt C both q 0 * (hi + 1782000) + gwt C both q 1 * (hi + 1782000) + gwt C both q 2 * (hi + 1782000) + gwt C both q 3 * (hi + 1782000) + gwt C both q 4 * (hi + 1782000) + gwt C both q 5 * (hi + 1782000) + gwt C both q 6 * (hi + 1782000) = 100 * (hi + 1782000) := by
    rw [← Int.add_mul, ← Int.add_mul, ← Int.add_mul, ← Int.add_mul, ← Int.add_mul, ← Int.add_mul, ws]
  unfold fSum
  omega
theorem Tq_bt {H C : Nat → Int} (ho : HOK H C) {both : Int} (hb : both = 0 ∨ both = 1) : ∀ (n : Nat) (q : Int), 0 ≤ q → q + n = H 0 → BT (Tq H C both q) (-26136000 - 594000 * n) (1782000 * n)
  | 0, q, hq, e => by
    intro t t0 t1
    have b := off0_b ho (q := H 0) (t := t) (by omega) (by omega)
    rw [Tq_end (by omega)]
    omega
  | n + 1, q, hq, e => by
    intro t t0 t1
    have ih := Tq_bt (H := H) (C := C) ho hb n (q + 1) (by omega) (by omega)
    have h0 := ho.1
    rw [Tq_lt (by omega)]
    have x := tdiv_b100 (fSum_b ho ih hb (q := q) (t := t) (by omega) ⟨t0, t1⟩)
    omega
theorem Tq_b {H C : Nat → Int} (ho : HOK H C) {both : Int} (hb : both = 0 ∨ both = 1) {q : Int} (hq : 0 ≤ q ∧ q ≤ H 0) : BT (Tq H C both q) (-41000000) 43000000 := by
  intro t t0 t1
  have h0 := ho.1
  have b := Tq_bt (H := H) (C := C) ho hb (H 0 - q).toNat q hq.1 (by omega) t t0 t1
  omega
theorem fG_none {H : Nat → Int} {nx : Int → Int} {q t : Int} : fG H nx q 0 t = nx t := by
  have e : ∀ how, fv H nx q 0 t how = nx t := by
    intro how
    unfold fv gv gt
    simp [gN]
  unfold fG
  rw [e, e, e, e]
  omega
