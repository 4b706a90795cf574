/-! THE PURE PROOFS, 5: what is done to a night; the class's way. -/
def handM (H n : Nat → Int) (how : Int) : Nat → Int :=
  up (up (up (up (up (up n 1 (gt H (n 0) (n 3) how (n 1) (n 2))) 2 (ga H (n 0) (n 3) how (n 1) (n 2))) 10 (n 10 + glk H (n 0) (n 3) how (n 1) (n 2))) 11 (n 11 + gv H (n 0) (n 3) how (n 1) (n 2))) 4 1) 8 (isW H how (n 3))
def wetN (C n : Nat → Int) (k : Int) : Int := (n 13 * cw C 1 (n 0) k).tdiv 10
def dryN (C n : Nat → Int) (k : Int) : Int := ((1000000 - n 13) * cw C 0 (n 0) k).tdiv 10
def comeM (C n : Nat → Int) (many : Int) : Nat → Int :=
  up (up (up (up n 3 many) 5 1) 9 (n 9 + many)) 13 (if 0 < wetN C n (many - n 7) + dryN C n (many - n 7) then (wetN C n (many - n 7) * 1000000).tdiv (wetN C n (many - n 7) + dryN C n (many - n 7)) else n 13)
def darkM (H n : Nat → Int) : Nat → Int := if n 6 = 1 ∧ n 12 ≤ n 0 then up n 11 (n 11 - H 12) else n
def stepM (n : Nat → Int) : Nat → Int := up (up (up (up (up (up n 0 (n 0 + 1)) 3 0) 4 0) 5 0) 7 (n 8)) 8 0
def endM (H n : Nat → Int) : Nat → Int := if n 0 = H 0 then up n 11 (n 11 - H 7 * n 1) else n
def passM (H n : Nat → Int) : Nat → Int := endM H (stepM (darkM H (if 0 < n 3 ∧ n 4 = 0 then handM H n 0 else n)))
def shutM (n : Nat → Int) : Nat → Int := up (up n 6 1) 12 (n 0 + n 5)
def begM (H : Nat → Int) : Nat → Int := fun k => if k = 1 then H 1 else if k = 2 then H 2 else if k = 13 then H 13 * 100000 else 0
theorem isW_01 (H : Nat → Int) (a b : Int) : isW H a b = 0 ∨ isW H a b = 1 := by unfold isW; split <;> omega
theorem handM_ok {H C n : Nat → Int} {how : Int} (ho : HOK H C) (nk : NOK H n) (hw : 0 ≤ how ∧ how ≤ 4) : NOK H (handM H n how) := by
  obtain ⟨⟨a1, a2⟩, ⟨b1, b2⟩, ⟨c1, c2⟩, d, e⟩ := nk
  have g := g_b ho (q := n 0) hw d b1 c1
  have i := isW_01 H how (n 3)
  unfold NOK handM
  simp only [up, Nat.reduceEqDiff, and_true, true_and, and_false, false_and, if_true, if_false, eq_self, ite_true, ite_false]
  try simp
  omega
theorem ne_night {h : PH} {a : Nat} (s : Shp h) (ka : hK h a = (3, 0)) : a ≠ 10 ∧ a ≠ 11 ∧ a ≠ 12 ∧ a ≠ 13 := by
  refine ⟨?_, ?_, ?_, ?_⟩ <;> rintro rfl
  · rw [k10 s] at ka; cases ka
  · rw [k11 s] at ka; cases ka
  · rw [k12 s] at ka; cases ka
  · rw [k13 s] at ka; cases ka
theorem HsL.frN {a : Nat} {H C : Nat → Int} {h h2 : PH} (s : Shp h) (ka : hK h a = (3, 0)) (x : HsL 10 H C h) (f : FrS (fun b => b = a) h h2) : HsL 10 H C h2 := by
  obtain ⟨n0, n1, n2, n3⟩ := ne_night s ka
  exact x.fr f (fun e => n0 e.symm) (fun e => n1 e.symm) (fun e => n2 e.symm) (fun e => n3 e.symm)
theorem handL {N a : Nat} {H C n : Nat → Int} {h : PH} {how : Int} (s : Shp h) (ka : hK h a = (3, 0)) (ho : HOK H C) (hs : HsL 10 H C h) (nt : NtL a n h) (nk : NOK H n) (hq : n 0 < H 0) (hw : 0 ≤ how ∧ how ≤ 4) : Wp (Ni_hand N a (some 10) (iv how) h) (fun v h2 => v = iv (gv H (n 0) (n 3) how (n 1) (n 2)) ∧ FrS (fun b => b = a) h h2 ∧ NtL a (handM H n how) h2) := by
  obtain ⟨e0, e1, e2, e3, e13, e11, e9, e10, z5, z4, z6, z12, z7, z8⟩ := nt
  have nk2 := nk
  have ho2 := ho
  obtain ⟨⟨q1, q2⟩, ⟨t1, t2⟩, ⟨a1, a2⟩, hh, -⟩ := nk
  obtain ⟨⟨h01, h02⟩, ⟨h11, h12⟩, ⟨h21, h22⟩, -⟩ := ho
  obtain ⟨g1, g2, g3, g4⟩ := cg_all (H := H) (q := n 0) hh.1 hw t1 a1
  have f0 : FrS (fun b => b = a) h h := FrS.rf
  unfold Ni_hand
  refine Wp_ck (by rw [ka]) (Wp_bn rfl (Wp_ck (by rw [k10 s]) ?_))
  rw [e0, e1, e2, e3]
  refine Wp_bde (cgv_eq s ho2 hs (by omega) (by omega) (by omega) (by omega) hw) (Wp_ck (by rw [ka]) (Wp_ck (by rw [k10 s]) ?_))
  rw [e1, e2, e3]
  refine Wp_bde (srv_eq (by omega) (by omega) (by omega) hw) (Wp_ck (by rw [ka]) ?_)
  rw [e10, iv_sub, iv_add]
  refine Wp_lt (Wp_ck (by rw [hK_wI, k10 s]) ?_)
  simp only [hI_wI, hI_wZ, hI_wJ, hI_wR, hZ_wI, hZ_wZ, hZ_wJ, hZ_wR, hK_wI, hK_wZ, hK_wJ, hK_wR, hR_wI, hR_wZ, hR_wJ, hR_wR, hJ_wI, hJ_wZ, hJ_wJ, hJ_wR, Nat.reduceEqDiff, and_true, true_and, and_false, false_and, if_true, if_false, eq_self, ite_true, ite_false, e1, e2, e3]
  refine Wp_bde (cgt_eq (by omega) (by omega) hw) (Wp_ck (by rw [hK_wI, ka]) ?_)
  rw [iv_sub]
  refine Wp_lt (Wp_ck (by rw [hK_wI, hK_wI, k10 s]) ?_)
  simp only [hI_wI, hI_wZ, hI_wJ, hI_wR, hZ_wI, hZ_wZ, hZ_wJ, hZ_wR, hK_wI, hK_wZ, hK_wJ, hK_wR, hR_wI, hR_wZ, hR_wJ, hR_wR, hJ_wI, hJ_wZ, hJ_wJ, hJ_wR, Nat.reduceEqDiff, and_true, true_and, and_false, false_and, if_true, if_false, eq_self, ite_true, ite_false, e1, e2, e3]
  refine Wp_bde (cga_eq (by omega) (by omega) hw) (Wp_ck (by rw [hK_wI, hK_wI, ka]) ?_)
  rw [iv_sub]
  have f3 : FrS (fun b => b = a) h (wI (wI (wI h a 7 (iv (n 10 + (n 3 - srv (n 1) (n 2) (n 3) how)))) a 1 (iv (n 1 - cgt (n 1) (n 3) how))) a 2 (iv (n 2 - cga (n 2) (n 3) how))) := f0.i1.i1.i1
  refine Wp_lt (Wp_ck (by rw [hK_wI, hK_wI, hK_wI, k10 s]) ?_)
  simp only [hI_wI, hI_wZ, hI_wJ, hI_wR, hZ_wI, hZ_wZ, hZ_wJ, hZ_wR, hK_wI, hK_wZ, hK_wJ, hK_wR, hR_wI, hR_wZ, hR_wJ, hR_wR, hJ_wI, hJ_wZ, hJ_wJ, hJ_wR, Nat.reduceEqDiff, and_true, true_and, and_false, false_and, if_true, if_false, eq_self, ite_true, ite_false, e1, e2, e3]
  refine Wp_bde (isW_eq (f3.shp s) ho2 (hs.frN s ka f3) (by omega) hw) (Wp_ck (by rw [hK_wI, hK_wI, hK_wI, ka]) (Wp_lt (Wp_lt (Wp_lt (Wp_ret ?_)))))
  rw [tb_bI, tb_1]
  simp only [hI_wI, hI_wZ, hI_wJ, hI_wR, hZ_wI, hZ_wZ, hZ_wJ, hZ_wR, hK_wI, hK_wZ, hK_wJ, hK_wR, hR_wI, hR_wZ, hR_wJ, hR_wR, hJ_wI, hJ_wZ, hJ_wJ, hJ_wR, Nat.reduceEqDiff, and_true, true_and, and_false, false_and, if_true, if_false, eq_self, ite_true, ite_false, e11]
  rw [g1]
  refine ⟨rfl, ((f3.z1).i1).z1, ?_⟩
  unfold NtL handM
  rw [g1, g2, g3, g4]
  simp only [hI_wI, hI_wZ, hI_wJ, hI_wR, hZ_wI, hZ_wZ, hZ_wJ, hZ_wR, hK_wI, hK_wZ, hK_wJ, hK_wR, hR_wI, hR_wZ, hR_wJ, hR_wR, hJ_wI, hJ_wZ, hJ_wJ, hJ_wR, up, Nat.reduceEqDiff, and_true, true_and, and_false, false_and, if_true, if_false, eq_self, ite_true, ite_false, iv_add, e0, e1, e2, e3, e13, e11, e9, e10, z5, z4, z6, z12, z7, z8]
  try simp
theorem cw_b {H C : Nat → Int} (ho : HOK H C) {wet q k : Int} (hq : 0 ≤ q ∧ q < 24) (hk : 0 ≤ k ∧ k < 4) : 0 ≤ cw C wet q k ∧ cw C wet q k ≤ 10 := by
  obtain ⟨-, -, -, -, -, -, -, -, -, -, -, -, -, -, -, -, -, hc, hs⟩ := ho
  have h4 := hs q.toNat (by omega)
  have b0 := hc (4 * q.toNat) (by omega)
  have b1 := hc (4 * q.toNat + 1) (by omega)
  have b2 := hc (4 * q.toNat + 2) (by omega)
  have b3 := hc (4 * q.toNat + 3) (by omega)
  have e0 : ch C q 0 = C (4 * q.toNat) := by unfold ch; congr 1; omega
  have e1 : ch C q 1 = C (4 * q.toNat + 1) := by unfold ch; congr 1; omega
  have e2 : ch C q 2 = C (4 * q.toNat + 2) := by unfold ch; congr 1; omega
  have e3 : ch C q 3 = C (4 * q.toNat + 3) := by unfold ch; congr 1; omega
  have c : k = 0 ∨ k = 1 ∨ k = 2 ∨ k = 3 := by omega
  unfold cw
  by_cases hw : wet = 0
  · rw [if_pos hw]
    rcases c with rfl | rfl | rfl | rfl <;> omega
  · rw [if_neg hw]
    rcases c with rfl | rfl | rfl | rfl <;> simp only [Int.reduceEq, reduceIte, Int.reduceAdd] <;> omega
theorem cw_sum {H C : Nat → Int} (ho : HOK H C) {wet q : Int} (hq : 0 ≤ q ∧ q < 24) : cw C wet q 0 + cw C wet q 1 + cw C wet q 2 + cw C wet q 3 = 10 := by
  obtain ⟨-, -, -, -, -, -, -, -, -, -, -, -, -, -, -, -, -, hc, hs⟩ := ho
  have h4 := hs q.toNat (by omega)
  have e0 : ch C q 0 = C (4 * q.toNat) := by unfold ch; congr 1; omega
  have e1 : ch C q 1 = C (4 * q.toNat + 1) := by unfold ch; congr 1; omega
  have e2 : ch C q 2 = C (4 * q.toNat + 2) := by unfold ch; congr 1; omega
  have e3 : ch C q 3 = C (4 * q.toNat + 3) := by unfold ch; congr 1; omega
  unfold cw
  by_cases hw : wet = 0
  · simp only [hw, reduceIte]
    omega
  · simp only [hw, reduceIte, Int.reduceEq, Int.reduceAdd]
    omega
theorem rain_b {r a b : Int} (hr : 0 ≤ r ∧ r ≤ 1000000) (ha : 0 ≤ a ∧ a ≤ 10) (hb : 0 ≤ b ∧ b ≤ 10) : (0 ≤ r * a ∧ r * a ≤ 10000000) ∧ (0 ≤ (1000000 - r) * b ∧ (1000000 - r) * b ≤ 10000000) := by
  have h1 : 0 ≤ r * a := Int.mul_nonneg hr.1 ha.1
  have h2 : r * a ≤ 1000000 * 10 := Int.mul_le_mul hr.2 ha.2 ha.1 (by omega)
  have h3 : 0 ≤ (1000000 - r) * b := Int.mul_nonneg (by omega) hb.1
  have h4 : (1000000 - r) * b ≤ 1000000 * 10 := Int.mul_le_mul (by omega) hb.2 hb.1 (by omega)
  omega
theorem td10 {x : Int} (h : 0 ≤ x) : x.tdiv 10 = x / 10 := Int.tdiv_eq_ediv_of_nonneg h
theorem comeM_ok {H C n : Nat → Int} {many : Int} (ho : HOK H C) (nk : NOK H n) (hq : n 0 < H 0) (hm : 0 ≤ many - n 7 ∧ many - n 7 ≤ 3) : NOK H (comeM C n many) := by
  have hc1 := cw_b ho (wet := 1) (q := n 0) (k := many - n 7) ⟨nk.1.1, by have := ho.1.2; omega⟩ (by omega)
  have hc0 := cw_b ho (wet := 0) (q := n 0) (k := many - n 7) ⟨nk.1.1, by have := ho.1.2; omega⟩ (by omega)
  obtain ⟨a, b, c, d, e4, e5, e6, e7, e8, r, p, o, o2⟩ := nk
  have rb := rain_b r hc1 hc0
  have hr : 0 ≤ (if 0 < wetN C n (many - n 7) + dryN C n (many - n 7) then (wetN C n (many - n 7) * 1000000).tdiv (wetN C n (many - n 7) + dryN C n (many - n 7)) else n 13) ∧ (if 0 < wetN C n (many - n 7) + dryN C n (many - n 7) then (wetN C n (many - n 7) * 1000000).tdiv (wetN C n (many - n 7) + dryN C n (many - n 7)) else n 13) ≤ 1000000 := by
    have w0 : 0 ≤ wetN C n (many - n 7) := by unfold wetN; rw [td10 rb.1.1]; omega
    have d0 : 0 ≤ dryN C n (many - n 7) := by unfold dryN; rw [td10 rb.2.1]; omega
    split
    · next hp =>
      rw [Int.tdiv_eq_ediv_of_nonneg (by omega)]
      refine ⟨Int.ediv_nonneg (by omega) (by omega), ?_⟩
      refine Int.ediv_le_of_le_mul hp ?_
      rw [Int.mul_comm]
      exact Int.mul_le_mul_of_nonneg_left (by omega) (by omega)
    · omega
  unfold NOK comeM
  generalize (if 0 < wetN C n (many - n 7) + dryN C n (many - n 7) then (wetN C n (many - n 7) * 1000000).tdiv (wetN C n (many - n 7) + dryN C n (many - n 7)) else n 13) = rr at hr ⊢
  simp only [up, Nat.reduceEqDiff, and_true, true_and, and_false, false_and, if_true, if_false, eq_self, ite_true, ite_false]
  try simp
  omega
theorem arriveL {N a : Nat} {H C n : Nat → Int} {h : PH} {many : Int} (s : Shp h) (ka : hK h a = (3, 0)) (ho : HOK H C) (hs : HsL 10 H C h) (nt : NtL a n h) (nk : NOK H n) (hq : n 0 < H 0) (hm : 0 ≤ many - n 7 ∧ many - n 7 ≤ 3) : Wp (Ni_arrive N a (some 10) (iv many) h) (fun _ h2 => FrS (fun b => b = a) h h2 ∧ NtL a (comeM C n many) h2) := by
  have hc1 := cw_b ho (wet := 1) (q := n 0) (k := many - n 7) ⟨nk.1.1, by have := ho.1.2; omega⟩ (by omega)
  have hc0 := cw_b ho (wet := 0) (q := n 0) (k := many - n 7) ⟨nk.1.1, by have := ho.1.2; omega⟩ (by omega)
  obtain ⟨e0, e1, e2, e3, e13, e11, e9, e10, z5, z4, z6, z12, z7, z8⟩ := nt
  obtain ⟨⟨q1, q2⟩, -, -, hh, i4, i5, i6, i7, i8, r, -, -⟩ := nk
  have h02 := ho.1.2
  have rb := rain_b r hc1 hc0
  have tw : (n 13 * cw C 1 (n 0) (many - n 7)).tdiv 10 = wetN C n (many - n 7) := rfl
  have td : ((1000000 - n 13) * cw C 0 (n 0) (many - n 7)).tdiv 10 = dryN C n (many - n 7) := rfl
  have w0 : 0 ≤ wetN C n (many - n 7) ∧ wetN C n (many - n 7) ≤ 1000000 := by rw [← tw, td10 rb.1.1]; omega
  have d0 : 0 ≤ dryN C n (many - n 7) ∧ dryN C n (many - n 7) ≤ 1000000 := by rw [← td, td10 rb.2.1]; omega
  have key : Wp (Ni_arrive_b14 N (iv (many - n 7)) a (some 10) (iv many) h) (fun _ h2 => FrS (fun b => b = a) h h2 ∧ NtL a (comeM C n many) h2) := by
    unfold Ni_arrive_b14
    simp only [iv_lit, iv_neg, iv_add, iv_sub, iv_mul]
    refine Wp_ck (by rw [ka]) (Wp_bn rfl (Wp_ck (by rw [k10 s]) ?_))
    rw [e0]
    refine Wp_bde (chL_eq s hs (Or.inr rfl) (by omega) (by omega)) (Wp_ck (by rw [iv_eq (by omega) (by omega) (by omega) (by omega)]; omega) (Wp_ck (by rw [ka]) (Wp_ck (by rw [k10 s]) ?_)))
    rw [e0]
    refine Wp_bde (chL_eq s hs (Or.inl rfl) (by omega) (by omega)) (Wp_ck (by rw [iv_eq (by omega) (by omega) (by omega) (by omega)]; omega) ?_)
    rw [e13]
    simp only [iv_mul, iv_sub]
    rw [iv_div (by omega) (by omega) (by omega) (by omega), iv_div (by omega) (by omega) (by omega) (by omega), tw, td, iv_add]
    simp only [show (iv (wetN C n (many - n 7) + dryN C n (many - n 7)) ≤ iv 0) ↔ wetN C n (many - n 7) + dryN C n (many - n 7) ≤ 0 from iv_le (by omega) (by omega) (by omega) (by omega)]
    refine Wp_if (fun hc => ?_) (fun hc => ?_)
    · unfold Ni_arrive_b85
      refine Wp_ck (by rw [ka]) (Wp_lt (Wp_lt (Wp_lt (Wp_ret ⟨((FrS.rf.i1).i1).z1, ?_⟩))))
      unfold NtL comeM
      rw [if_neg (by omega), tb_1]
      simp only [hI_wI, hI_wZ, hI_wJ, hI_wR, hZ_wI, hZ_wZ, hZ_wJ, hZ_wR, hK_wI, hK_wZ, hK_wJ, hK_wR, hR_wI, hR_wZ, hR_wJ, hR_wR, hJ_wI, hJ_wZ, hJ_wJ, hJ_wR, up, Nat.reduceEqDiff, and_true, true_and, and_false, false_and, if_true, if_false, eq_self, ite_true, ite_false, iv_add, e0, e1, e2, e3, e13, e11, e9, e10, z5, z4, z6, z12, z7, z8]
      try simp
    · rw [iv_wide (by omega) (by omega), iv_wide (by omega) (by omega)]
      simp only [jv_lit]
      refine Wp_ck (by rw [jv_eq (by omega) (by omega) (by omega) (by omega)]; omega) (Wp_ck (by rw [ka]) ?_)
      rw [jv_mul, jv_div (by omega) (by omega) (by omega) (by omega), jv_narrow]
      refine Wp_lt ?_
      unfold Ni_arrive_b85
      refine Wp_ck (by rw [hK_wI, ka]) (Wp_lt (Wp_lt (Wp_lt (Wp_ret ⟨(((FrS.rf.i1).i1).i1).z1, ?_⟩))))
      unfold NtL comeM
      rw [if_pos (by omega), tb_1]
      simp only [hI_wI, hI_wZ, hI_wJ, hI_wR, hZ_wI, hZ_wZ, hZ_wJ, hZ_wR, hK_wI, hK_wZ, hK_wJ, hK_wR, hR_wI, hR_wZ, hR_wJ, hR_wR, hJ_wI, hJ_wZ, hJ_wJ, hJ_wR, up, Nat.reduceEqDiff, and_true, true_and, and_false, false_and, if_true, if_false, eq_self, ite_true, ite_false, iv_add, e0, e1, e2, e3, e13, e11, e9, e10, z5, z4, z6, z12, z7, z8]
      try simp
  unfold Ni_arrive
  refine Wp_ck (by rw [ka]) ?_
  simp only [bI_0]
  rw [z7]
  refine Wp_if (fun hc => ?_) (fun hc => ?_)
  · have e : n 7 = 0 := by simp at hc; omega
    rw [e, Int.sub_zero] at key
    exact key
  · have e : n 7 = 1 := by simp at hc; omega
    rw [il1, iv_sub]
    rw [e] at key
    exact key
theorem overL {N a : Nat} {H C n : Nat → Int} {h : PH} (s : Shp h) (ka : hK h a = (3, 0)) (ho : HOK H C) (hs : HsL 10 H C h) (nt : NtL a n h) (nk : NOK H n) : Ni_isOver N a (some 10) h = some (decide (n 0 = H 0), h) := by
  obtain ⟨e0, -⟩ := nt
  obtain ⟨x0, -⟩ := hs
  obtain ⟨⟨q1, q2⟩, -⟩ := nk
  obtain ⟨⟨h1, h2⟩, -⟩ := ho
  unfold Ni_isOver
  rw [ck_p (by rw [ka]), bn_s, ck_p (by rw [k10 s]), e0, x0]
  simp only [show (iv (n 0) < iv (H 0)) ↔ n 0 < H 0 from iv_lt (by omega) (by omega) (by omega) (by omega)]
  by_cases c : n 0 < H 0
  · rw [if_pos c, decide_eq_false (by omega)]
  · rw [if_neg c, decide_eq_true (by omega)]
theorem cangL {N a : Nat} {H n : Nat → Int} {h : PH} (ka : hK h a = (3, 0)) (nt : NtL a n h) (nk : NOK H n) : Ni_canBeGiven N a h = some (decide (0 < n 3 ∧ n 4 = 0), h) := by
  obtain ⟨-, -, -, e3, -, -, -, -, -, z4, -⟩ := nt
  obtain ⟨-, -, -, ⟨q1, q2⟩, c4, -⟩ := nk
  unfold Ni_canBeGiven
  rw [ck_p (by rw [ka]), e3, z4, il0]
  simp only [show (iv (n 3) ≤ iv 0) ↔ n 3 ≤ 0 from iv_le (by omega) (by omega) (by omega) (by omega)]
  rw [← il0]
  simp only [bI_0]
  by_cases c : n 3 ≤ 0
  · rw [if_pos c, decide_eq_false (by omega)]
  · rw [if_neg c]
    rcases c4 with e | e
    · rw [e, if_pos (by decide), decide_eq_true (by omega)]
    · rw [e, if_neg (by decide), decide_eq_false (by omega)]
theorem cancL {N a : Nat} {H C n : Nat → Int} {h : PH} {many : Int} (s : Shp h) (ka : hK h a = (3, 0)) (ho : HOK H C) (hs : HsL 10 H C h) (nt : NtL a n h) (nk : NOK H n) (hm : -2147483648 ≤ many ∧ many < 2147483648) : Ni_canCome N a (some 10) (iv many) h = some (decide (n 0 ≠ H 0 ∧ n 6 = 0 ∧ n 5 = 0 ∧ n 7 ≤ many ∧ many ≤ 3 + n 7), h) := by
  have ov := overL (N := N) s ka ho hs nt nk
  obtain ⟨-, -, -, -, -, -, -, -, z5, -, z6, -, z7, -⟩ := nt
  obtain ⟨-, -, -, -, -, i5, i6, i7, -⟩ := nk
  have key : ∀ u : Int, -2147483648 ≤ u → u < 2147483648 → ∀ P : Prop, [Decidable P] → (P ↔ (n 0 ≠ H 0 ∧ n 6 = 0 ∧ n 5 = 0 ∧ 0 ≤ u ∧ u ≤ 3)) → Ni_canCome_b14 N (iv u) a (some 10) h = some (decide P, h) := by
    intro u u1 u2 P dP hP
    rw [show decide P = decide (n 0 ≠ H 0 ∧ n 6 = 0 ∧ n 5 = 0 ∧ 0 ≤ u ∧ u ≤ 3) from decide_eq_decide.mpr hP]
    unfold Ni_canCome_b14
    rw [ck_p (by rw [ka]), ov, bd_s]
    simp only [bI_0, bI_0, bI_0]
    rw [z5, z6, il0, il3]
    simp only [show (iv u < iv 0) ↔ u < 0 from iv_lt (by omega) (by omega) (by omega) (by omega), show (iv 3 < iv u) ↔ 3 < u from iv_lt (by omega) (by omega) (by omega) (by omega)]
    by_cases c1 : u < 0
    · rw [if_pos c1, decide_eq_false (by omega)]
    · rw [if_neg c1]
      by_cases c2 : 3 < u
      · rw [if_pos c2, decide_eq_false (by omega)]
      · rw [if_neg c2]
        rcases i5 with e | e
        · rw [e, if_pos (by decide)]
          rcases i6 with f | f
          · rw [f, if_neg (by decide)]
            by_cases c3 : n 0 = H 0
            · rw [decide_eq_true c3, if_neg (by decide), decide_eq_false (by omega)]
            · rw [decide_eq_false c3, if_pos rfl, decide_eq_true (by omega)]
          · rw [f, if_pos (by decide), decide_eq_false (by omega)]
        · rw [e, if_neg (by decide), decide_eq_false (by omega)]
  unfold Ni_canCome
  rw [ck_p (by rw [ka])]
  simp only [bI_0]
  rw [z7]
  rcases i7 with e | e
  · rw [e, if_pos (by decide)]
    exact key many hm.1 hm.2 _ (by omega)
  · rw [e, if_neg (by decide), il1, iv_sub]
    by_cases c : many = -2147483648
    · have e2 : iv (many - 1) = iv 2147483647 := by rw [c]; decide
      rw [e2]
      exact key 2147483647 (by omega) (by omega) _ (by omega)
    · exact key (many - 1) (by omega) (by omega) _ (by omega)
theorem darkM_ok {H n : Nat → Int} (nk : NOK H n) : NOK H (darkM H n) := by
  unfold darkM
  split
  · unfold NOK at nk ⊢
    simp only [up, Nat.reduceEqDiff, and_true, true_and, and_false, false_and, if_true, if_false, eq_self, ite_true, ite_false]
    try simp
    omega
  · exact nk
theorem endM_ok {H n : Nat → Int} (nk : NOK H n) : NOK H (endM H n) := by
  unfold endM
  split
  · unfold NOK at nk ⊢
    simp only [up, Nat.reduceEqDiff, and_true, true_and, and_false, false_and, if_true, if_false, eq_self, ite_true, ite_false]
    try simp
    omega
  · exact nk
theorem stepM_ok {H n : Nat → Int} (nk : NOK H n) (hq : n 0 < H 0) : NOK H (stepM n) := by
  unfold NOK at nk ⊢
  unfold stepM
  simp only [up, Nat.reduceEqDiff, and_true, true_and, and_false, false_and, if_true, if_false, eq_self, ite_true, ite_false]
  try simp
  omega
theorem passM_ok {H C n : Nat → Int} (ho : HOK H C) (nk : NOK H n) (hq : n 0 < H 0) : NOK H (passM H n) := by
  unfold passM
  refine endM_ok (stepM_ok (darkM_ok ?_) ?_)
  · split
    · exact handM_ok ho nk (by omega)
    · exact nk
  · unfold darkM handM
    split <;> split <;> simpa [up] using hq
theorem shutM_ok {H n : Nat → Int} (nk : NOK H n) : NOK H (shutM n) := by
  unfold NOK at nk ⊢
  unfold shutM
  simp only [up, Nat.reduceEqDiff, and_true, true_and, and_false, false_and, if_true, if_false, eq_self, ite_true, ite_false]
  try simp
  omega
theorem begM_ok {H C : Nat → Int} (ho : HOK H C) : NOK H (begM H) := by
  obtain ⟨⟨h01, h02⟩, ⟨h11, h12⟩, ⟨h21, h22⟩, -, -, -, -, -, -, -, -, -, -, ⟨r1, r2⟩, -⟩ := ho
  unfold NOK begM
  try simp
  omega
theorem passL {N a : Nat} {H C n : Nat → Int} {h : PH} (s : Shp h) (ka : hK h a = (3, 0)) (ho : HOK H C) (hs : HsL 10 H C h) (nt : NtL a n h) (nk : NOK H n) (hq : n 0 < H 0) : Wp (Ni_pass N a (some 10) h) (fun _ h2 => FrS (fun b => b = a) h h2 ∧ NtL a (passM H n) h2) := by
  have tail : ∀ (n : Nat → Int) (h : PH), Shp h → hK h a = (3, 0) → HsL 10 H C h → NtL a n h → NOK H n → n 0 < H 0 → Wp (Ni_pass_b34 N a (some 10) h) (fun _ h2 => FrS (fun b => b = a) h h2 ∧ NtL a (endM H (stepM n)) h2) := by
    intro n h s ka hs nt nk hq
    have nk2 := stepM_ok nk hq
    have key : ∀ x : Bool, x = !(hZ h a 10) → Wp (Ni_pass_b72 N a (bI x) a (some 10) (wZ (wZ (wI (wI h a 0 (hI h a 0 + 1)) a 3 0) a 8 (tb 0)) a 9 (tb 0))) (fun _ h2 => FrS (fun b => b = a) h h2 ∧ NtL a (endM H (stepM n)) h2) := by
      intro x hx
      have f4 := FrS.rf.i1.i1.z1.z1 (h := wZ (wI (wI h a 0 (hI h a 0 + 1)) a 3 0) a 8 (tb 0)) (i := 9) (v := tb 0)
      unfold Ni_pass_b72
      refine Wp_ck (by simp only [hI_wI, hI_wZ, hI_wJ, hI_wR, hZ_wI, hZ_wZ, hZ_wJ, hZ_wR, hK_wI, hK_wZ, hK_wJ, hK_wR, hR_wI, hR_wZ, hR_wJ, hR_wR, hJ_wI, hJ_wZ, hJ_wJ, hJ_wR, ka]) (Wp_ck (isB_bI _) (Wp_lt (Wp_ck (by simp only [hI_wI, hI_wZ, hI_wJ, hI_wR, hZ_wI, hZ_wZ, hZ_wJ, hZ_wR, hK_wI, hK_wZ, hK_wJ, hK_wR, hR_wI, hR_wZ, hR_wJ, hR_wR, hJ_wI, hJ_wZ, hJ_wJ, hJ_wR, ka]) (Wp_lt (Wp_lt ?_)))))
      have f7 := ((f4.z1 (i := 11) (v := tb (bI x))).z1 (i := 12) (v := tb (bI (hZ (wZ (wZ (wZ (wI (wI h a 0 (hI h a 0 + 1)) a 3 0) a 8 (tb 0)) a 9 (tb 0)) a 11 (tb (bI x))) a 13)))).z1 (i := 13) (v := tb 0)
      have nt7 : NtL a (stepM n) (wZ (wZ (wZ (wZ (wZ (wI (wI h a 0 (hI h a 0 + 1)) a 3 0) a 8 (tb 0)) a 9 (tb 0)) a 11 (tb (bI x))) a 12 (tb (bI (hZ (wZ (wZ (wZ (wI (wI h a 0 (hI h a 0 + 1)) a 3 0) a 8 (tb 0)) a 9 (tb 0)) a 11 (tb (bI x))) a 13)))) a 13 (tb 0)) := by
        obtain ⟨e0, e1, e2, e3, e13, e11, e9, e10, z5, z4, z6, z12, z7, z8⟩ := nt
        obtain ⟨-, -, -, -, -, -, i6, -, -, -, p, -, p2⟩ := nk
        rw [tb_bI, tb_bI, tb_0, hx]
        unfold NtL stepM
        simp only [hI_wI, hI_wZ, hI_wJ, hI_wR, hZ_wI, hZ_wZ, hZ_wJ, hZ_wR, hK_wI, hK_wZ, hK_wJ, hK_wR, hR_wI, hR_wZ, hR_wJ, hR_wR, hJ_wI, hJ_wZ, hJ_wJ, hJ_wR, up, Nat.reduceEqDiff, and_true, true_and, and_false, false_and, if_true, if_false, eq_self, ite_true, ite_false, iv_lit, iv_add, e0, e1, e2, e3, e13, e11, e9, e10, z5, z4, z6, z12, z7, z8]
        rcases i6 with e | e
        · simp [e]
        · simp [e]; omega
      have s7 := f7.shp s
      have k7 := (congrFun f7.2.1 a).trans ka
      have hs7 := hs.frN s ka f7
      refine Wp_bde (overL s7 k7 ho hs7 nt7 nk2) ?_
      generalize (wZ (wZ (wZ (wZ (wZ (wI (wI h a 0 (hI h a 0 + 1)) a 3 0) a 8 (tb 0)) a 9 (tb 0)) a 11 (tb (bI x))) a 12 (tb (bI (hZ (wZ (wZ (wZ (wI (wI h a 0 (hI h a 0 + 1)) a 3 0) a 8 (tb 0)) a 9 (tb 0)) a 11 (tb (bI x))) a 13)))) a 13 (tb 0)) = h7 at f7 nt7 s7 k7 hs7 ⊢
      simp only [bI_0]
      unfold endM
      by_cases c : stepM n 0 = H 0
      · rw [if_neg (by simp [c]), if_pos c]
        refine Wp_ck (by rw [k7]) (Wp_bn rfl (Wp_ck (by rw [k10 s7]) (Wp_lt (Wp_ret ⟨f7.i1, ?_⟩))))
        obtain ⟨-, -, -, -, x4, -⟩ := hs7
        obtain ⟨e0, e1, e2, e3, e13, e11, e9, e10, z5, z4, z6, z12, z7, z8⟩ := nt7
        rw [x4, e11, e1]
        unfold NtL
        simp only [hI_wI, hI_wZ, hI_wJ, hI_wR, hZ_wI, hZ_wZ, hZ_wJ, hZ_wR, hK_wI, hK_wZ, hK_wJ, hK_wR, hR_wI, hR_wZ, hR_wJ, hR_wR, hJ_wI, hJ_wZ, hJ_wJ, hJ_wR, up, Nat.reduceEqDiff, and_true, true_and, and_false, false_and, if_true, if_false, eq_self, ite_true, ite_false, iv_mul, iv_sub, e0, e1, e2, e3, e13, e11, e9, e10, z5, z4, z6, z12, z7, z8]
        try simp
      · rw [if_pos (by simp [c]), if_neg c]
        exact Wp_ret ⟨f7, nt7⟩
    unfold Ni_pass_b34
    refine Wp_ck (by rw [ka]) (Wp_lt (Wp_lt (Wp_lt (Wp_lt ?_))))
    simp only [bI_0]
    have zz : hZ (wZ (wZ (wI (wI h a 0 (hI h a 0 + 1)) a 3 0) a 8 (tb 0)) a 9 (tb 0)) a 10 = hZ h a 10 := by
      simp only [hI_wI, hI_wZ, hI_wJ, hI_wR, hZ_wI, hZ_wZ, hZ_wJ, hZ_wR, hK_wI, hK_wZ, hK_wJ, hK_wR, hR_wI, hR_wZ, hR_wJ, hR_wR, hJ_wI, hJ_wZ, hJ_wJ, hJ_wR, Nat.reduceEqDiff, and_true, true_and, and_false, false_and, if_true, if_false, eq_self, ite_true, ite_false]
    rw [zz]
    refine Wp_if (fun c => ?_) (fun c => ?_)
    · exact key true (by rw [c]; try rfl)
    · exact key false (by simp at c; rw [c]; try rfl)
  have mid : ∀ (n : Nat → Int) (h : PH), Shp h → hK h a = (3, 0) → HsL 10 H C h → NtL a n h → NOK H n → n 0 < H 0 → Wp (Ni_pass_b14 N a (some 10) h) (fun _ h2 => FrS (fun b => b = a) h h2 ∧ NtL a (endM H (stepM (darkM H n))) h2) := by
    intro n h s ka hs nt nk hq
    obtain ⟨e0, e1, e2, e3, e13, e11, e9, e10, z5, z4, z6, z12, z7, z8⟩ := nt
    unfold Ni_pass_b14
    refine Wp_ck (by rw [ka]) ?_
    simp only [bI_0]
    rw [z12]
    unfold darkM
    by_cases c : n 6 = 1 ∧ n 12 ≤ n 0
    · rw [if_neg (by simp [c]), if_pos c]
      refine Wp_bn rfl (Wp_ck (by rw [k10 s]) (Wp_lt ?_))
      have f1 : FrS (fun b => b = a) h (wI h a 5 (hI h a 5 - hI h 10 9)) := FrS.rf.i1
      refine Wp_mono (tail _ _ (f1.shp s) (by rw [f1.2.1, ka]) (hs.frN s ka f1) ?_ ?_ ?_) (fun _ h2 q => ⟨f1.tr q.1, q.2⟩)
      · obtain ⟨-, -, -, -, -, -, -, -, -, x9, -⟩ := hs
        rw [e11, x9, iv_sub]
        unfold NtL
        simp only [hI_wI, hI_wZ, hI_wJ, hI_wR, hZ_wI, hZ_wZ, hZ_wJ, hZ_wR, hK_wI, hK_wZ, hK_wJ, hK_wR, hR_wI, hR_wZ, hR_wJ, hR_wR, hJ_wI, hJ_wZ, hJ_wJ, hJ_wR, up, Nat.reduceEqDiff, and_true, true_and, and_false, false_and, if_true, if_false, eq_self, ite_true, ite_false, e0, e1, e2, e3, e13, e11, e9, e10, z5, z4, z6, z12, z7, z8]
        try simp
      · have := darkM_ok nk; unfold darkM at this; rwa [if_pos c] at this
      · simpa [up] using hq
    · rw [if_pos (by simp; simpa using c), if_neg c]
      exact tail n h s ka hs ⟨e0, e1, e2, e3, e13, e11, e9, e10, z5, z4, z6, z12, z7, z8⟩ nk hq
  unfold Ni_pass
  refine Wp_ck (by rw [ka]) (Wp_bde (cangL ka nt nk) ?_)
  simp only [bI_0]
  unfold passM
  by_cases c : 0 < n 3 ∧ n 4 = 0
  · rw [if_neg (by simp [c]), if_pos c]
    refine Wp_ck (by rw [ka]) ?_
    rw [il0]
    refine Wp_bd2 (handL s ka ho hs nt nk hq (by omega)) ?_
    rintro v h2 ⟨-, f, nt2⟩
    refine Wp_mono (mid _ _ (f.shp s) (by rw [f.2.1, ka]) (hs.frN s ka f) nt2 (handM_ok ho nk (by omega)) (by simpa [handM, up] using hq)) (fun _ h3 q => ⟨f.tr q.1, q.2⟩)
  · rw [if_pos (by simpa using c), if_neg c]
    exact mid n h s ka hs nt nk hq
theorem darkenL {N a : Nat} {H n : Nat → Int} {h : PH} (ka : hK h a = (3, 0)) (nt : NtL a n h) (nk : NOK H n) (hn : n 6 = 0) : Wp (Ni_darken N a h) (fun _ h2 => FrS (fun b => b = a) h h2 ∧ NtL a (shutM n) h2) := by
  obtain ⟨e0, e1, e2, e3, e13, e11, e9, e10, z5, z4, z6, z12, z7, z8⟩ := nt
  obtain ⟨-, -, -, -, -, i5, -⟩ := nk
  unfold Ni_darken Ni_darken_b18
  refine Wp_ck (by rw [ka]) (Wp_lt ?_)
  simp only [bI_0]
  simp only [hI_wI, hI_wZ, hI_wJ, hI_wR, hZ_wI, hZ_wZ, hZ_wJ, hZ_wR, hK_wI, hK_wZ, hK_wJ, hK_wR, hR_wI, hR_wZ, hR_wJ, hR_wR, hJ_wI, hJ_wZ, hJ_wJ, hJ_wR, Nat.reduceEqDiff, and_true, true_and, and_false, false_and, if_true, if_false, eq_self, ite_true, ite_false, z5]
  rcases i5 with e | e
  · rw [e, if_pos (by decide)]
    refine Wp_ck (by rw [ka]) (Wp_ck isB_1 (Wp_lt (Wp_ret ⟨(FrS.rf.z1).z1, ?_⟩)))
    rw [tb_0, tb_1]
    unfold NtL shutM
    simp only [hI_wI, hI_wZ, hI_wJ, hI_wR, hZ_wI, hZ_wZ, hZ_wJ, hZ_wR, hK_wI, hK_wZ, hK_wJ, hK_wR, hR_wI, hR_wZ, hR_wJ, hR_wR, hJ_wI, hJ_wZ, hJ_wJ, hJ_wR, up, Nat.reduceEqDiff, and_true, true_and, and_false, false_and, if_true, if_false, eq_self, ite_true, ite_false, e0, e1, e2, e3, e13, e11, e9, e10, z5, z4, z6, z12, z7, z8]
    simp [e]
  · rw [e, if_neg (by decide)]
    refine Wp_ck (by rw [ka]) (Wp_ck isB_0 (Wp_lt (Wp_ret ⟨(FrS.rf.z1).z1, ?_⟩)))
    rw [tb_0]
    unfold NtL shutM
    simp only [hI_wI, hI_wZ, hI_wJ, hI_wR, hZ_wI, hZ_wZ, hZ_wJ, hZ_wR, hK_wI, hK_wZ, hK_wJ, hK_wR, hR_wI, hR_wZ, hR_wJ, hR_wR, hJ_wI, hJ_wZ, hJ_wJ, hJ_wR, up, Nat.reduceEqDiff, and_true, true_and, and_false, false_and, if_true, if_false, eq_self, ite_true, ite_false, e0, e1, e2, e3, e13, e11, e9, e10, z5, z4, z6, z12, z7, z8]
    simp [e]
    omega
theorem beginL {N a : Nat} {H C : Nat → Int} {h : PH} (s : Shp h) (ka : hK h a = (3, 0)) (hs : HsL 10 H C h) : Wp (Ni_begin N a (some 10) h) (fun _ h2 => FrS (fun b => b = a) h h2 ∧ NtL a (begM H) h2) := by
  obtain ⟨-, n11, n12, -⟩ := ne_night s ka
  have n10 := (ne_night s ka).1
  obtain ⟨x0, x1, x2, -, -, -, -, -, -, -, x10, -⟩ := hs
  unfold Ni_begin
  refine Wp_ck (by rw [ka]) (Wp_lt (Wp_bn rfl (Wp_ck (by rw [hK_wI, k10 s]) ?_)))
  refine Wp_lt (Wp_lt (Wp_lt (Wp_lt (Wp_lt (Wp_lt (Wp_lt (Wp_lt (Wp_lt (Wp_lt (Wp_lt (Wp_lt (Wp_lt (Wp_ret ⟨?_, ?_⟩)))))))))))))
  · exact (((((((((((((FrS.rf.i1).i1).i1).i1).i1).i1).i1).i1).z1).z1).z1).z1).z1).z1
  · unfold NtL begM
    simp only [tb_0, tb_1]
    simp only [hI_wI, hI_wZ, hI_wJ, hI_wR, hZ_wI, hZ_wZ, hZ_wJ, hZ_wR, hK_wI, hK_wZ, hK_wJ, hK_wR, hR_wI, hR_wZ, hR_wJ, hR_wR, hJ_wI, hJ_wZ, hJ_wJ, hJ_wR, Nat.reduceEqDiff, and_true, true_and, and_false, false_and, if_true, if_false, eq_self, ite_true, ite_false, n10.symm, x1, x2, x10, tb_0, tb_1, iv_lit, iv_mul]
    try simp
theorem copyL {N a b : Nat} {n : Nat → Int} {h : PH} (ka : hK h a = (3, 0)) (kb : hK h b = (3, 0)) (hab : b ≠ a) (nt : NtL b n h) : Wp (Ni_copy N a (some b) h) (fun _ h2 => FrS (fun c => c = a) h h2 ∧ NtL a n h2) := by
  obtain ⟨e0, e1, e2, e3, e13, e11, e9, e10, z5, z4, z6, z12, z7, z8⟩ := nt
  unfold Ni_copy
  refine Wp_ifn (by simp) (Wp_bn rfl (Wp_ck (by rw [kb]) (Wp_ck (by rw [ka]) ?_)))
  refine Wp_lt (Wp_lt (Wp_lt (Wp_lt (Wp_lt (Wp_lt (Wp_lt (Wp_lt (Wp_lt (Wp_lt (Wp_lt (Wp_lt (Wp_lt (Wp_lt (Wp_ret ⟨?_, ?_⟩))))))))))))))
  · exact (((((((((((((FrS.rf.i1).i1).i1).i1).i1).i1).i1).i1).z1).z1).z1).z1).z1).z1
  · unfold NtL
    simp only [hI_wI, hI_wZ, hI_wJ, hI_wR, hZ_wI, hZ_wZ, hZ_wJ, hZ_wR, hK_wI, hK_wZ, hK_wJ, hK_wR, hR_wI, hR_wZ, hR_wJ, hR_wR, hJ_wI, hJ_wZ, hJ_wJ, hJ_wR, Nat.reduceEqDiff, and_true, true_and, and_false, false_and, if_true, if_false, eq_self, ite_true, ite_false, hab, tb_bI, e0, e1, e2, e3, e13, e11, e9, e10, z5, z4, z6, z12, z7, z8]
    try simp
