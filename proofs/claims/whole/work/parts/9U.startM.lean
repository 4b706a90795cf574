/-! THE PURE PROOFS, 98: the start: the reference is made (printed in part). -/
/-- cells made so far by one constructor, at a: its pointers; all new is zero -/
def ASt (h0 : PH) (a : Nat) (ps : List (Nat × Nat)) (k s : Nat) (h : PH) : Prop := FrGr (fun b => b = a ∨ hN h0 ≤ b) k s h0 h ∧ (∀ b, b = a ∨ (hN h0 ≤ b ∧ b < hN h) → ∀ j, hI h b j = 0 ∧ hZ h b j = false) ∧ ∀ q ∈ ps, hR h a q.1 = some q.2
theorem ASt.step {h0 h : PH} {a f m k s : Nat} {ps : List (Nat × Nat)} {K : Nat × Nat} (x : ASt h0 a ps k s h) (an : a < hN h0) (kd : hK h0 (hN h0 + k) = K) (nf : ∀ q ∈ ps, q.1 ≠ f) : ASt h0 a ((f, hN h0 + k) :: ps) (k + 1) (s + m) (wR (nw h K m) a f (some (hN h))) := by
  obtain ⟨fr, z, p⟩ := x
  have e : hN h = hN h0 + k := fr.1.1
  refine ⟨(fr.nw kd (by show _ ∨ _; omega)).wR (Or.inl rfl), fun b hb j => ?_, fun q hq => ?_⟩
  · rw [hI_wR, hI_nw, hZ_wR, hZ_nw]
    by_cases c : b = hN h
    · rw [if_pos c, if_pos c]
      exact ⟨rfl, rfl⟩
    · rw [if_neg c, if_neg c]
      rw [hN_wR, hN_nw] at hb
      exact z b (by omega) j
  · rcases List.mem_cons.mp hq with rfl | hq
    · rw [hR_wR, if_pos ⟨rfl, rfl⟩, e]
    · rw [hR_wR, if_neg (fun c => nf q hq c.2), hR_nw, if_neg (by omega)]
      exact p q hq
theorem allocW {h0 h : PH} {a f m k s c : Nat} {L : Int32} {ps : List (Nat × Nat)} {A : Nat × Nat} {F : PH → Option (Unit × PH)} {Q : Unit → PH → Prop} (x : ASt h0 a ps k s h) (an : a < hN h0) (ka : hK h0 a = A) (nbL : nb L = true) (ixL : ix L = m) (kd : hK h0 (hN h0 + k) = (c, m)) (nf : ∀ q ∈ ps, q.1 ≠ f) (go : ∀ h2, ASt h0 a ((f, hN h0 + k) :: ps) (k + 1) (s + m) h2 → Wp (F h2) Q) : Wp (ck (nb L = true) <| lt0 (nw h (c, ix L) (ix L)) fun h2 => ck ((hK h2 a).1 = A.1) <| lt0 (wR h2 a f (some (hN h))) fun h5 => F h5) Q := by
  rw [ixL]
  have y := x.step (m := m) an kd nf
  refine Wp_ck nbL (Wp_lt (Wp_ck ?_ (Wp_lt (go _ y))))
  have e := y.1.2.1
  rw [hK_wR] at e
  rw [e, ka]
def MP : List (Nat × Nat) := [(52, 125), (51, 124), (49, 123), (48, 122), (44, 121), (39, 120), (38, 119), (37, 118), (36, 117), (35, 116), (34, 115), (33, 114), (32, 113), (30, 112), (29, 111), (28, 110), (27, 109), (26, 108), (25, 107), (24, 106), (23, 105), (22, 104), (21, 103), (20, 102), (19, 101), (16, 100), (15, 99), (14, 98), (13, 97), (12, 96), (11, 95), (10, 94), (2, 93)]
def MK : List (Nat × (Nat × Nat)) := [(93, (20, 1000)), (94, (20, 36)), (95, (20, 192)), (96, (21, 48)), (97, (23, 4)), (98, (20, 8)), (99, (20, 8)), (100, (20, 2000)), (101, (20, 7)), (102, (21, 7)), (103, (20, 7)), (104, (20, 7)), (105, (20, 7)), (106, (20, 7)), (107, (20, 7)), (108, (20, 7)), (109, (20, 7)), (110, (20, 7)), (111, (20, 7)), (112, (20, 20)), (113, (20, 6)), (114, (20, 360)), (115, (20, 360)), (116, (20, 14)), (117, (20, 14)), (118, (20, 56)), (119, (20, 224)), (120, (21, 4)), (121, (20, 78650)), (122, (20, 6025)), (123, (20, 7)), (124, (23, 23474)), (125, (23, 23474))]
theorem moAlloc {N : Nat} {h0 : PH} {Q : Unit → PH → Prop} (n0 : hN h0 = 93) (k92' : hK h0 92 = (11, 0)) (z0 : ∀ j, hI h0 92 j = 0 ∧ hZ h0 92 j = false) (kt : ∀ q ∈ MK, hK h0 q.1 = q.2) (go : ∀ h2, ASt h0 92 MP 33 136061 h2 → Wp (bd (Mo_plain N 92 0 h2) fun _ h200 => ck ((hK h200 92).1 = 11) <| bd (Mo_fresh N 92 h200) fun _ h204 => some ((), h204)) Q) : Wp (Mo_init N 92 h0) Q := by
  have x0 : ASt h0 92 [] 0 0 h0 := ⟨FrGr.rf, fun b hb j => by
    rcases hb with rfl | hb
    · exact z0 j
    · omega, fun q hq => absurd hq (List.not_mem_nil)⟩
  unfold Mo_init
  refine allocW (m := 1000) x0 (by omega) k92' (by decide) (by decide) (by rw [n0]; exact kt (93, (20, 1000)) (by decide +kernel)) (by decide +kernel) (fun h1 x1 => ?_)
  rw [show hN h0 + 0 = 93 from by omega] at x1
  refine allocW (m := 36) x1 (by omega) k92' (by decide) (by decide) (by rw [n0]; exact kt (94, (20, 36)) (by decide +kernel)) (by decide +kernel) (fun h2 x2 => ?_)
  rw [show hN h0 + 1 = 94 from by omega] at x2
  refine allocW (m := 192) x2 (by omega) k92' (by decide) (by decide) (by rw [n0]; exact kt (95, (20, 192)) (by decide +kernel)) (by decide +kernel) (fun h3 x3 => ?_)
  rw [show hN h0 + 2 = 95 from by omega] at x3
  refine allocW (m := 48) x3 (by omega) k92' (by decide) (by decide) (by rw [n0]; exact kt (96, (21, 48)) (by decide +kernel)) (by decide +kernel) (fun h4 x4 => ?_)
  rw [show hN h0 + 3 = 96 from by omega] at x4
  refine allocW (m := 4) x4 (by omega) k92' (by decide) (by decide) (by rw [n0]; exact kt (97, (23, 4)) (by decide +kernel)) (by decide +kernel) (fun h5 x5 => ?_)
  rw [show hN h0 + 4 = 97 from by omega] at x5
  refine allocW (m := 8) x5 (by omega) k92' (by decide) (by decide) (by rw [n0]; exact kt (98, (20, 8)) (by decide +kernel)) (by decide +kernel) (fun h6 x6 => ?_)
  rw [show hN h0 + 5 = 98 from by omega] at x6
  refine allocW (m := 8) x6 (by omega) k92' (by decide) (by decide) (by rw [n0]; exact kt (99, (20, 8)) (by decide +kernel)) (by decide +kernel) (fun h7 x7 => ?_)
  rw [show hN h0 + 6 = 99 from by omega] at x7
  refine allocW (m := 2000) x7 (by omega) k92' (by decide) (by decide) (by rw [n0]; exact kt (100, (20, 2000)) (by decide +kernel)) (by decide +kernel) (fun h8 x8 => ?_)
  rw [show hN h0 + 7 = 100 from by omega] at x8
  refine allocW (m := 7) x8 (by omega) k92' (by decide) (by decide) (by rw [n0]; exact kt (101, (20, 7)) (by decide +kernel)) (by decide +kernel) (fun h9 x9 => ?_)
  rw [show hN h0 + 8 = 101 from by omega] at x9
  refine allocW (m := 7) x9 (by omega) k92' (by decide) (by decide) (by rw [n0]; exact kt (102, (21, 7)) (by decide +kernel)) (by decide +kernel) (fun h10 x10 => ?_)
  rw [show hN h0 + 9 = 102 from by omega] at x10
  refine allocW (m := 7) x10 (by omega) k92' (by decide) (by decide) (by rw [n0]; exact kt (103, (20, 7)) (by decide +kernel)) (by decide +kernel) (fun h11 x11 => ?_)
  rw [show hN h0 + 10 = 103 from by omega] at x11
  refine allocW (m := 7) x11 (by omega) k92' (by decide) (by decide) (by rw [n0]; exact kt (104, (20, 7)) (by decide +kernel)) (by decide +kernel) (fun h12 x12 => ?_)
  rw [show hN h0 + 11 = 104 from by omega] at x12
  refine allocW (m := 7) x12 (by omega) k92' (by decide) (by decide) (by rw [n0]; exact kt (105, (20, 7)) (by decide +kernel)) (by decide +kernel) (fun h13 x13 => ?_)
  rw [show hN h0 + 12 = 105 from by omega] at x13
  refine allocW (m := 7) x13 (by omega) k92' (by decide) (by decide) (by rw [n0]; exact kt (106, (20, 7)) (by decide +kernel)) (by decide +kernel) (fun h14 x14 => ?_)
  rw [show hN h0 + 13 = 106 from by omega] at x14
  refine allocW (m := 7) x14 (by omega) k92' (by decide) (by decide) (by rw [n0]; exact kt (107, (20, 7)) (by decide +kernel)) (by decide +kernel) (fun h15 x15 => ?_)
  rw [show hN h0 + 14 = 107 from by omega] at x15
  refine allocW (m := 7) x15 (by omega) k92' (by decide) (by decide) (by rw [n0]; exact kt (108, (20, 7)) (by decide +kernel)) (by decide +kernel) (fun h16 x16 => ?_)
  rw [show hN h0 + 15 = 108 from by omega] at x16
  refine allocW (m := 7) x16 (by omega) k92' (by decide) (by decide) (by rw [n0]; exact kt (109, (20, 7)) (by decide +kernel)) (by decide +kernel) (fun h17 x17 => ?_)
  rw [show hN h0 + 16 = 109 from by omega] at x17
  refine allocW (m := 7) x17 (by omega) k92' (by decide) (by decide) (by rw [n0]; exact kt (110, (20, 7)) (by decide +kernel)) (by decide +kernel) (fun h18 x18 => ?_)
  rw [show hN h0 + 17 = 110 from by omega] at x18
  refine allocW (m := 7) x18 (by omega) k92' (by decide) (by decide) (by rw [n0]; exact kt (111, (20, 7)) (by decide +kernel)) (by decide +kernel) (fun h19 x19 => ?_)
  rw [show hN h0 + 18 = 111 from by omega] at x19
  refine allocW (m := 20) x19 (by omega) k92' (by decide) (by decide) (by rw [n0]; exact kt (112, (20, 20)) (by decide +kernel)) (by decide +kernel) (fun h20 x20 => ?_)
  rw [show hN h0 + 19 = 112 from by omega] at x20
  refine allocW (m := 6) x20 (by omega) k92' (by decide) (by decide) (by rw [n0]; exact kt (113, (20, 6)) (by decide +kernel)) (by decide +kernel) (fun h21 x21 => ?_)
  rw [show hN h0 + 20 = 113 from by omega] at x21
  refine allocW (m := 360) x21 (by omega) k92' (by decide) (by decide) (by rw [n0]; exact kt (114, (20, 360)) (by decide +kernel)) (by decide +kernel) (fun h22 x22 => ?_)
  rw [show hN h0 + 21 = 114 from by omega] at x22
  refine allocW (m := 360) x22 (by omega) k92' (by decide) (by decide) (by rw [n0]; exact kt (115, (20, 360)) (by decide +kernel)) (by decide +kernel) (fun h23 x23 => ?_)
  rw [show hN h0 + 22 = 115 from by omega] at x23
  refine allocW (m := 14) x23 (by omega) k92' (by decide) (by decide) (by rw [n0]; exact kt (116, (20, 14)) (by decide +kernel)) (by decide +kernel) (fun h24 x24 => ?_)
  rw [show hN h0 + 23 = 116 from by omega] at x24
  refine allocW (m := 14) x24 (by omega) k92' (by decide) (by decide) (by rw [n0]; exact kt (117, (20, 14)) (by decide +kernel)) (by decide +kernel) (fun h25 x25 => ?_)
  rw [show hN h0 + 24 = 117 from by omega] at x25
  refine allocW (m := 56) x25 (by omega) k92' (by decide) (by decide) (by rw [n0]; exact kt (118, (20, 56)) (by decide +kernel)) (by decide +kernel) (fun h26 x26 => ?_)
  rw [show hN h0 + 25 = 118 from by omega] at x26
  refine allocW (m := 224) x26 (by omega) k92' (by decide) (by decide) (by rw [n0]; exact kt (119, (20, 224)) (by decide +kernel)) (by decide +kernel) (fun h27 x27 => ?_)
  rw [show hN h0 + 26 = 119 from by omega] at x27
  refine allocW (m := 4) x27 (by omega) k92' (by decide) (by decide) (by rw [n0]; exact kt (120, (21, 4)) (by decide +kernel)) (by decide +kernel) (fun h28 x28 => ?_)
  rw [show hN h0 + 27 = 120 from by omega] at x28
  refine allocW (m := 78650) x28 (by omega) k92' (by decide) (by decide) (by rw [n0]; exact kt (121, (20, 78650)) (by decide +kernel)) (by decide +kernel) (fun h29 x29 => ?_)
  rw [show hN h0 + 28 = 121 from by omega] at x29
  refine allocW (m := 6025) x29 (by omega) k92' (by decide) (by decide) (by rw [n0]; exact kt (122, (20, 6025)) (by decide +kernel)) (by decide +kernel) (fun h30 x30 => ?_)
  rw [show hN h0 + 29 = 122 from by omega] at x30
  refine allocW (m := 7) x30 (by omega) k92' (by decide) (by decide) (by rw [n0]; exact kt (123, (20, 7)) (by decide +kernel)) (by decide +kernel) (fun h31 x31 => ?_)
  rw [show hN h0 + 30 = 123 from by omega] at x31
  refine allocW (m := 23474) x31 (by omega) k92' (by decide) (by decide) (by rw [n0]; exact kt (124, (23, 23474)) (by decide +kernel)) (by decide +kernel) (fun h32 x32 => ?_)
  rw [show hN h0 + 31 = 124 from by omega] at x32
  refine allocW (m := 23474) x32 (by omega) k92' (by decide) (by decide) (by rw [n0]; exact kt (125, (23, 23474)) (by decide +kernel)) (by decide +kernel) (fun h33 x33 => ?_)
  rw [show hN h0 + 32 = 125 from by omega] at x33
  exact go h33 x33
