/-! THE PURE PROOFS, 9A4: the start: the class's things, in their order (printed). -/
def KX : List (Nat × (Nat × Nat)) := [(38, (20, 0)), (41, (20, 0)), (44, (20, 0)), (47, (20, 0)), (48, (20, 0)), (50, (20, 0)), (51, (20, 0))] ++ KL
theorem fe {α : Type} {P : α → Prop} : ∀ q ∈ ([] : List α), P q := fun _ hq => absurd hq List.not_mem_nil
theorem leInitObjs {g : GT} {N : Nat} {h0 : PH} {Q : Unit → PH → Prop} (hN1 : 3000 ≤ N) (n0 : hN h0 = 7) (kd : ∀ q ∈ KX, hK h0 q.1 = q.2) (tx : TxW h0) (go : ∀ g0 g1 g2 g3 g4 g5 g6 g7 g8 g9 g10 g11 g12 g13 g14 g15 : PH, Hung h0 h0 7 0 2 1038 [] [((7, 0), 8), ((7, 9), 9)] (fun I J Z => I 7 1 = 0 ∧ ∀ j, j < 28 → J 9 j = jv (K32 j)) g0 → Hung h0 g0 10 1 5 1219 [(0, 7)] [((10, 14), 11), ((10, 15), 12), ((10, 16), 13), ((10, 17), 14), ((10, 18), 15)] (fun I J Z => True) g1 → Hung h0 g1 16 2 5 1219 [(1, 10), (0, 7)] [((16, 14), 17), ((16, 15), 18), ((16, 16), 19), ((16, 17), 20), ((16, 18), 21)] (fun I J Z => (∀ f, f < 13 → I 16 f = iv (cf H1 f)) ∧ I 16 13 = iv 0 ∧ I 17 0 = iv 0 ∧ (∀ m : Nat, 0 < m → m < 4 → I 17 m = iv (wsm H1 m)) ∧ (∀ k, k < 96 → I 18 k = iv (C1 k)) ∧ ∀ q k : Nat, q < 24 → k < 4 → I 19 (4 * q + k) = iv (cw C1 1 q k)) g2 → Hung h0 g2 22 3 2 123 [(2, 16), (1, 10), (0, 7)] [((22, 0), 23), ((22, 1), 24)] (fun I J Z => True) g3 → Hung h0 g3 25 4 2 123 [(3, 22), (2, 16), (1, 10), (0, 7)] [((25, 0), 26), ((25, 1), 27)] (fun I J Z => True) g4 → Hung h0 g4 28 5 3 46 [(4, 25), (3, 22), (2, 16), (1, 10), (0, 7)] [((28, 3), 29), ((28, 4), 30), ((28, 5), 31), ((28, 0), 7), ((28, 1), 16), ((28, 2), 25)] (fun I J Z => True) g5 → Hung h0 g5 32 6 0 14 [(5, 28), (4, 25), (3, 22), (2, 16), (1, 10), (0, 7)] [] (fun I J Z => True) g6 → Hung h0 g6 33 7 0 14 [(6, 32), (5, 28), (4, 25), (3, 22), (2, 16), (1, 10), (0, 7)] [] (fun I J Z => True) g7 → Hung h0 g7 34 8 0 16 [(7, 33), (6, 32), (5, 28), (4, 25), (3, 22), (2, 16), (1, 10), (0, 7)] [] (fun I J Z => True) g8 → Hung h0 (wI (wI g8 6 9 0) 6 10 0) 35 11 0 4 [(8, 34), (7, 33), (6, 32), (5, 28), (4, 25), (3, 22), (2, 16), (1, 10), (0, 7)] [] (fun I J Z => True) g9 → Hung h0 g9 36 12 2 11 [(11, 35), (8, 34), (7, 33), (6, 32), (5, 28), (4, 25), (3, 22), (2, 16), (1, 10), (0, 7)] [((36, 3), 37), ((36, 4), 38), ((36, 0), 10)] (fun I J Z => Z 36 1 = decide ((0 : Int) = 1) ∧ Z 36 2 = decide ((1 : Int) = 1)) g10 → Hung h0 g10 39 13 2 11 [(12, 36), (11, 35), (8, 34), (7, 33), (6, 32), (5, 28), (4, 25), (3, 22), (2, 16), (1, 10), (0, 7)] [((39, 3), 40), ((39, 4), 41), ((39, 0), 10)] (fun I J Z => Z 39 1 = decide ((1 : Int) = 1) ∧ Z 39 2 = decide ((1 : Int) = 1)) g11 → Hung h0 g11 42 14 2 11 [(13, 39), (12, 36), (11, 35), (8, 34), (7, 33), (6, 32), (5, 28), (4, 25), (3, 22), (2, 16), (1, 10), (0, 7)] [((42, 3), 43), ((42, 4), 44), ((42, 0), 10)] (fun I J Z => Z 42 1 = decide ((0 : Int) = 1) ∧ Z 42 2 = decide ((0 : Int) = 1)) g12 → Hung h0 g12 45 15 3 72 [(14, 42), (13, 39), (12, 36), (11, 35), (8, 34), (7, 33), (6, 32), (5, 28), (4, 25), (3, 22), (2, 16), (1, 10), (0, 7)] [((45, 1), 46), ((45, 5), 47), ((45, 6), 48), ((45, 0), 10)] (fun I J Z => I 45 7 = 0) g13 → Hung h0 g13 49 16 2 5 [(15, 45), (14, 42), (13, 39), (12, 36), (11, 35), (8, 34), (7, 33), (6, 32), (5, 28), (4, 25), (3, 22), (2, 16), (1, 10), (0, 7)] [((49, 3), 50), ((49, 4), 51), ((49, 0), 10), ((49, 1), 45)] (fun I J Z => True) g14 → Hung h0 g14 52 17 3 495 [(16, 49), (15, 45), (14, 42), (13, 39), (12, 36), (11, 35), (8, 34), (7, 33), (6, 32), (5, 28), (4, 25), (3, 22), (2, 16), (1, 10), (0, 7)] [((52, 0), 53), ((52, 2), 54), ((52, 3), 55), ((52, 1), 10)] (fun I J Z => True) g15 → Wp (Le_init_b233 g N N 6 0 g15) Q) : Wp (Le_init g N 6 h0) Q := by
  have Kd6 : hK h0 6 = (10, 0) := kd (6, (10, 0)) (by decide +kernel)
  have Kd7 : hK h0 7 = (8, 0) := kd (7, (8, 0)) (by decide +kernel)
  have Kd8 : hK h0 8 = (22, 1000) := kd (8, (22, 1000)) (by decide +kernel)
  have Kd9 : hK h0 9 = (23, 28) := kd (9, (23, 28)) (by decide +kernel)
  have Kd10 : hK h0 10 = (0, 0) := kd (10, (0, 0)) (by decide +kernel)
  have Kd11 : hK h0 11 = (20, 4) := kd (11, (20, 4)) (by decide +kernel)
  have Kd12 : hK h0 12 = (20, 96) := kd (12, (20, 96)) (by decide +kernel)
  have Kd13 : hK h0 13 = (20, 96) := kd (13, (20, 96)) (by decide +kernel)
  have Kd14 : hK h0 14 = (20, 1000) := kd (14, (20, 1000)) (by decide +kernel)
  have Kd15 : hK h0 15 = (20, 4) := kd (15, (20, 4)) (by decide +kernel)
  have Kd16 : hK h0 16 = (0, 0) := kd (16, (0, 0)) (by decide +kernel)
  have Kd17 : hK h0 17 = (20, 4) := kd (17, (20, 4)) (by decide +kernel)
  have Kd18 : hK h0 18 = (20, 96) := kd (18, (20, 96)) (by decide +kernel)
  have Kd19 : hK h0 19 = (20, 96) := kd (19, (20, 96)) (by decide +kernel)
  have Kd20 : hK h0 20 = (20, 1000) := kd (20, (20, 1000)) (by decide +kernel)
  have Kd21 : hK h0 21 = (20, 4) := kd (21, (20, 4)) (by decide +kernel)
  have Kd22 : hK h0 22 = (6, 0) := kd (22, (6, 0)) (by decide +kernel)
  have Kd23 : hK h0 23 = (20, 60) := kd (23, (20, 60)) (by decide +kernel)
  have Kd24 : hK h0 24 = (20, 60) := kd (24, (20, 60)) (by decide +kernel)
  have Kd25 : hK h0 25 = (6, 0) := kd (25, (6, 0)) (by decide +kernel)
  have Kd26 : hK h0 26 = (20, 60) := kd (26, (20, 60)) (by decide +kernel)
  have Kd27 : hK h0 27 = (20, 60) := kd (27, (20, 60)) (by decide +kernel)
  have Kd28 : hK h0 28 = (4, 0) := kd (28, (4, 0)) (by decide +kernel)
  have Kd29 : hK h0 29 = (23, 4) := kd (29, (23, 4)) (by decide +kernel)
  have Kd30 : hK h0 30 = (21, 11) := kd (30, (21, 11)) (by decide +kernel)
  have Kd31 : hK h0 31 = (21, 24) := kd (31, (21, 24)) (by decide +kernel)
  have Kd32 : hK h0 32 = (3, 0) := kd (32, (3, 0)) (by decide +kernel)
  have Kd33 : hK h0 33 = (3, 0) := kd (33, (3, 0)) (by decide +kernel)
  have Kd34 : hK h0 34 = (24, 16) := kd (34, (24, 16)) (by decide +kernel)
  have Kd35 : hK h0 35 = (25, 4) := kd (35, (25, 4)) (by decide +kernel)
  have Kd36 : hK h0 36 = (9, 0) := kd (36, (9, 0)) (by decide +kernel)
  have Kd37 : hK h0 37 = (20, 5) := kd (37, (20, 5)) (by decide +kernel)
  have Kd38 : hK h0 38 = (20, 0) := kd (38, (20, 0)) (by decide +kernel)
  have Kd39 : hK h0 39 = (9, 0) := kd (39, (9, 0)) (by decide +kernel)
  have Kd40 : hK h0 40 = (20, 5) := kd (40, (20, 5)) (by decide +kernel)
  have Kd41 : hK h0 41 = (20, 0) := kd (41, (20, 0)) (by decide +kernel)
  have Kd42 : hK h0 42 = (9, 0) := kd (42, (9, 0)) (by decide +kernel)
  have Kd43 : hK h0 43 = (20, 5) := kd (43, (20, 5)) (by decide +kernel)
  have Kd44 : hK h0 44 = (20, 0) := kd (44, (20, 0)) (by decide +kernel)
  have Kd45 : hK h0 45 = (2, 0) := kd (45, (2, 0)) (by decide +kernel)
  have Kd46 : hK h0 46 = (20, 64) := kd (46, (20, 64)) (by decide +kernel)
  have Kd47 : hK h0 47 = (20, 0) := kd (47, (20, 0)) (by decide +kernel)
  have Kd48 : hK h0 48 = (20, 0) := kd (48, (20, 0)) (by decide +kernel)
  have Kd49 : hK h0 49 = (5, 0) := kd (49, (5, 0)) (by decide +kernel)
  have Kd50 : hK h0 50 = (20, 0) := kd (50, (20, 0)) (by decide +kernel)
  have Kd51 : hK h0 51 = (20, 0) := kd (51, (20, 0)) (by decide +kernel)
  have Kd52 : hK h0 52 = (7, 0) := kd (52, (7, 0)) (by decide +kernel)
  have Kd53 : hK h0 53 = (20, 7) := kd (53, (20, 7)) (by decide +kernel)
  have Kd54 : hK h0 54 = (20, 242) := kd (54, (20, 242)) (by decide +kernel)
  have Kd55 : hK h0 55 = (20, 242) := kd (55, (20, 242)) (by decide +kernel)
  have P0 : P6 [] h0 := fe
  unfold Le_init
  rw [n0]
  refine obj (m := 2) (t1 := 1028) (LR := [((7, 0), 8), ((7, 9), 9)]) (V := fun I J Z => I 7 1 = 0 ∧ ∀ j, j < 28 → J 9 j = jv (K32 j)) rfl n0 P0 (by omega) Kd6 Kd7 (by decide +kernel) (by decide +kernel) (fun h1 a => ?_) (fun g0 x0 => ?_)
  · refine Wp_mono (taInit (by omega) a.2.1 (by rw [a.1]; exact Kd7) (by rw [a.1]; exact Kd8) (by rw [a.1]; exact Kd9) ⟨by rw [a.1]; exact tx.1, by rw [(a.2.2.1 1 (by omega)).2.2.2]; exact tx.2.1, by rw [(a.2.2.1 1 (by omega)).1]; exact tx.2.2.1, by rw [a.1]; exact tx.2.2.2.1, fun j => by rw [(a.2.2.1 2 (by omega)).1]; exact tx.2.2.2.2 j⟩) ?_
    rintro - h5 ⟨fr, r1, r2, v1, v2⟩
    exact ⟨fr.up (fun b z => by omega), List.forall_mem_cons.mpr ⟨r1, List.forall_mem_cons.mpr ⟨r2, fe⟩⟩, ⟨v1, v2⟩⟩
  rw [x0.2.1]
  refine obj (m := 5) (t1 := 1200) (LR := [((10, 14), 11), ((10, 15), 12), ((10, 16), 13), ((10, 17), 14), ((10, 18), 15)]) (V := fun I J Z => True) x0.1 x0.2.1 x0.2.2.1 (by omega) Kd6 Kd10 (by decide +kernel) (by decide +kernel) (fun h1 a => ?_) (fun g1 x1 => ?_)
  · refine Wp_mono (hoInit (n := 11) a.2.1 (by omega) (by rw [a.1]; exact Kd10) (by rw [a.1]; exact Kd11) (by rw [a.1]; exact Kd12) (by rw [a.1]; exact Kd13) (by rw [a.1]; exact Kd14) (by rw [a.1]; exact Kd15) rfl (by omega)) ?_
    rintro - h5 ⟨fr, r1, r2, r3, r4, r5, -⟩
    exact ⟨fr.up (fun b z => by omega), List.forall_mem_cons.mpr ⟨r1, List.forall_mem_cons.mpr ⟨r2, List.forall_mem_cons.mpr ⟨r3, List.forall_mem_cons.mpr ⟨r4, List.forall_mem_cons.mpr ⟨r5, fe⟩⟩⟩⟩⟩, trivial⟩
  rw [x1.2.1]
  refine obj (m := 5) (t1 := 1200) (LR := [((16, 14), 17), ((16, 15), 18), ((16, 16), 19), ((16, 17), 20), ((16, 18), 21)]) (V := fun I J Z => (∀ f, f < 13 → I 16 f = iv (cf H1 f)) ∧ I 16 13 = iv 0 ∧ I 17 0 = iv 0 ∧ (∀ m : Nat, 0 < m → m < 4 → I 17 m = iv (wsm H1 m)) ∧ (∀ k, k < 96 → I 18 k = iv (C1 k)) ∧ ∀ q k : Nat, q < 24 → k < 4 → I 19 (4 * q + k) = iv (cw C1 1 q k)) x1.1 x1.2.1 x1.2.2.1 (by omega) Kd6 Kd16 (by decide +kernel) (by decide +kernel) (fun h1 a => ?_) (fun g2 x2 => ?_)
  · refine Wp_mono (hoInit (n := 17) a.2.1 (by omega) (by rw [a.1]; exact Kd16) (by rw [a.1]; exact Kd17) (by rw [a.1]; exact Kd18) (by rw [a.1]; exact Kd19) (by rw [a.1]; exact Kd20) (by rw [a.1]; exact Kd21) rfl (by omega)) ?_
    rintro - h5 ⟨fr, r1, r2, r3, r4, r5, vv⟩
    exact ⟨fr.up (fun b z => by omega), List.forall_mem_cons.mpr ⟨r1, List.forall_mem_cons.mpr ⟨r2, List.forall_mem_cons.mpr ⟨r3, List.forall_mem_cons.mpr ⟨r4, List.forall_mem_cons.mpr ⟨r5, fe⟩⟩⟩⟩⟩, vv⟩
  rw [x2.2.1]
  refine obj (m := 2) (t1 := 120) (LR := [((22, 0), 23), ((22, 1), 24)]) (V := fun I J Z => True) x2.1 x2.2.1 x2.2.2.1 (by omega) Kd6 Kd22 (by decide +kernel) (by decide +kernel) (fun h1 a => ?_) (fun g3 x3 => ?_)
  · refine Wp_mono (scInit (n := 23) a.2.1 (by omega) (by rw [a.1]; exact Kd22) (by rw [a.1]; exact Kd23) (by rw [a.1]; exact Kd24)) ?_
    rintro - h5 ⟨fr, r1, r2⟩
    exact ⟨fr.up (fun b z => by omega), List.forall_mem_cons.mpr ⟨r1, List.forall_mem_cons.mpr ⟨r2, fe⟩⟩, trivial⟩
  rw [x3.2.1]
  refine obj (m := 2) (t1 := 120) (LR := [((25, 0), 26), ((25, 1), 27)]) (V := fun I J Z => True) x3.1 x3.2.1 x3.2.2.1 (by omega) Kd6 Kd25 (by decide +kernel) (by decide +kernel) (fun h1 a => ?_) (fun g4 x4 => ?_)
  · refine Wp_mono (scInit (n := 26) a.2.1 (by omega) (by rw [a.1]; exact Kd25) (by rw [a.1]; exact Kd26) (by rw [a.1]; exact Kd27)) ?_
    rintro - h5 ⟨fr, r1, r2⟩
    exact ⟨fr.up (fun b z => by omega), List.forall_mem_cons.mpr ⟨r1, List.forall_mem_cons.mpr ⟨r2, fe⟩⟩, trivial⟩
  rw [x4.2.1]
  refine obj2 (m := 3) (t1 := 39) (LR := [((28, 3), 29), ((28, 4), 30), ((28, 5), 31), ((28, 0), 7), ((28, 1), 16), ((28, 2), 25)]) (V := fun I J Z => True) x4.1 x4.2.1 x4.2.2.1 (by omega) Kd6 Kd28 (by decide +kernel) (by decide +kernel) (fun h1 a => ?_) (fun g5 x5 => ?_)
  · rw [(a.2.2.1 6 (by omega)).2.2.2, x4.2.2.1 (0, 7) (by decide +kernel), x4.2.2.1 (2, 16) (by decide +kernel), x4.2.2.1 (4, 25) (by decide +kernel)]
    refine Wp_mono (reInit (n := 29) a.2.1 (by omega) (by rw [a.1]; exact Kd28) (by rw [a.1]; exact Kd29) (by rw [a.1]; exact Kd30) (by rw [a.1]; exact Kd31)) ?_
    rintro - h5 ⟨fr, r1, r2, r3, r4, r5, r6⟩
    exact ⟨fr.up (fun b z => by omega), List.forall_mem_cons.mpr ⟨r1, List.forall_mem_cons.mpr ⟨r2, List.forall_mem_cons.mpr ⟨r3, List.forall_mem_cons.mpr ⟨r4, List.forall_mem_cons.mpr ⟨r5, List.forall_mem_cons.mpr ⟨r6, fe⟩⟩⟩⟩⟩⟩, trivial⟩
  rw [x5.2.1]
  refine obj (m := 0) (t1 := 0) (LR := []) (V := fun I J Z => True) x5.1 x5.2.1 x5.2.2.1 (by omega) Kd6 Kd32 (by decide +kernel) (by decide +kernel) (fun h1 a => ?_) (fun g6 x6 => ?_)
  · refine Wp_mono (niInit (by rw [a.1]; exact Kd32)) ?_
    rintro - h5 fr
    exact ⟨fr.up (fun b z => by omega), fe, trivial⟩
  rw [x6.2.1]
  refine obj (m := 0) (t1 := 0) (LR := []) (V := fun I J Z => True) x6.1 x6.2.1 x6.2.2.1 (by omega) Kd6 Kd33 (by decide +kernel) (by decide +kernel) (fun h1 a => ?_) (fun g7 x7 => ?_)
  · refine Wp_mono (niInit (by rw [a.1]; exact Kd33)) ?_
    rintro - h5 fr
    exact ⟨fr.up (fun b z => by omega), fe, trivial⟩
  rw [x7.2.1]
  rw [show ix 16 = 16 from by decide]
  refine Wp_ck (by decide) ?_
  obtain ⟨a8, b8⟩ := mk1 (K := (24, 16)) (M := 16) x7.1 x7.2.1 Kd34
  refine Wp_lt ?_
  generalize nw g7 (24, 16) 16 = h1 at a8 b8 ⊢
  refine Wp_ck (by rw [a8.1, Kd6]) (Wp_lt ?_)
  have x8 := hung (f := 8) (LR := []) (V := fun I J Z => True) (by omega) x7.2.2.1 (by decide +kernel) fe a8 b8 FrGr.rf fe trivial
  generalize wR h1 6 8 (some 34) = g8 at x8 ⊢
  refine Wp_lt (Wp_lt ?_)
  have eK8 : hK (wI (wI g8 6 9 0) 6 10 0) = hK h0 := x8.1
  have eN8 : hN (wI (wI g8 6 9 0) 6 10 0) = 35 := x8.2.1
  have P8 : P6 ((8, 34) :: [(7, 33), (6, 32), (5, 28), (4, 25), (3, 22), (2, 16), (1, 10), (0, 7)]) (wI (wI g8 6 9 0) 6 10 0) := x8.2.2.1
  rw [eN8]
  rw [show ix 4 = 4 from by decide]
  refine Wp_ck (by decide) ?_
  obtain ⟨a9, b9⟩ := mk1 (K := (25, 4)) (M := 4) eK8 eN8 Kd35
  refine Wp_lt ?_
  generalize nw (wI (wI g8 6 9 0) 6 10 0) (25, 4) 4 = h1 at a9 b9 ⊢
  refine Wp_ck (by rw [a9.1, Kd6]) (Wp_lt ?_)
  have x9 := hung (f := 11) (LR := []) (V := fun I J Z => True) (by omega) P8 (by decide +kernel) fe a9 b9 FrGr.rf fe trivial
  generalize wR h1 6 11 (some 35) = g9 at x9 ⊢
  rw [x9.2.1]
  refine obj2 (m := 2) (t1 := 5) (LR := [((36, 3), 37), ((36, 4), 38), ((36, 0), 10)]) (V := fun I J Z => Z 36 1 = decide ((0 : Int) = 1) ∧ Z 36 2 = decide ((1 : Int) = 1)) x9.1 x9.2.1 x9.2.2.1 (by omega) Kd6 Kd36 (by decide +kernel) (by decide +kernel) (fun h1 a => ?_) (fun g10 x10 => ?_)
  · rw [(a.2.2.1 6 (by omega)).2.2.2, x9.2.2.1 (1, 10) (by decide +kernel)]
    have cc := (vaInit (n := 37) (w := 0) (m := 1) a.2.1 (by omega) (by rw [a.1]; exact Kd36) (by rw [a.1]; exact Kd37) (by rw [a.1]; exact Kd38) (by omega) (by omega) : Wp (Va_init N 36 (some 10) (iv 0) (iv 1) h1) _)
    simp only [← il0, ← il1] at cc
    refine Wp_mono cc ?_
    rintro - h5 ⟨fr, r1, r2, r3, v1, v2⟩
    exact ⟨fr.up (fun b z => by omega), List.forall_mem_cons.mpr ⟨r1, List.forall_mem_cons.mpr ⟨r2, List.forall_mem_cons.mpr ⟨r3, fe⟩⟩⟩, ⟨v1, v2⟩⟩
  rw [x10.2.1]
  refine obj2 (m := 2) (t1 := 5) (LR := [((39, 3), 40), ((39, 4), 41), ((39, 0), 10)]) (V := fun I J Z => Z 39 1 = decide ((1 : Int) = 1) ∧ Z 39 2 = decide ((1 : Int) = 1)) x10.1 x10.2.1 x10.2.2.1 (by omega) Kd6 Kd39 (by decide +kernel) (by decide +kernel) (fun h1 a => ?_) (fun g11 x11 => ?_)
  · rw [(a.2.2.1 6 (by omega)).2.2.2, x10.2.2.1 (1, 10) (by decide +kernel)]
    have cc := (vaInit (n := 40) (w := 1) (m := 1) a.2.1 (by omega) (by rw [a.1]; exact Kd39) (by rw [a.1]; exact Kd40) (by rw [a.1]; exact Kd41) (by omega) (by omega) : Wp (Va_init N 39 (some 10) (iv 1) (iv 1) h1) _)
    simp only [← il0, ← il1] at cc
    refine Wp_mono cc ?_
    rintro - h5 ⟨fr, r1, r2, r3, v1, v2⟩
    exact ⟨fr.up (fun b z => by omega), List.forall_mem_cons.mpr ⟨r1, List.forall_mem_cons.mpr ⟨r2, List.forall_mem_cons.mpr ⟨r3, fe⟩⟩⟩, ⟨v1, v2⟩⟩
  rw [x11.2.1]
  refine obj2 (m := 2) (t1 := 5) (LR := [((42, 3), 43), ((42, 4), 44), ((42, 0), 10)]) (V := fun I J Z => Z 42 1 = decide ((0 : Int) = 1) ∧ Z 42 2 = decide ((0 : Int) = 1)) x11.1 x11.2.1 x11.2.2.1 (by omega) Kd6 Kd42 (by decide +kernel) (by decide +kernel) (fun h1 a => ?_) (fun g12 x12 => ?_)
  · rw [(a.2.2.1 6 (by omega)).2.2.2, x11.2.2.1 (1, 10) (by decide +kernel)]
    have cc := (vaInit (n := 43) (w := 0) (m := 0) a.2.1 (by omega) (by rw [a.1]; exact Kd42) (by rw [a.1]; exact Kd43) (by rw [a.1]; exact Kd44) (by omega) (by omega) : Wp (Va_init N 42 (some 10) (iv 0) (iv 0) h1) _)
    simp only [← il0, ← il1] at cc
    refine Wp_mono cc ?_
    rintro - h5 ⟨fr, r1, r2, r3, v1, v2⟩
    exact ⟨fr.up (fun b z => by omega), List.forall_mem_cons.mpr ⟨r1, List.forall_mem_cons.mpr ⟨r2, List.forall_mem_cons.mpr ⟨r3, fe⟩⟩⟩, ⟨v1, v2⟩⟩
  rw [x12.2.1]
  refine obj2 (m := 3) (t1 := 64) (LR := [((45, 1), 46), ((45, 5), 47), ((45, 6), 48), ((45, 0), 10)]) (V := fun I J Z => I 45 7 = 0) x12.1 x12.2.1 x12.2.2.1 (by omega) Kd6 Kd45 (by decide +kernel) (by decide +kernel) (fun h1 a => ?_) (fun g13 x13 => ?_)
  · rw [(a.2.2.1 6 (by omega)).2.2.2, x12.2.2.1 (1, 10) (by decide +kernel)]
    refine Wp_mono (meInit (n := 46) a.2.1 (by omega) (by rw [a.1]; exact Kd45) (by rw [a.1]; exact Kd46) (by rw [a.1]; exact Kd47) (by rw [a.1]; exact Kd48)) ?_
    rintro - h5 ⟨fr, r1, r2, r3, r4, v1⟩
    exact ⟨fr.up (fun b z => by omega), List.forall_mem_cons.mpr ⟨r1, List.forall_mem_cons.mpr ⟨r2, List.forall_mem_cons.mpr ⟨r3, List.forall_mem_cons.mpr ⟨r4, fe⟩⟩⟩⟩, v1⟩
  rw [x13.2.1]
  refine obj2 (m := 2) (t1 := 0) (LR := [((49, 3), 50), ((49, 4), 51), ((49, 0), 10), ((49, 1), 45)]) (V := fun I J Z => True) x13.1 x13.2.1 x13.2.2.1 (by omega) Kd6 Kd49 (by decide +kernel) (by decide +kernel) (fun h1 a => ?_) (fun g14 x14 => ?_)
  · rw [(a.2.2.1 6 (by omega)).2.2.2, x13.2.2.1 (1, 10) (by decide +kernel), x13.2.2.1 (15, 45) (by decide +kernel)]
    refine Wp_mono (rdInit (n := 50) a.2.1 (by omega) (by rw [a.1]; exact Kd49) (by rw [a.1]; exact Kd50) (by rw [a.1]; exact Kd51)) ?_
    rintro - h5 ⟨fr, r1, r2, r3, r4, -⟩
    exact ⟨fr.up (fun b z => by omega), List.forall_mem_cons.mpr ⟨r1, List.forall_mem_cons.mpr ⟨r2, List.forall_mem_cons.mpr ⟨r3, List.forall_mem_cons.mpr ⟨r4, fe⟩⟩⟩⟩, trivial⟩
  rw [x14.2.1]
  refine obj2 (m := 3) (t1 := 491) (LR := [((52, 0), 53), ((52, 2), 54), ((52, 3), 55), ((52, 1), 10)]) (V := fun I J Z => True) x14.1 x14.2.1 x14.2.2.1 (by omega) Kd6 Kd52 (by decide +kernel) (by decide +kernel) (fun h1 a => ?_) (fun g15 x15 => ?_)
  · rw [(a.2.2.1 6 (by omega)).2.2.2, x14.2.2.1 (1, 10) (by decide +kernel)]
    refine Wp_mono (shInit (n := 53) a.2.1 (by omega) (by rw [a.1]; exact Kd52) (by rw [a.1]; exact Kd53) (by rw [a.1]; exact Kd54) (by rw [a.1]; exact Kd55)) ?_
    rintro - h5 ⟨fr, r1, r2, r3, r4⟩
    exact ⟨fr.up (fun b z => by omega), List.forall_mem_cons.mpr ⟨r1, List.forall_mem_cons.mpr ⟨r2, List.forall_mem_cons.mpr ⟨r3, List.forall_mem_cons.mpr ⟨r4, fe⟩⟩⟩⟩, trivial⟩
  exact go g0 g1 g2 g3 g4 g5 g6 g7 g8 g9 g10 g11 g12 g13 g14 g15 x0 x1 x2 x3 x4 x5 x6 x7 x8 x9 x10 x11 x12 x13 x14 x15
