/-! THE PURE PROOFS, 9A6: the start: every pointer of the class (printed). -/
theorem PtO.app {a b : List ((Nat × Nat) × Nat)} {h : PH} (x : PtO a h) (y : PtO b h) : PtO (a ++ b) h := fun q hq => by
  rcases List.mem_append.mp hq with z | z
  · exact x q z
  · exact y q z
theorem PtO.map {a i v : Nat → Nat} {m : Nat} {h : PH} (x : ∀ j, j < m → hR h (a j) (i j) = some (v j)) : PtO ((List.range m).map (fun j => ((a j, i j), v j))) h := fun q hq => by
  obtain ⟨j, hj, rfl⟩ := List.mem_map.mp hq
  exact x j (List.mem_range.mp hj)
theorem P6.o {L : List (Nat × Nat)} {h : PH} (x : P6 L h) : PtO (L.map (fun q => ((6, q.1), q.2))) h := fun q hq => by
  obtain ⟨r, hr, rfl⟩ := List.mem_map.mp hq
  exact x r hr
def PFin : List ((Nat × Nat) × Nat) := (([(17, 52), (16, 49), (15, 45), (14, 42), (13, 39), (12, 36), (11, 35), (8, 34), (7, 33), (6, 32), (5, 28), (4, 25), (3, 22), (2, 16), (1, 10), (0, 7)] : List (Nat × Nat)).map (fun q => ((6, q.1), q.2))) ++ (([((7, 0), 8), ((7, 9), 9)] : List ((Nat × Nat) × Nat))) ++ (([((10, 14), 11), ((10, 15), 12), ((10, 16), 13), ((10, 17), 14), ((10, 18), 15)] : List ((Nat × Nat) × Nat))) ++ (([((16, 14), 17), ((16, 15), 18), ((16, 16), 19), ((16, 17), 20), ((16, 18), 21)] : List ((Nat × Nat) × Nat))) ++ (([((22, 0), 23), ((22, 1), 24)] : List ((Nat × Nat) × Nat))) ++ (([((25, 0), 26), ((25, 1), 27)] : List ((Nat × Nat) × Nat))) ++ (([((28, 3), 29), ((28, 4), 30), ((28, 5), 31), ((28, 0), 7), ((28, 1), 16), ((28, 2), 25)] : List ((Nat × Nat) × Nat))) ++ (([((36, 3), 37), ((36, 4), 38), ((36, 0), 10)] : List ((Nat × Nat) × Nat))) ++ (([((39, 3), 40), ((39, 4), 41), ((39, 0), 10)] : List ((Nat × Nat) × Nat))) ++ (([((42, 3), 43), ((42, 4), 44), ((42, 0), 10)] : List ((Nat × Nat) × Nat))) ++ (([((45, 1), 46), ((45, 5), 47), ((45, 6), 48), ((45, 0), 10)] : List ((Nat × Nat) × Nat))) ++ (([((49, 3), 50), ((49, 4), 51), ((49, 0), 10), ((49, 1), 45)] : List ((Nat × Nat) × Nat))) ++ (([((52, 0), 53), ((52, 2), 54), ((52, 3), 55), ((52, 1), 10)] : List ((Nat × Nat) × Nat))) ++ ((List.range 16).map (fun j => ((34, j), 56 + j))) ++ ((List.range 4).map (fun j => ((35, j), 72 + 5 * j))) ++ ((List.range 4).map (fun j => ((72 + 5 * j, 0), 73 + 5 * j))) ++ ((List.range 4).map (fun j => ((72 + 5 * j, 1), 74 + 5 * j))) ++ ((List.range 4).map (fun j => ((74 + 5 * j, 0), 75 + 5 * j))) ++ ((List.range 4).map (fun j => ((74 + 5 * j, 1), 76 + 5 * j)))
theorem pl_fin : ∀ q ∈ PL, q.1.1 < 92 → q ∈ PFin := by decide +kernel
theorem leInitAll {g : GT} {N : Nat} {h0 : PH} {Q : Unit → PH → Prop} (hN1 : 3000 ≤ N) (n0 : hN h0 = 7) (kd : ∀ q ∈ KX, hK h0 q.1 = q.2) (tx : TxW h0) (go : ∀ h2, hK h2 = hK h0 ∧ (hN h2 = 92 ∧ hS h2 = hS h0 + 5205 ∧ hE h2 = hE h0) ∧ (∀ b, b < 6 → hI h2 b = hI h0 b ∧ hR h2 b = hR h0 b) ∧ PtO PFin h2 ∧ (fun I J Z => I 7 1 = 0 ∧ ∀ j, j < 28 → J 9 j = jv (K32 j)) (hI h2) (hJ h2) (hZ h2) ∧ (fun I J Z => (∀ f, f < 13 → I 16 f = iv (cf H1 f)) ∧ I 16 13 = iv 0 ∧ I 17 0 = iv 0 ∧ (∀ m : Nat, 0 < m → m < 4 → I 17 m = iv (wsm H1 m)) ∧ (∀ k, k < 96 → I 18 k = iv (C1 k)) ∧ ∀ q k : Nat, q < 24 → k < 4 → I 19 (4 * q + k) = iv (cw C1 1 q k)) (hI h2) (hJ h2) (hZ h2) ∧ (fun I J Z => Z 36 1 = decide ((0 : Int) = 1) ∧ Z 36 2 = decide ((1 : Int) = 1)) (hI h2) (hJ h2) (hZ h2) ∧ (fun I J Z => Z 39 1 = decide ((1 : Int) = 1) ∧ Z 39 2 = decide ((1 : Int) = 1)) (hI h2) (hJ h2) (hZ h2) ∧ (fun I J Z => Z 42 1 = decide ((0 : Int) = 1) ∧ Z 42 2 = decide ((0 : Int) = 1)) (hI h2) (hJ h2) (hZ h2) ∧ (fun I J Z => I 45 7 = 0) (hI h2) (hJ h2) (hZ h2) → Wp (bd (Le_moveIn N 6 h2) fun _ h7 => some ((), h7)) Q) : Wp (Le_init g N 6 h0) Q := by
  refine leInitObjs hN1 n0 kd tx ?_
  intro g0 g1 g2 g3 g4 g5 g6 g7 g8 g9 g10 g11 g12 g13 g14 g15 x0 x1 x2 x3 x4 x5 x6 x7 x8 x9 x10 x11 x12 x13 x14 x15
  have kk : hK g15 = hK h0 := x15.1
  have kq := fun q hq => (congrFun kk q.1).trans (kd q hq)
  refine nightsB (h0 := g15) x15.2.1 (kq (6, (10, 0)) (by decide +kernel)) (kq (34, (24, 16)) (by decide +kernel)) (x15.2.2.1 (8, 34) (by decide +kernel)) (fun i hi => ?_) (fun hn fn rn => ?_) 16 0 g15 (by omega) FrGr.rf (fun j hj => by omega) N (by omega)
  · have e : ∀ i, i < 16 → (56 + i, ((3, 0) : Nat × Nat)) ∈ KX := by decide +kernel
    exact kq _ (e i hi)
  refine marksB (h0 := hn) (by rw [fn.1.1, x15.2.1]) (by rw [fn.2.1]; exact kq (6, (10, 0)) (by decide +kernel)) (by rw [fn.2.1]; exact kq (35, (25, 4)) (by decide +kernel)) (by rw [(fn.2.2 6 (by omega)).2.2.2]; exact x15.2.2.1 (11, 35) (by decide +kernel)) (fun i hi => ?_) (fun hm fm rm => ?_) 4 0 hn (by omega) FrGr.rf (fun j hj => by omega) N (by omega)
  · have e1 : ∀ i, i < 4 → (72 + 5 * i, ((1, 0) : Nat × Nat)) ∈ KX := by decide +kernel
    have e2 : ∀ i, i < 4 → (73 + 5 * i, ((3, 0) : Nat × Nat)) ∈ KX := by decide +kernel
    have e3 : ∀ i, i < 4 → (74 + 5 * i, ((6, 0) : Nat × Nat)) ∈ KX := by decide +kernel
    have e4 : ∀ i, i < 4 → (75 + 5 * i, ((20, 60) : Nat × Nat)) ∈ KX := by decide +kernel
    have e5 : ∀ i, i < 4 → (76 + 5 * i, ((20, 60) : Nat × Nat)) ∈ KX := by decide +kernel
    rw [fn.2.1]
    exact ⟨kq _ (e1 i hi), kq _ (e2 i hi), kq _ (e3 i hi), kq _ (e4 i hi), kq _ (e5 i hi)⟩
  have t15 := (fn.up (T := (fun b => b = 6 ∨ b = 34 ∨ b = 35 ∨ 56 ≤ b)) (fun b z => by omega)).tr (fm.up (T := (fun b => b = 6 ∨ b = 34 ∨ b = 35 ∨ 56 ≤ b)) (fun b z => by omega))
  have t14 := (x15.2.2.2.2.2.up (T := (fun b => b = 6 ∨ b = 34 ∨ b = 35 ∨ 52 ≤ b)) (fun b z => by omega)).tr (t15.up (T := (fun b => b = 6 ∨ b = 34 ∨ b = 35 ∨ 52 ≤ b)) (fun b z => by omega))
  have t13 := (x14.2.2.2.2.2.up (T := (fun b => b = 6 ∨ b = 34 ∨ b = 35 ∨ 49 ≤ b)) (fun b z => by omega)).tr (t14.up (T := (fun b => b = 6 ∨ b = 34 ∨ b = 35 ∨ 49 ≤ b)) (fun b z => by omega))
  have t12 := (x13.2.2.2.2.2.up (T := (fun b => b = 6 ∨ b = 34 ∨ b = 35 ∨ 45 ≤ b)) (fun b z => by omega)).tr (t13.up (T := (fun b => b = 6 ∨ b = 34 ∨ b = 35 ∨ 45 ≤ b)) (fun b z => by omega))
  have t11 := (x12.2.2.2.2.2.up (T := (fun b => b = 6 ∨ b = 34 ∨ b = 35 ∨ 42 ≤ b)) (fun b z => by omega)).tr (t12.up (T := (fun b => b = 6 ∨ b = 34 ∨ b = 35 ∨ 42 ≤ b)) (fun b z => by omega))
  have t10 := (x11.2.2.2.2.2.up (T := (fun b => b = 6 ∨ b = 34 ∨ b = 35 ∨ 39 ≤ b)) (fun b z => by omega)).tr (t11.up (T := (fun b => b = 6 ∨ b = 34 ∨ b = 35 ∨ 39 ≤ b)) (fun b z => by omega))
  have t9 := (x10.2.2.2.2.2.up (T := (fun b => b = 6 ∨ b = 34 ∨ b = 35 ∨ 36 ≤ b)) (fun b z => by omega)).tr (t10.up (T := (fun b => b = 6 ∨ b = 34 ∨ b = 35 ∨ 36 ≤ b)) (fun b z => by omega))
  have w9 : FrGr (fun b => b = 6 ∨ 35 ≤ b) (1 + 0) 4 g8 g9 := (((FrGr.rf (S := fun b => b = 6 ∨ 35 ≤ b) (h := g8)).wI (a := 6) (i := 9) (v := 0) (Or.inl rfl)).wI (a := 6) (i := 10) (v := 0) (Or.inl rfl)).tr x9.2.2.2.2.2
  have t8 := (w9.up (T := (fun b => b = 6 ∨ b = 34 ∨ b = 35 ∨ 35 ≤ b)) (fun b z => by omega)).tr (t9.up (T := (fun b => b = 6 ∨ b = 34 ∨ b = 35 ∨ 35 ≤ b)) (fun b z => by omega))
  have t7 := (x8.2.2.2.2.2.up (T := (fun b => b = 6 ∨ b = 34 ∨ b = 35 ∨ 34 ≤ b)) (fun b z => by omega)).tr (t8.up (T := (fun b => b = 6 ∨ b = 34 ∨ b = 35 ∨ 34 ≤ b)) (fun b z => by omega))
  have t6 := (x7.2.2.2.2.2.up (T := (fun b => b = 6 ∨ b = 34 ∨ b = 35 ∨ 33 ≤ b)) (fun b z => by omega)).tr (t7.up (T := (fun b => b = 6 ∨ b = 34 ∨ b = 35 ∨ 33 ≤ b)) (fun b z => by omega))
  have t5 := (x6.2.2.2.2.2.up (T := (fun b => b = 6 ∨ b = 34 ∨ b = 35 ∨ 32 ≤ b)) (fun b z => by omega)).tr (t6.up (T := (fun b => b = 6 ∨ b = 34 ∨ b = 35 ∨ 32 ≤ b)) (fun b z => by omega))
  have t4 := (x5.2.2.2.2.2.up (T := (fun b => b = 6 ∨ b = 34 ∨ b = 35 ∨ 28 ≤ b)) (fun b z => by omega)).tr (t5.up (T := (fun b => b = 6 ∨ b = 34 ∨ b = 35 ∨ 28 ≤ b)) (fun b z => by omega))
  have t3 := (x4.2.2.2.2.2.up (T := (fun b => b = 6 ∨ b = 34 ∨ b = 35 ∨ 25 ≤ b)) (fun b z => by omega)).tr (t4.up (T := (fun b => b = 6 ∨ b = 34 ∨ b = 35 ∨ 25 ≤ b)) (fun b z => by omega))
  have t2 := (x3.2.2.2.2.2.up (T := (fun b => b = 6 ∨ b = 34 ∨ b = 35 ∨ 22 ≤ b)) (fun b z => by omega)).tr (t3.up (T := (fun b => b = 6 ∨ b = 34 ∨ b = 35 ∨ 22 ≤ b)) (fun b z => by omega))
  have t1 := (x2.2.2.2.2.2.up (T := (fun b => b = 6 ∨ b = 34 ∨ b = 35 ∨ 16 ≤ b)) (fun b z => by omega)).tr (t2.up (T := (fun b => b = 6 ∨ b = 34 ∨ b = 35 ∨ 16 ≤ b)) (fun b z => by omega))
  have t0 := (x1.2.2.2.2.2.up (T := (fun b => b = 6 ∨ b = 34 ∨ b = 35 ∨ 10 ≤ b)) (fun b z => by omega)).tr (t1.up (T := (fun b => b = 6 ∨ b = 34 ∨ b = 35 ∨ 10 ≤ b)) (fun b z => by omega))
  have tt := (x0.2.2.2.2.2.up (T := fun b => 6 ≤ b) (fun b z => by omega)).tr (t0.up (T := fun b => 6 ≤ b) (fun b z => by omega))
  have p6 : PtO (([(17, 52), (16, 49), (15, 45), (14, 42), (13, 39), (12, 36), (11, 35), (8, 34), (7, 33), (6, 32), (5, 28), (4, 25), (3, 22), (2, 16), (1, 10), (0, 7)] : List (Nat × Nat)).map (fun q => ((6, q.1), q.2))) g15 := x15.2.2.1.o
  have nf6 : ∀ q ∈ ([(17, 52), (16, 49), (15, 45), (14, 42), (13, 39), (12, 36), (11, 35), (8, 34), (7, 33), (6, 32), (5, 28), (4, 25), (3, 22), (2, 16), (1, 10), (0, 7)] : List (Nat × Nat)).map (fun q => ((6, q.1), q.2)), q.1.1 = 6 := by decide +kernel
  have p6m := (p6.gr fn (fun q hq => by have := nf6 q hq; omega)).gr fm (fun q hq => by have := nf6 q hq; omega)
  have r0 := x0.2.2.2.1.gr t0 (by decide +kernel)
  have r1 := x1.2.2.2.1.gr t1 (by decide +kernel)
  have r2 := x2.2.2.2.1.gr t2 (by decide +kernel)
  have r3 := x3.2.2.2.1.gr t3 (by decide +kernel)
  have r4 := x4.2.2.2.1.gr t4 (by decide +kernel)
  have r5 := x5.2.2.2.1.gr t5 (by decide +kernel)
  have r10 := x10.2.2.2.1.gr t10 (by decide +kernel)
  have r11 := x11.2.2.2.1.gr t11 (by decide +kernel)
  have r12 := x12.2.2.2.1.gr t12 (by decide +kernel)
  have r13 := x13.2.2.2.1.gr t13 (by decide +kernel)
  have r14 := x14.2.2.2.1.gr t14 (by decide +kernel)
  have r15 := x15.2.2.2.1.gr t15 (by decide +kernel)
  have rN : PtO ((List.range 16).map (fun j => ((34, j), 56 + j))) hm := PtO.map (a := fun _ => 34) (i := fun j => j) (v := fun j => 56 + j) (fun j hj => by rw [(fm.2.2 34 (by omega)).2.2.2]; exact rn j hj)
  have rM := PtO.map (h := hm) (m := 4) (a := fun _ => 35) (i := fun j => j) (v := fun j => 72 + 5 * j) (fun j hj => (rm j hj).1)
  have rM1 := PtO.map (h := hm) (m := 4) (a := fun j => 72 + 5 * j) (i := fun _ => 0) (v := fun j => 73 + 5 * j) (fun j hj => (rm j hj).2.1)
  have rM2 := PtO.map (h := hm) (m := 4) (a := fun j => 72 + 5 * j) (i := fun _ => 1) (v := fun j => 74 + 5 * j) (fun j hj => (rm j hj).2.2.1)
  have rM3 := PtO.map (h := hm) (m := 4) (a := fun j => 74 + 5 * j) (i := fun _ => 0) (v := fun j => 75 + 5 * j) (fun j hj => (rm j hj).2.2.2.1)
  have rM4 := PtO.map (h := hm) (m := 4) (a := fun j => 74 + 5 * j) (i := fun _ => 1) (v := fun j => 76 + 5 * j) (fun j hj => (rm j hj).2.2.2.2)
  have pf : PtO PFin hm := ((((((((((((((((((p6m).app r0).app r1).app r2).app r3).app r4).app r5).app r10).app r11).app r12).app r13).app r14).app r15).app rN).app rM).app rM1).app rM2).app rM3).app rM4
  exact go hm ⟨tt.2.1, ⟨by rw [tt.1.1, n0], tt.1.2.1, tt.1.2.2⟩, fun b hb => ⟨(tt.2.2 b (by omega)).1, (tt.2.2 b (by omega)).2.2.2⟩, pf, by show hI hm 7 1 = 0 ∧ ∀ j, j < 28 → hJ hm 9 j = jv (K32 j); rw [(t0.2.2 7 (by omega)).1, (t0.2.2 9 (by omega)).2.1]; exact x0.2.2.2.2.1, by show (∀ f, f < 13 → hI hm 16 f = iv (cf H1 f)) ∧ hI hm 16 13 = iv 0 ∧ hI hm 17 0 = iv 0 ∧ (∀ m : Nat, 0 < m → m < 4 → hI hm 17 m = iv (wsm H1 m)) ∧ (∀ k, k < 96 → hI hm 18 k = iv (C1 k)) ∧ ∀ q k : Nat, q < 24 → k < 4 → hI hm 19 (4 * q + k) = iv (cw C1 1 q k); rw [(t2.2.2 16 (by omega)).1, (t2.2.2 17 (by omega)).1, (t2.2.2 18 (by omega)).1, (t2.2.2 19 (by omega)).1]; exact x2.2.2.2.2.1, by show hZ hm 36 1 = decide ((0 : Int) = 1) ∧ hZ hm 36 2 = decide ((1 : Int) = 1); rw [(t10.2.2 36 (by omega)).2.2.1]; exact x10.2.2.2.2.1, by show hZ hm 39 1 = decide ((1 : Int) = 1) ∧ hZ hm 39 2 = decide ((1 : Int) = 1); rw [(t11.2.2 39 (by omega)).2.2.1]; exact x11.2.2.2.2.1, by show hZ hm 42 1 = decide ((0 : Int) = 1) ∧ hZ hm 42 2 = decide ((0 : Int) = 1); rw [(t12.2.2 42 (by omega)).2.2.1]; exact x12.2.2.2.2.1, by show hI hm 45 7 = 0; rw [(t13.2.2 45 (by omega)).1]; exact x13.2.2.2.2.1⟩
