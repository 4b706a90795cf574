/-! THE PURE PROOFS, 95: the law's loop (printed). -/
theorem sel_all : ∀ n : Nat, n < 32 → (iv (n : Int) = 0 ∨ iv (n : Int) = 1 ∨ iv (n : Int) = 2 ∨ iv (n : Int) = 3 ∨ iv (n : Int) = 4 ∨ iv (n : Int) = 5 ∨ iv (n : Int) = 6 ∨ iv (n : Int) = 7 ∨ iv (n : Int) = 8 ∨ iv (n : Int) = 9 ∨ iv (n : Int) = 10 ∨ iv (n : Int) = 11 ∨ iv (n : Int) = 12 ∨ iv (n : Int) = 13 ∨ iv (n : Int) = 14 ∨ iv (n : Int) = 15 ∨ iv (n : Int) = 16 ∨ iv (n : Int) = 17 ∨ iv (n : Int) = 18 ∨ iv (n : Int) = 19 ∨ iv (n : Int) = 20 ∨ iv (n : Int) = 21 ∨ iv (n : Int) = 22 ∨ iv (n : Int) = 23 ∨ iv (n : Int) = 24 ∨ iv (n : Int) = 25 ∨ iv (n : Int) = 26 ∨ iv (n : Int) = 27 ∨ iv (n : Int) = 28 ∨ iv (n : Int) = 29 ∨ iv (n : Int) = 30 ∨ iv (n : Int) = 31) := by decide +kernel
section
variable {N len : Nat} {gt : GT}
set_option maxRecDepth 8000 in
theorem lawStep {c p fu : Nat} {g : Gs} {h : PH} {Q : Bool → PH → Prop} (hN : 24000 ≤ N) (hc : c ≤ 90000) (hl : len ≤ 1000000) (hp : p + 7 ≤ len) (inv : Inv c g len h) (IH : ∀ g2 h2, Inv (c + 128) g2 len h2 → Wp (La_law_b23 gt N fu (some 0) (some 6) (some 92) (some 126) (iv (p : Int) + 7) h2) Q) : Wp (La_law_b23 gt N (fu + 1) (some 0) (some 6) (some 92) (some 126) (iv (p : Int)) h) Q := by
  obtain ⟨x, r, k, kh⟩ := inv
  have s := x.s
  have hn0 := x.2.1
  have i1 : inb (iv (p : Int) + 1) len = true := by
    rw [show (1 : Int32) = iv 1 from iv_lit _, iv_add]
    exact inb_iv (by omega) (by omega) (by omega)
  have i2 : inb (iv (p : Int) + 2) len = true := by
    rw [show (2 : Int32) = iv 2 from iv_lit _, iv_add]
    exact inb_iv (by omega) (by omega) (by omega)
  have i3 : inb (iv (p : Int) + 3) len = true := by
    rw [show (3 : Int32) = iv 3 from iv_lit _, iv_add]
    exact inb_iv (by omega) (by omega) (by omega)
  have i4 : inb (iv (p : Int) + 4) len = true := by
    rw [show (4 : Int32) = iv 4 from iv_lit _, iv_add]
    exact inb_iv (by omega) (by omega) (by omega)
  have i5 : inb (iv (p : Int) + 5) len = true := by
    rw [show (5 : Int32) = iv 5 from iv_lit _, iv_add]
    exact inb_iv (by omega) (by omega) (by omega)
  have i6 : inb (iv (p : Int) + 6) len = true := by
    rw [show (6 : Int32) = iv 6 from iv_lit _, iv_add]
    exact inb_iv (by omega) (by omega) (by omega)
  obtain ⟨z1, e1, b1⟩ := toZ (hI h 0 (ix (iv (p : Int) + 1)))
  obtain ⟨z2, e2, b2⟩ := toZ (hI h 0 (ix (iv (p : Int) + 2)))
  obtain ⟨z3, e3, b3⟩ := toZ (hI h 0 (ix (iv (p : Int) + 3)))
  obtain ⟨z4, e4, b4⟩ := toZ (hI h 0 (ix (iv (p : Int) + 4)))
  rw [La_law_b23]
  refine Wp_bn rfl (Wp_ck (by rw [kh]) ?_)
  refine Wp_ifn (by rw [kh, ofN, show (7 : Int32) = iv 7 from iv_lit _, iv_sub, iv_lt (by omega) (by omega) (by omega) (by omega)]; omega) (Wp_ck (by rw [kh]; exact inb_iv (by omega) (by omega) (by omega)) ?_)
  obtain ⟨n, hn, es⟩ := sel32 (hI h 0 (ix (iv (p : Int))))
  rw [es]
  refine Wp_ifn (by rw [iv_to (by omega) (by omega)]; omega) ?_
  refine Wp_if (fun _ => ?_) (fun n0 => ?_)
  · refine Wp_ck (by rw [kh]; exact i1) (Wp_ck (by rw [kh]; exact i2) (Wp_ck (by rw [kh]; exact i3) (Wp_ck (by rw [kh]; exact i4) (Wp_ck (by rw [kh]; exact i5) (Wp_ck (by rw [kh]; exact i6) (Wp_bn rfl (Wp_ck (by rw [k6 s]) ?_)))))))
    refine Wp_bd2 (leFeedL (by omega) x) ?_
    rintro v h2 ⟨rfl, y, f⟩
    have q := (f.2.2.2 0 (by omega)).1
    have kk : hK h2 0 = (26, len) := (f.2.2.1 0 (by omega)).trans kh
    have y2 := r.cf f
    refine Wp_ck (by rw [kk]) (Wp_ck (by rw [kk]; exact i1) (Wp_ck (by rw [kk]; exact i2) (Wp_ck (by rw [kk]; exact i3) (Wp_ck (by rw [kk]; exact i4) (Wp_ck (by rw [kk]; exact i5) (Wp_ck (by rw [kk]; exact i6) (Wp_bn rfl (Wp_ck (by rw [k92 y2.s]) ?_))))))))
    rw [q]
    refine Wp_bd2 (moFeedR (by omega) y2) ?_
    rintro v h3 ⟨rfl, z, mf⟩
    exact Wp_ifp rfl (lawGo IH (y.mono (by omega)) kk z mf (gFeed_ok k))
  refine Wp_if (fun _ => ?_) (fun n1 => ?_)
  · refine Wp_bn rfl (Wp_ck (by rw [k6 s]) ?_)
    refine Wp_bd2 (leHouseL (by omega) x) ?_
    rintro v h2 ⟨rfl, y, f⟩
    have q := (f.2.2.2 0 (by omega)).1
    have kk : hK h2 0 = (26, len) := (f.2.2.1 0 (by omega)).trans kh
    have y2 := r.cf f
    refine Wp_bn rfl (Wp_ck (by rw [k92 y2.s]) ?_)
    refine Wp_bd2 (moHouseM (by omega) y2 k) ?_
    rintro v h3 ⟨rfl, z, mf⟩
    exact Wp_ifp rfl (lawGo IH (y.mono (by omega)) kk z mf (gHou_ok (N := N) (by omega) x r k))
  refine Wp_if (fun _ => ?_) (fun n2 => ?_)
  · refine Wp_bn rfl (Wp_ck (by rw [k6 s]) ?_)
    refine Wp_bd2 (leEvenL (by omega) x) ?_
    rintro v h2 ⟨rfl, y, f⟩
    have q := (f.2.2.2 0 (by omega)).1
    have kk : hK h2 0 = (26, len) := (f.2.2.1 0 (by omega)).trans kh
    have y2 := r.cf f
    refine Wp_bn rfl (Wp_ck (by rw [k92 y2.s]) ?_)
    refine Wp_bd2 (moEvenM (by omega) y2 k) ?_
    rintro v h3 ⟨rfl, z, mf⟩
    exact Wp_ifp rfl (lawGo IH (y.mono (by omega)) kk z mf (gEve_ok k))
  refine Wp_if (fun _ => ?_) (fun n3 => ?_)
  · refine Wp_ck (by rw [kh]; exact i1) (Wp_ck (by rw [kh]; exact i2) (Wp_bn rfl (Wp_ck (by rw [k6 s]) ?_)))
    rw [e1, e2]
    refine Wp_bd2 (leCallsL x k b1 b2) ?_
    rintro v h2 ⟨rfl, y, f⟩
    have q := (f.2.2.2 0 (by omega)).1
    have kk : hK h2 0 = (26, len) := (f.2.2.1 0 (by omega)).trans kh
    have y2 := r.cf f
    refine Wp_ck (by rw [kk]) (Wp_ck (by rw [kk]; exact i1) (Wp_ck (by rw [kk]; exact i2) (Wp_bn rfl (Wp_ck (by rw [k92 y2.s]) ?_))))
    rw [q, e1, e2]
    refine Wp_bd2 (moCallsM y2 k b1 b2) ?_
    rintro v h3 ⟨rfl, z, mf⟩
    exact Wp_ifp rfl (lawGo IH (y.mono (by omega)) kk z mf (k))
  refine Wp_if (fun _ => ?_) (fun n4 => ?_)
  · refine Wp_ck (by rw [kh]; exact i1) (Wp_bn rfl (Wp_ck (by rw [k6 s]) ?_))
    rw [e1]
    refine Wp_bd2 (leComeL x k b1) ?_
    rintro v h2 ⟨rfl, y, f⟩
    have q := (f.2.2.2 0 (by omega)).1
    have kk : hK h2 0 = (26, len) := (f.2.2.1 0 (by omega)).trans kh
    have y2 := r.cf f
    refine Wp_ck (by rw [kk]) (Wp_ck (by rw [kk]; exact i1) (Wp_bn rfl (Wp_ck (by rw [k92 y2.s]) ?_)))
    rw [q, e1]
    refine Wp_bd2 (moComeM (by omega) y2 k b1) ?_
    rintro v h3 ⟨rfl, z, mf⟩
    exact Wp_ifp rfl (lawGo IH (y.mono (by omega)) kk z mf (gCome_ok k))
  refine Wp_if (fun _ => ?_) (fun n5 => ?_)
  · refine Wp_ck (by rw [kh]; exact i1) ?_
    rw [e1]
    refine Wp_bd2 (la_give hN hc x k b1) ?_
    rintro r1 h2 pp
    obtain ⟨-, y, yr, k0, q⟩ := id pp
    have kk := k0.trans kh
    have y2 := yr r
    refine Wp_ck (by rw [kk]) (Wp_ck (by rw [kk]; exact i1) (Wp_bn rfl (Wp_ck (by rw [k92 y2.s]) ?_)))
    rw [q, e1]
    refine Wp_bd2 (moGiveM (by omega) y2 k b1) ?_
    rintro v h3 t
    exact lawT pp t (lawGo IH (y.mono (by omega)) kk t.2.1 t.2.2 (gGive_ok k))
  refine Wp_if (fun _ => ?_) (fun n6 => ?_)
  · refine Wp_bn rfl (Wp_ck (by rw [k6 s]) ?_)
    refine Wp_bd2 (leQuarterL x k) ?_
    rintro v h2 ⟨rfl, y, f⟩
    have q := (f.2.2.2 0 (by omega)).1
    have kk : hK h2 0 = (26, len) := (f.2.2.1 0 (by omega)).trans kh
    have y2 := r.cf f
    refine Wp_bn rfl (Wp_ck (by rw [k92 y2.s]) ?_)
    refine Wp_bd2 (moQuarterM (by omega) y2 k) ?_
    rintro v h3 ⟨rfl, z, mf⟩
    exact Wp_ifp rfl (lawGo IH (y.mono (by omega)) kk z mf (gQuarter_ok k))
  refine Wp_if (fun _ => ?_) (fun n7 => ?_)
  · refine Wp_bn rfl (Wp_ck (by rw [k6 s]) ?_)
    refine Wp_bd2 (leOffL x k) ?_
    rintro v h2 ⟨rfl, y, f⟩
    have q := (f.2.2.2 0 (by omega)).1
    have kk : hK h2 0 = (26, len) := (f.2.2.1 0 (by omega)).trans kh
    have y2 := r.cf f
    refine Wp_bn rfl (Wp_ck (by rw [k92 y2.s]) ?_)
    refine Wp_bd2 (moOffM (by omega) y2 k) ?_
    rintro v h3 ⟨rfl, z, mf⟩
    exact Wp_ifp rfl (lawGo IH (y.mono (by omega)) kk z mf (gOff_ok k))
  refine Wp_if (fun _ => ?_) (fun n8 => ?_)
  · refine Wp_bn rfl (Wp_ck (by rw [k6 s]) ?_)
    refine Wp_bd2 (leUndoL x k) ?_
    rintro v h2 ⟨rfl, y, f⟩
    have q := (f.2.2.2 0 (by omega)).1
    have kk : hK h2 0 = (26, len) := (f.2.2.1 0 (by omega)).trans kh
    have y2 := r.cf f
    refine Wp_bn rfl (Wp_ck (by rw [k92 y2.s]) ?_)
    refine Wp_bd2 (moUndoM (by omega) y2 k) ?_
    rintro v h3 ⟨rfl, z, mf⟩
    exact Wp_ifp rfl (lawGo IH (y.mono (by omega)) kk z mf (gUndo_ok k))
  refine Wp_if (fun _ => ?_) (fun n9 => ?_)
  · refine Wp_ck (by rw [kh]; exact i1) ?_
    rw [e1]
    refine Wp_bd2 (la_judged hN hc x k b1) ?_
    rintro r1 h2 pp
    obtain ⟨-, y, yr, k0, q⟩ := id pp
    have kk := k0.trans kh
    have y2 := yr r
    refine Wp_ck (by rw [kk]) (Wp_ck (by rw [kk]; exact i1) (Wp_bn rfl (Wp_ck (by rw [k92 y2.s]) ?_)))
    rw [q, e1]
    refine Wp_bd2 (moJudgedM (by omega) y2 k b1) ?_
    rintro v h3 t
    exact lawT pp t (lawGo IH (y.mono (by omega)) kk t.2.1 t.2.2 (k))
  refine Wp_if (fun _ => ?_) (fun n10 => ?_)
  · refine Wp_ck (by rw [kh]; exact i1) (Wp_ck (by rw [kh]; exact i2) (Wp_ck (by rw [kh]; exact i3) (Wp_ck (by rw [kh]; exact i4) ?_)))
    refine Wp_if (fun b => ?_) (fun b => ?_)
    · unfold La_law_b603
      rw [e1, e2, e3]
      have lv := la_value (b := 0) hN hc x k b1 b2 b3 (by omega)
      rw [← show (0 : Int32) = iv 0 from iv_lit _] at lv
      refine Wp_bd2 lv ?_
      rintro r1 h2 pp
      obtain ⟨-, y, yr, k0, q⟩ := id pp
      have kk := k0.trans kh
      have y2 := yr r
      refine Wp_bn rfl (Wp_ck (by rw [kk]) (Wp_ck (by rw [kk]; exact i1) (Wp_ck (by rw [kk]; exact i2) (Wp_ck (by rw [kk]; exact i3) (Wp_ck (by rw [kk]; exact i4) ?_)))))
      refine Wp_ifp (by rw [q]; exact b) ?_
      unfold La_law_b642
      rw [q, e1, e2, e3]
      have mv := moValueM (N := N) (w := 0) (by omega) y2 k b1 b2 b3 (by omega)
      rw [← show (0 : Int32) = iv 0 from iv_lit _] at mv
      refine Wp_bn rfl (Wp_ck (by rw [k92 y2.s]) (Wp_bd2 mv ?_))
      rintro v h3 t
      refine Wp_bn rfl ?_
      exact lawT pp t (lawGo IH (y.mono (by omega)) kk t.2.1 t.2.2 k)
    · unfold La_law_b603
      rw [e1, e2, e3]
      have lv := la_value (b := 1) hN hc x k b1 b2 b3 (by omega)
      rw [← show (1 : Int32) = iv 1 from iv_lit _] at lv
      refine Wp_bd2 lv ?_
      rintro r1 h2 pp
      obtain ⟨-, y, yr, k0, q⟩ := id pp
      have kk := k0.trans kh
      have y2 := yr r
      refine Wp_bn rfl (Wp_ck (by rw [kk]) (Wp_ck (by rw [kk]; exact i1) (Wp_ck (by rw [kk]; exact i2) (Wp_ck (by rw [kk]; exact i3) (Wp_ck (by rw [kk]; exact i4) ?_)))))
      refine Wp_ifn (by rw [q]; exact b) ?_
      unfold La_law_b642
      rw [q, e1, e2, e3]
      have mv := moValueM (N := N) (w := 1) (by omega) y2 k b1 b2 b3 (by omega)
      rw [← show (1 : Int32) = iv 1 from iv_lit _] at mv
      refine Wp_bn rfl (Wp_ck (by rw [k92 y2.s]) (Wp_bd2 mv ?_))
      rintro v h3 t
      refine Wp_bn rfl ?_
      exact lawT pp t (lawGo IH (y.mono (by omega)) kk t.2.1 t.2.2 k)
  refine Wp_if (fun _ => ?_) (fun n11 => ?_)
  · refine Wp_ck (by rw [kh]; exact i1) (Wp_bn rfl (Wp_ck (by rw [k6 s]) ?_))
    rw [e1]
    refine Wp_bd2 (leBestL hN x k b1) ?_
    rintro v h2 ⟨rfl, y, f⟩
    have q := (f.2.2.2 0 (by omega)).1
    have kk : hK h2 0 = (26, len) := (f.2.2.1 0 (by omega)).trans kh
    have y2 := r.cf f
    refine Wp_ck (by rw [kk]) (Wp_ck (by rw [kk]; exact i1) (Wp_bn rfl (Wp_ck (by rw [k92 y2.s]) ?_)))
    rw [q, e1]
    refine Wp_bd2 (moBestM (by omega) y2 k b1) ?_
    rintro v h3 ⟨rfl, z, mf⟩
    exact Wp_ifp rfl (lawGo IH (y.mono (by omega)) kk z mf (k))
  refine Wp_if (fun _ => ?_) (fun n12 => ?_)
  · refine Wp_ck (by rw [kh]; exact i1) ?_
    rw [e1]
    refine Wp_bd2 (la_may hN hc x k b1) ?_
    rintro r1 h2 pp
    obtain ⟨-, y, yr, k0, q⟩ := id pp
    have kk := k0.trans kh
    have y2 := yr r
    refine Wp_ck (by rw [kk]) (Wp_ck (by rw [kk]; exact i1) (Wp_bn rfl (Wp_ck (by rw [k92 y2.s]) ?_)))
    rw [q, e1]
    refine Wp_bd2 (moMayM (by omega) y2 k b1) ?_
    rintro v h3 t
    exact lawT pp t (lawGo IH (y.mono (by omega)) kk t.2.1 t.2.2 (k))
  refine Wp_if (fun _ => ?_) (fun n13 => ?_)
  · refine Wp_bn rfl (Wp_ck (by rw [k6 s]) ?_)
    refine Wp_bd2 (leStayL hN x k) ?_
    rintro v h2 ⟨rfl, y, f⟩
    have q := (f.2.2.2 0 (by omega)).1
    have kk : hK h2 0 = (26, len) := (f.2.2.1 0 (by omega)).trans kh
    have y2 := r.cf f
    refine Wp_bn rfl (Wp_ck (by rw [k92 y2.s]) ?_)
    refine Wp_bd2 (moStayM (by omega) y2 k) ?_
    rintro v h3 ⟨rfl, z, mf⟩
    exact Wp_ifp rfl (lawGo IH (y.mono (by omega)) kk z mf (k))
  refine Wp_if (fun _ => ?_) (fun n14 => ?_)
  · refine Wp_ck (by rw [kh]; exact i1) ?_
    rw [e1]
    refine Wp_bd2 (la_mean hN hc x k b1) ?_
    rintro r1 h2 pp
    obtain ⟨-, y, yr, k0, q⟩ := id pp
    have kk := k0.trans kh
    have y2 := yr r
    refine Wp_ck (by rw [kk]) (Wp_ck (by rw [kk]; exact i1) (Wp_bn rfl (Wp_ck (by rw [k92 y2.s]) ?_)))
    rw [q, e1]
    refine Wp_bd2 (moMeanM (by omega) y2 k b1) ?_
    rintro v h3 t
    exact lawT pp t (lawGo IH (y.mono (by omega)) kk t.2.1 t.2.2 (k))
  refine Wp_if (fun _ => ?_) (fun n15 => ?_)
  · refine Wp_ck (by rw [kh]; exact i1) ?_
    rw [e1]
    refine Wp_bd2 (la_left hN hc x k b1) ?_
    rintro r1 h2 pp
    obtain ⟨-, y, yr, k0, q⟩ := id pp
    have kk := k0.trans kh
    have y2 := yr r
    refine Wp_ck (by rw [kk]) (Wp_ck (by rw [kk]; exact i1) (Wp_bn rfl (Wp_ck (by rw [k92 y2.s]) ?_)))
    rw [q, e1]
    refine Wp_bd2 (moLeftM (by omega) y2 k b1) ?_
    rintro v h3 t
    exact lawT pp t (lawGo IH (y.mono (by omega)) kk t.2.1 t.2.2 (k))
  refine Wp_if (fun _ => ?_) (fun n16 => ?_)
  · refine Wp_ck (by rw [kh]; exact i1) (Wp_bn rfl (Wp_ck (by rw [k6 s]) ?_))
    rw [e1]
    refine Wp_bd2 (leCloseL hN hc x k b1) ?_
    rintro v h2 ⟨rfl, y, f⟩
    have q := (f.2.2.2 0 (by omega)).1
    have kk : hK h2 0 = (26, len) := (f.2.2.1 0 (by omega)).trans kh
    have y2 := r.cf f
    refine Wp_ck (by rw [kk]) (Wp_ck (by rw [kk]; exact i1) (Wp_bn rfl (Wp_ck (by rw [k92 y2.s]) ?_)))
    rw [q, e1]
    refine Wp_bd2 (moCloseM (by omega) y2 k b1) ?_
    rintro v h3 ⟨rfl, z, mf⟩
    exact Wp_ifp rfl (lawGo IH (y.mono (by omega)) kk z mf (k))
  refine Wp_if (fun _ => ?_) (fun n17 => ?_)
  · refine Wp_ck (by rw [kh]; exact i1) (Wp_bn rfl (Wp_ck (by rw [k6 s]) ?_))
    rw [e1]
    refine Wp_bd2 (leSurelyL hN x k b1) ?_
    rintro v h2 ⟨rfl, y, f⟩
    have q := (f.2.2.2 0 (by omega)).1
    have kk : hK h2 0 = (26, len) := (f.2.2.1 0 (by omega)).trans kh
    have y2 := r.cf f
    refine Wp_ck (by rw [kk]) (Wp_ck (by rw [kk]; exact i1) (Wp_bn rfl (Wp_ck (by rw [k92 y2.s]) ?_)))
    rw [q, e1]
    refine Wp_bd2 (moSurelyM (by omega) y2 k b1) ?_
    rintro v h3 ⟨rfl, z, mf⟩
    exact Wp_ifp rfl (lawGo IH (y.mono (by omega)) kk z mf (k))
  refine Wp_if (fun _ => ?_) (fun n18 => ?_)
  · refine Wp_ck (by rw [kh]; exact i1) (Wp_bn rfl (Wp_ck (by rw [k6 s]) ?_))
    rw [e1]
    refine Wp_bd2 (leMostL hN x k b1) ?_
    rintro v h2 ⟨rfl, y, f⟩
    have q := (f.2.2.2 0 (by omega)).1
    have kk : hK h2 0 = (26, len) := (f.2.2.1 0 (by omega)).trans kh
    have y2 := r.cf f
    refine Wp_ck (by rw [kk]) (Wp_ck (by rw [kk]; exact i1) (Wp_bn rfl (Wp_ck (by rw [k92 y2.s]) ?_)))
    rw [q, e1]
    refine Wp_bd2 (moMostM (by omega) y2 k b1) ?_
    rintro v h3 ⟨rfl, z, mf⟩
    exact Wp_ifp rfl (lawGo IH (y.mono (by omega)) kk z mf (k))
  refine Wp_if (fun _ => ?_) (fun n19 => ?_)
  · refine Wp_ck (by rw [kh]; exact i1) (Wp_ck (by rw [kh]; exact i2) (Wp_bn rfl (Wp_ck (by rw [k6 s]) ?_)))
    rw [e1, e2]
    refine Wp_bd2 (leEnoughL hN x k b1 b2) ?_
    rintro v h2 ⟨rfl, y, f⟩
    have q := (f.2.2.2 0 (by omega)).1
    have kk : hK h2 0 = (26, len) := (f.2.2.1 0 (by omega)).trans kh
    have y2 := r.cf f
    refine Wp_ck (by rw [kk]) (Wp_ck (by rw [kk]; exact i1) (Wp_ck (by rw [kk]; exact i2) (Wp_bn rfl (Wp_ck (by rw [k92 y2.s]) ?_))))
    rw [q, e1, e2]
    refine Wp_bd2 (moEnoughM (by omega) y2 k b1 b2) ?_
    rintro v h3 ⟨rfl, z, mf⟩
    exact Wp_ifp rfl (lawGo IH (y.mono (by omega)) kk z mf (k))
  refine Wp_if (fun _ => ?_) (fun n20 => ?_)
  · refine Wp_ck (by rw [kh]; exact i1) (Wp_bn rfl (Wp_ck (by rw [k6 s]) ?_))
    rw [e1]
    refine Wp_bd2 (lePeakL hN x k b1) ?_
    rintro v h2 ⟨rfl, y, f⟩
    have q := (f.2.2.2 0 (by omega)).1
    have kk : hK h2 0 = (26, len) := (f.2.2.1 0 (by omega)).trans kh
    have y2 := r.cf f
    refine Wp_ck (by rw [kk]) (Wp_ck (by rw [kk]; exact i1) (Wp_bn rfl (Wp_ck (by rw [k92 y2.s]) ?_)))
    rw [q, e1]
    refine Wp_bd2 (moPeakM (by omega) y2 k b1) ?_
    rintro v h3 ⟨rfl, z, mf⟩
    exact Wp_ifp rfl (lawGo IH (y.mono (by omega)) kk z mf (k))
  refine Wp_if (fun _ => ?_) (fun n21 => ?_)
  · refine Wp_bn rfl (Wp_ck (by rw [k6 s]) ?_)
    refine Wp_bd2 (leHabitsL hN hc x k) ?_
    rintro v h2 ⟨rfl, y, f⟩
    have q := (f.2.2.2 0 (by omega)).1
    have kk : hK h2 0 = (26, len) := (f.2.2.1 0 (by omega)).trans kh
    have y2 := r.cf f
    refine Wp_bn rfl (Wp_ck (by rw [k92 y2.s]) ?_)
    refine Wp_bd2 (moHabitsM (by omega) y2 k) ?_
    rintro v h3 ⟨rfl, z, mf⟩
    exact Wp_ifp rfl (lawGo IH (y.mono (by omega)) kk z mf (k))
  refine Wp_if (fun _ => ?_) (fun n22 => ?_)
  · refine Wp_bd2 (la_talk hN hc x k) ?_
    rintro r1 h2 pp
    obtain ⟨-, y, yr, k0, q⟩ := id pp
    have kk := k0.trans kh
    have y2 := yr r
    refine Wp_bn rfl (Wp_ck (by rw [k92 y2.s]) ?_)
    refine Wp_bd2 (moTalkM (by omega) y2 k) ?_
    rintro v h3 t
    exact lawT pp t (lawGo IH (y.mono (by omega)) kk t.2.1 t.2.2 (k))
  refine Wp_if (fun _ => ?_) (fun n23 => ?_)
  · refine Wp_ck (by rw [kh]; exact i1) ?_
    rw [e1]
    refine Wp_bd2 (la_fence hN hc x k b1) ?_
    rintro r1 h2 pp
    obtain ⟨-, y, yr, k0, q⟩ := id pp
    have kk := k0.trans kh
    have y2 := yr r
    refine Wp_ck (by rw [kk]) (Wp_ck (by rw [kk]; exact i1) (Wp_bn rfl (Wp_ck (by rw [k92 y2.s]) ?_)))
    rw [q, e1]
    refine Wp_bd2 (moFenceM (by omega) y2 k b1) ?_
    rintro v h3 t
    exact lawT pp t (lawGo IH (y.mono (by omega)) kk t.2.1 t.2.2 (k))
  refine Wp_if (fun _ => ?_) (fun n24 => ?_)
  · refine Wp_bn rfl (Wp_ck (by rw [k6 s]) ?_)
    refine Wp_bd2 (leRainsL x) ?_
    rintro v h2 ⟨rfl, y, f⟩
    have q := (f.2.2.2 0 (by omega)).1
    have kk : hK h2 0 = (26, len) := (f.2.2.1 0 (by omega)).trans kh
    have y2 := r.cf f
    refine Wp_bn rfl (Wp_ck (by rw [k92 y2.s]) ?_)
    refine Wp_bd2 (moRainsM y2) ?_
    rintro v h3 ⟨rfl, z, mf⟩
    exact Wp_ifp rfl (lawGo IH (y.mono (by omega)) kk z mf (k))
  refine Wp_if (fun _ => ?_) (fun n25 => ?_)
  · refine Wp_bd2 (la_tonight hN hc x k) ?_
    rintro r1 h2 pp
    obtain ⟨-, y, yr, k0, q⟩ := id pp
    have kk := k0.trans kh
    have y2 := yr r
    refine Wp_bn rfl (Wp_ck (by rw [k92 y2.s]) ?_)
    refine Wp_bd2 (moTonightM (by omega) y2 k) ?_
    rintro v h3 t
    exact lawT pp t (lawGo IH (y.mono (by omega)) kk t.2.1 t.2.2 (k))
  refine Wp_if (fun _ => ?_) (fun n26 => ?_)
  · refine Wp_ck (by rw [kh]; exact i1) (Wp_ck (by rw [kh]; exact i2) (Wp_ck (by rw [kh]; exact i3) (Wp_ck (by rw [kh]; exact i4) (Wp_bn rfl (Wp_ck (by rw [k6 s]) ?_)))))
    rw [e1, e2, e3, e4]
    refine Wp_bd2 (leReadL hN x k b1 b2 b3 b4) ?_
    rintro v h2 ⟨rfl, y, f⟩
    have q := (f.2.2.2 0 (by omega)).1
    have kk : hK h2 0 = (26, len) := (f.2.2.1 0 (by omega)).trans kh
    have y2 := r.cf f
    refine Wp_ck (by rw [kk]) (Wp_ck (by rw [kk]; exact i1) (Wp_ck (by rw [kk]; exact i2) (Wp_ck (by rw [kk]; exact i3) (Wp_ck (by rw [kk]; exact i4) (Wp_bn rfl (Wp_ck (by rw [k92 y2.s]) ?_))))))
    rw [q, e1, e2, e3, e4]
    refine Wp_bd2 (moReadM hN y2 k b1 b2 b3 b4) ?_
    rintro v h3 ⟨rfl, z, mf⟩
    exact Wp_ifp rfl (lawGo IH (y.mono (by omega)) kk z mf (k))
  refine Wp_if (fun _ => ?_) (fun n27 => ?_)
  · refine Wp_ck (by rw [kh]; exact i1) (Wp_ck (by rw [kh]; exact i2) (Wp_bn rfl (Wp_ck (by rw [k6 s]) ?_)))
    rw [e1, e2]
    refine Wp_bd2 (leSheetsL (by omega) x k b1 b2) ?_
    rintro v h2 ⟨rfl, y, f⟩
    have q := (f.2.2.2 0 (by omega)).1
    have kk : hK h2 0 = (26, len) := (f.2.2.1 0 (by omega)).trans kh
    have y2 := r.cf f
    refine Wp_ck (by rw [kk]) (Wp_ck (by rw [kk]; exact i1) (Wp_ck (by rw [kk]; exact i2) (Wp_bn rfl (Wp_ck (by rw [k92 y2.s]) ?_))))
    rw [q, e1, e2]
    refine Wp_bd2 (moSheetsM (by omega) y2 k b1 b2) ?_
    rintro v h3 ⟨rfl, z, mf⟩
    exact Wp_ifp rfl (lawGo IH (y.mono (by omega)) kk z mf (k))
  refine Wp_if (fun _ => ?_) (fun n28 => ?_)
  · refine Wp_ck (by rw [kh]; exact i1) (Wp_ck (by rw [kh]; exact i2) (Wp_ck (by rw [kh]; exact i3) (Wp_ck (by rw [kh]; exact i4) (Wp_bn rfl (Wp_ck (by rw [k6 s]) ?_)))))
    rw [e1, e2, e3, e4]
    refine Wp_bd2 (leYearsL (by omega) x k b1 b2 b3 b4) ?_
    rintro v h2 ⟨rfl, y, f⟩
    have q := (f.2.2.2 0 (by omega)).1
    have kk : hK h2 0 = (26, len) := (f.2.2.1 0 (by omega)).trans kh
    have y2 := r.cf f
    refine Wp_ck (by rw [kk]) (Wp_ck (by rw [kk]; exact i1) (Wp_ck (by rw [kk]; exact i2) (Wp_ck (by rw [kk]; exact i3) (Wp_ck (by rw [kk]; exact i4) (Wp_bn rfl (Wp_ck (by rw [k92 y2.s]) ?_))))))
    rw [q, e1, e2, e3, e4]
    refine Wp_bd2 (moYearsM (by omega) y2 k b1 b2 b3 b4) ?_
    rintro v h3 ⟨rfl, z, mf⟩
    exact Wp_ifp rfl (lawGo IH (y.mono (by omega)) kk z mf (k))
  refine Wp_if (fun _ => ?_) (fun n29 => ?_)
  · refine Wp_ck (by rw [kh]; exact i1) (Wp_ck (by rw [kh]; exact i2) ?_)
    refine Wp_if (fun b => ?_) (fun b => ?_)
    · unfold La_law_b1371
      rw [e1]
      have lm := leMarkL (N := N) (w := 0) (by omega) x k b1 (by omega)
      rw [← show (0 : Int32) = iv 0 from iv_lit _] at lm
      refine Wp_bn rfl (Wp_ck (by rw [k6 s]) (Wp_bd2 lm ?_))
      rintro v h2 ⟨rfl, y, f⟩
      have q := (f.2.2.2 0 (by omega)).1
      have kk : hK h2 0 = (26, len) := (f.2.2.1 0 (by omega)).trans kh
      have y2 := r.cf f
      refine Wp_bn rfl (Wp_ck (by rw [kk]) (Wp_ck (by rw [kk]; exact i1) (Wp_ck (by rw [kk]; exact i2) ?_)))
      refine Wp_ifp (by rw [q]; exact b) ?_
      unfold La_law_b1395
      rw [q, e1]
      have mm := moMarkM (N := N) (w := 0) (by omega) y2 k b1 (by omega)
      rw [← show (0 : Int32) = iv 0 from iv_lit _] at mm
      refine Wp_bn rfl (Wp_ck (by rw [k92 y2.s]) (Wp_bd2 mm ?_))
      rintro v h3 ⟨rfl, z, mf⟩
      exact Wp_ifp rfl (lawGo IH (y.mono (by omega)) kk z mf (gMark_ok k))
    · unfold La_law_b1371
      rw [e1]
      have lm := leMarkL (N := N) (w := 1) (by omega) x k b1 (by omega)
      rw [← show (1 : Int32) = iv 1 from iv_lit _] at lm
      refine Wp_bn rfl (Wp_ck (by rw [k6 s]) (Wp_bd2 lm ?_))
      rintro v h2 ⟨rfl, y, f⟩
      have q := (f.2.2.2 0 (by omega)).1
      have kk : hK h2 0 = (26, len) := (f.2.2.1 0 (by omega)).trans kh
      have y2 := r.cf f
      refine Wp_bn rfl (Wp_ck (by rw [kk]) (Wp_ck (by rw [kk]; exact i1) (Wp_ck (by rw [kk]; exact i2) ?_)))
      refine Wp_ifn (by rw [q]; exact b) ?_
      unfold La_law_b1395
      rw [q, e1]
      have mm := moMarkM (N := N) (w := 1) (by omega) y2 k b1 (by omega)
      rw [← show (1 : Int32) = iv 1 from iv_lit _] at mm
      refine Wp_bn rfl (Wp_ck (by rw [k92 y2.s]) (Wp_bd2 mm ?_))
      rintro v h3 ⟨rfl, z, mf⟩
      exact Wp_ifp rfl (lawGo IH (y.mono (by omega)) kk z mf (gMark_ok k))
  refine Wp_if (fun _ => ?_) (fun n30 => ?_)
  · refine Wp_bn rfl (Wp_ck (by rw [k6 s]) ?_)
    refine Wp_bd2 (leScoreL x) ?_
    rintro v h2 ⟨rfl, y, f⟩
    have q := (f.2.2.2 0 (by omega)).1
    have kk : hK h2 0 = (26, len) := (f.2.2.1 0 (by omega)).trans kh
    have y2 := r.cf f
    refine Wp_bn rfl (Wp_ck (by rw [k92 y2.s]) ?_)
    refine Wp_bd2 (moScoreM y2) ?_
    rintro v h3 ⟨rfl, z, mf⟩
    exact Wp_ifp rfl (lawGo IH (y.mono (by omega)) kk z mf (k))
  refine Wp_if (fun _ => ?_) (fun n31 => ?_)
  · refine Wp_ck (by rw [kh]; exact i1) (Wp_bn rfl (Wp_ck (by rw [k6 s]) ?_))
    rw [e1]
    refine Wp_bd2 (leCountL x k b1) ?_
    rintro v h2 ⟨rfl, y, f⟩
    have q := (f.2.2.2 0 (by omega)).1
    have kk : hK h2 0 = (26, len) := (f.2.2.1 0 (by omega)).trans kh
    have y2 := r.cf f
    refine Wp_ck (by rw [kk]) (Wp_ck (by rw [kk]; exact i1) (Wp_bn rfl (Wp_ck (by rw [k92 y2.s]) ?_)))
    rw [q, e1]
    refine Wp_bd2 (moCountM y2 b1) ?_
    rintro v h3 ⟨rfl, z, mf⟩
    exact Wp_ifp rfl (lawGo IH (y.mono (by omega)) kk z mf (k))
  exfalso
  rcases sel_all n hn with q | q | q | q | q | q | q | q | q | q | q | q | q | q | q | q | q | q | q | q | q | q | q | q | q | q | q | q | q | q | q | q
  · exact n0 q
  · exact n1 q
  · exact n2 q
  · exact n3 q
  · exact n4 q
  · exact n5 q
  · exact n6 q
  · exact n7 q
  · exact n8 q
  · exact n9 q
  · exact n10 q
  · exact n11 q
  · exact n12 q
  · exact n13 q
  · exact n14 q
  · exact n15 q
  · exact n16 q
  · exact n17 q
  · exact n18 q
  · exact n19 q
  · exact n20 q
  · exact n21 q
  · exact n22 q
  · exact n23 q
  · exact n24 q
  · exact n25 q
  · exact n26 q
  · exact n27 q
  · exact n28 q
  · exact n29 q
  · exact n30 q
  · exact n31 q
theorem lawLoop (hN : 24000 ≤ N) (hl : len ≤ 1000000) : ∀ (m p c : Nat) (g : Gs) (h : PH), len < p + 7 * m + 7 → p ≤ len + 7 → c + 128 * m ≤ 90000 → Inv c g len h → ∀ fuel, m < fuel → Wp (La_law_b23 gt N fuel (some 0) (some 6) (some 92) (some 126) (iv (p : Int)) h) (fun v h2 => v = true ∧ ∃ c g, c ≤ 90000 ∧ LeI c g h2) := by
  intro m
  have stop : ∀ (p c : Nat) (g : Gs) (h : PH) (fu : Nat), len < p + 7 → p ≤ len + 7 → c ≤ 90000 → Inv c g len h → Wp (La_law_b23 gt N (fu + 1) (some 0) (some 6) (some 92) (some 126) (iv (p : Int)) h) (fun v h2 => v = true ∧ ∃ c g, c ≤ 90000 ∧ LeI c g h2) := by
    intro p c g h fu e0 e1 ec inv
    rw [La_law_b23]
    exact Wp_bn rfl (Wp_ck (by rw [inv.2.2.2]) (Wp_ifp (by rw [inv.2.2.2, ofN, show (7 : Int32) = iv 7 from iv_lit _, iv_sub, iv_lt (by omega) (by omega) (by omega) (by omega)]; omega) (Wp_ret ⟨rfl, c, g, ec, inv.1⟩)))
  induction m with
  | zero =>
    intro p c g h e0 e1 e2 inv fuel hf
    obtain ⟨fu, rfl⟩ : ∃ e, fuel = e + 1 := ⟨fuel - 1, by omega⟩
    exact stop p c g h fu (by omega) e1 (by omega) inv
  | succ m ih =>
    intro p c g h e0 e1 e2 inv fuel hf
    obtain ⟨fu, rfl⟩ : ∃ e, fuel = e + 1 := ⟨fuel - 1, by omega⟩
    by_cases d : len < p + 7
    · exact stop p c g h fu d e1 (by omega) inv
    · refine lawStep hN (by omega) hl (by omega) inv (fun g2 h2 i2 => ?_)
      rw [show (7 : Int32) = iv 7 from iv_lit _, iv_add, show (p : Int) + 7 = ((p + 7 : Nat) : Int) from by omega]
      exact ih (p + 7) (c + 128) g2 h2 (by omega) (by omega) (by omega) i2 fu (by omega)
end
