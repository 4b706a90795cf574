/-! THE PURE PROOFS, 3: what the words of the document come to, over integers. A house: H (the reference's row of 18), C (its chances); a night: n (the reference's row of 14). -/
def up (n : Nat → Int) (k : Nat) (v : Int) : Nat → Int := fun j => if j = k then v else n j
theorem up_s (n : Nat → Int) (k : Nat) (v : Int) : up n k v k = v := if_pos rfl
theorem up_n (n : Nat → Int) (k j : Nat) (v : Int) (h : j ≠ k) : up n k v j = n j := if_neg h
def HOK (H C : Nat → Int) : Prop := (1 ≤ H 0 ∧ H 0 ≤ 24) ∧ (0 ≤ H 1 ∧ H 1 ≤ 120) ∧ (0 ≤ H 2 ∧ H 2 ≤ 12) ∧ (0 ≤ H 3 ∧ H 3 ≤ 99) ∧ (0 ≤ H 4 ∧ H 4 ≤ 99) ∧ (0 ≤ H 5 ∧ H 5 ≤ 99) ∧ (0 ≤ H 6 ∧ H 6 ≤ 99) ∧ (0 ≤ H 7 ∧ H 7 ≤ 99) ∧ (0 ≤ H 8 ∧ H 8 ≤ 99) ∧ (0 ≤ H 9 ∧ H 9 ≤ 99) ∧ (0 ≤ H 10 ∧ H 10 ≤ 23) ∧ (0 ≤ H 11 ∧ H 11 ≤ 3) ∧ (0 ≤ H 12 ∧ H 12 ≤ 99) ∧ (0 ≤ H 13 ∧ H 13 ≤ 10) ∧ (0 ≤ H 14 ∧ H 14 ≤ 10) ∧ (0 ≤ H 15 ∧ H 15 ≤ 4) ∧ (H 16 = 0 ∨ H 16 = 1) ∧ (∀ k, k < 96 → 0 ≤ C k ∧ C k ≤ 10) ∧ (∀ q, q < 24 → C (4 * q) + C (4 * q + 1) + C (4 * q + 2) + C (4 * q + 3) = 10)
def ch (C : Nat → Int) (q k : Int) : Int := C (4 * q + k).toNat
def cw (C : Nat → Int) (wet q k : Int) : Int := if wet = 0 then ch C q k else if k = 0 then ch C q 0 + ch C q 1 else if k = 3 then 0 else ch C q (k + 1)
def nob (H : Nat → Int) (q : Int) : Int := if H 16 = 1 ∧ H 10 ≤ q then H 9 else H 8
def wsm (H : Nat → Int) (n : Int) : Int := if n = 1 then H 4 else if n = 2 then H 4 + H 5 else if n = 3 then H 4 + H 5 + H 6 else 0
def isW (H : Nat → Int) (how here : Int) : Int := if 0 < H 11 ∧ 0 < here ∧ H 11 ≤ how ∧ how ≤ 3 then 1 else 0
/-- one caller is given to: worth, toffees, apples, without -/
def gst (H : Nat → Int) (q how : Int) (s : Int × Int × Int × Int) : Int × Int × Int × Int :=
  if how = 4 ∧ 0 < s.2.2.1 then (s.1 + H 3, s.2.1, s.2.2.1 - 1, s.2.2.2)
  else (s.1 + (if (if how = 4 then 0 else min how s.2.1) = 0 then 0 - nob H q else wsm H (if how = 4 then 0 else min how s.2.1)), s.2.1 - (if how = 4 then 0 else min how s.2.1), s.2.2.1, s.2.2.2 + (if (if how = 4 then 0 else min how s.2.1) = 0 then 1 else 0))
def gN (H : Nat → Int) (q how t a : Int) : Nat → Int × Int × Int × Int
  | 0 => (0, t, a, 0)
  | k + 1 => gst H q how (gN H q how t a k)
def gv (H : Nat → Int) (q here how t a : Int) : Int := (gN H q how t a here.toNat).1
def gt (H : Nat → Int) (q here how t a : Int) : Int := (gN H q how t a here.toNat).2.1
def ga (H : Nat → Int) (q here how t a : Int) : Int := (gN H q how t a here.toNat).2.2.1
def glk (H : Nat → Int) (q here how t a : Int) : Int := (gN H q how t a here.toNat).2.2.2
def off0 (H : Nat → Int) (q t : Int) : Int := -1000 * (H 12 * (H 0 - q) + H 7 * t)
def wv (H : Nat → Int) (mute : Int) (nx : Int → Int → Int → Int) (q here t a how : Int) : Int := 1000 * gv H q here how t a + nx (gt H q here how t a) (ga H q here how t a) (if mute = 0 then isW H how here else 0)
def gr (H : Nat → Int) (mute : Int) (nx : Int → Int → Int → Int) (q here t a : Int) : Int :=
  max (max (max (max (wv H mute nx q here t a 0) (wv H mute nx q here t a 1)) (wv H mute nx q here t a 2)) (wv H mute nx q here t a 3)) (wv H mute nx q here t a 4)
def lit (H C : Nat → Int) (wet mute : Int) (nx : Int → Int → Int → Int) (q t a w : Int) : Int :=
  (cw C wet q 0 * gr H mute nx q (0 + w) t a + cw C wet q 1 * gr H mute nx q (1 + w) t a + cw C wet q 2 * gr H mute nx q (2 + w) t a + cw C wet q 3 * gr H mute nx q (3 + w) t a).tdiv 10
def VV (H C : Nat → Int) (wet mute : Int) : Nat → Int → Int → Int → Int
  | 0 => fun t _ _ => off0 H (H 0) t
  | n + 1 => fun t a w => max (off0 H (H 0 - (n + 1)) t) (lit H C wet mute (VV H C wet mute n) (H 0 - (n + 1)) t a w)
/-- VALUE of a quarter -/
def Vq (H C : Nat → Int) (wet mute q t a w : Int) : Int := VV H C wet mute (H 0 - q).toNat t a w
theorem Vq_end {H C : Nat → Int} {wet mute q t a w : Int} (h : q = H 0) : Vq H C wet mute q t a w = off0 H q t := by
  unfold Vq
  rw [h, show (H 0 - H 0).toNat = 0 from by omega]
  try rfl
theorem Vq_lt {H C : Nat → Int} {wet mute q t a w : Int} (h : q < H 0) : Vq H C wet mute q t a w = max (off0 H q t) (lit H C wet mute (Vq H C wet mute (q + 1)) q t a w) := by
  have e : (H 0 - q).toNat = (H 0 - (q + 1)).toNat + 1 := by omega
  unfold Vq
  rw [e]
  have e2 : H 0 - (((H 0 - (q + 1)).toNat : Int) + 1) = q := by omega
  show max (off0 H (H 0 - (((H 0 - (q + 1)).toNat : Int) + 1)) t) (lit H C wet mute (VV H C wet mute (H 0 - (q + 1)).toNat) (H 0 - (((H 0 - (q + 1)).toNat : Int) + 1)) t a w) = _
  rw [e2]
  try rfl
/-! ### one caller more -/
theorem gst_b {H C : Nat → Int} (ho : HOK H C) {q how : Int} (hw : 0 ≤ how ∧ how ≤ 4) {s : Int × Int × Int × Int} (ht : 0 ≤ s.2.1) (ha : 0 ≤ s.2.2.1) : -99 ≤ (gst H q how s).1 - s.1 ∧ (gst H q how s).1 - s.1 ≤ 297 ∧ 0 ≤ (gst H q how s).2.1 ∧ (gst H q how s).2.1 ≤ s.2.1 ∧ 0 ≤ (gst H q how s).2.2.1 ∧ (gst H q how s).2.2.1 ≤ s.2.2.1 ∧ s.2.2.2 ≤ (gst H q how s).2.2.2 ∧ (gst H q how s).2.2.2 ≤ s.2.2.2 + 1 := by
  obtain ⟨-, -, -, ⟨a1, a2⟩, ⟨b1, b2⟩, ⟨c1, c2⟩, ⟨d1, d2⟩, -, ⟨e1, e2⟩, ⟨f1, f2⟩, -⟩ := ho
  have hn : 0 ≤ nob H q ∧ nob H q ≤ 99 := by unfold nob; split <;> omega
  have hwm : ∀ n, 0 ≤ wsm H n ∧ wsm H n ≤ 297 := by intro n; unfold wsm; split <;> (try split) <;> (try split) <;> omega
  unfold gst
  split
  · dsimp only; omega
  · dsimp only
    have hh := hwm (if how = 4 then 0 else min how s.2.1)
    generalize wsm H (if how = 4 then 0 else min how s.2.1) = ww at hh ⊢
    split <;> split <;> omega
theorem gN_b {H C : Nat → Int} (ho : HOK H C) {q how t a : Int} (hw : 0 ≤ how ∧ how ≤ 4) (ht : 0 ≤ t) (ha : 0 ≤ a) : ∀ k : Nat, -99 * (k : Int) ≤ (gN H q how t a k).1 ∧ (gN H q how t a k).1 ≤ 297 * (k : Int) ∧ 0 ≤ (gN H q how t a k).2.1 ∧ (gN H q how t a k).2.1 ≤ t ∧ 0 ≤ (gN H q how t a k).2.2.1 ∧ (gN H q how t a k).2.2.1 ≤ a ∧ 0 ≤ (gN H q how t a k).2.2.2 ∧ (gN H q how t a k).2.2.2 ≤ k
  | 0 => by simp only [gN]; omega
  | k + 1 => by
    have ih := gN_b ho (q := q) hw ht ha k
    have st := gst_b ho (q := q) hw ih.2.2.1 ih.2.2.2.2.1
    rw [gN]
    omega
theorem g_b {H C : Nat → Int} (ho : HOK H C) {q here how t a : Int} (hw : 0 ≤ how ∧ how ≤ 4) (hh : 0 ≤ here ∧ here ≤ 4) (ht : 0 ≤ t) (ha : 0 ≤ a) : -396 ≤ gv H q here how t a ∧ gv H q here how t a ≤ 1188 ∧ 0 ≤ gt H q here how t a ∧ gt H q here how t a ≤ t ∧ 0 ≤ ga H q here how t a ∧ ga H q here how t a ≤ a ∧ 0 ≤ glk H q here how t a ∧ glk H q here how t a ≤ 4 := by
  have b := gN_b ho (q := q) hw ht ha here.toNat
  unfold gv gt ga glk
  omega
/-! ### the class's own way -/
def srv (t a here how : Int) : Int := if how = 4 then min a here else if 0 < how then min here ((t + how - 1) / how) else 0
def cgt (t here how : Int) : Int := if how = 4 then 0 else min t (here * how)
def cga (a here how : Int) : Int := if how = 4 then min a here else 0
def cgv (H : Nat → Int) (q t a here how : Int) : Int := if how = 4 then srv t a here how * H 3 - (here - srv t a here how) * nob H q else (if 0 < how then min t (here * how) / how else 0) * wsm H how + wsm H (min t (here * how) - (if 0 < how then min t (here * how) / how else 0) * how) - (here - srv t a here how) * nob H q
theorem cg_N (H : Nat → Int) (q t a how : Int) (hw : 0 ≤ how ∧ how ≤ 4) (ht : 0 ≤ t) (ha : 0 ≤ a) : ∀ k : Nat, gN H q how t a k = (cgv H q t a k how, t - cgt t k how, a - cga a k how, (k : Int) - srv t a k how)
  | 0 => by
    have c : how = 0 ∨ how = 1 ∨ how = 2 ∨ how = 3 ∨ how = 4 := by omega
    have w0 : wsm H 0 = 0 := rfl
    have m1 : min t 0 = 0 := by omega
    have m2 : min a 0 = 0 := by omega
    have m3 : min 0 ((t + 1 - 1) / 1) = 0 := by omega
    have m4 : min 0 ((t + 2 - 1) / 2) = 0 := by omega
    have m5 : min 0 ((t + 3 - 1) / 3) = 0 := by omega
    rcases c with rfl | rfl | rfl | rfl | rfl
    · simp only [gN, cgv, cgt, cga, srv, w0, Int.natCast_zero, Int.zero_mul, m1, Int.reduceEq, reduceIte, Int.reduceLT]; simp [w0]
    · simp only [gN, cgv, cgt, cga, srv, w0, Int.natCast_zero, Int.zero_mul, m1, m3, Int.reduceEq, reduceIte, Int.reduceLT]; simp [w0]
    · simp only [gN, cgv, cgt, cga, srv, w0, Int.natCast_zero, Int.zero_mul, m1, m4, Int.reduceEq, reduceIte, Int.reduceLT]; simp [w0]
    · simp only [gN, cgv, cgt, cga, srv, w0, Int.natCast_zero, Int.zero_mul, m1, m5, Int.reduceEq, reduceIte, Int.reduceLT]; simp [w0]
    · simp only [gN, cgv, cgt, cga, srv, w0, Int.natCast_zero, Int.zero_mul, m1, m2, Int.reduceEq, reduceIte, Int.reduceLT]; simp [w0]
  | k + 1 => by
    have w0 : wsm H 0 = 0 := rfl
    have mm1 : min (2 : Int) 1 = 1 := by decide
    have mm2 : min (3 : Int) 1 = 1 := by decide
    have mm3 : min (3 : Int) 2 = 2 := by decide
    have ih := cg_N H q t a how hw ht ha k
    rw [gN, ih]
    have c : how = 0 ∨ how = 1 ∨ how = 2 ∨ how = 3 ∨ how = 4 := by omega
    have ec : ((k + 1 : Nat) : Int) = (k : Int) + 1 := by omega
    rw [ec]
    rcases c with rfl | rfl | rfl | rfl | rfl
    · have h1 : min t ((k : Int) * 0) = 0 := by omega
      have h2 : min t (((k : Int) + 1) * 0) = 0 := by omega
      have h3 : min (0 : Int) t = 0 := by omega
      have hh : (0 : Int) - 0 * 0 = 0 := by decide
      refine Prod.ext ?_ (Prod.ext ?_ (Prod.ext ?_ ?_))
      · simp only [gst, cgv, cgt, cga, srv, w0, h1, h2, h3, hh, Int.reduceEq, reduceIte, false_and, and_true, true_and, Int.reduceLT]
        try simp [w0, mm1, mm2, mm3, Int.add_mul, Int.sub_mul]
        try omega
      · simp only [gst, cgv, cgt, cga, srv, w0, h1, h2, h3, hh, Int.reduceEq, reduceIte, false_and, and_true, true_and, Int.reduceLT]
        try simp [w0, mm1, mm2, mm3, Int.add_mul, Int.sub_mul]
        try omega
      · simp only [gst, cgv, cgt, cga, srv, w0, h1, h2, h3, hh, Int.reduceEq, reduceIte, false_and, and_true, true_and, Int.reduceLT]
        try simp [w0, mm1, mm2, mm3, Int.add_mul, Int.sub_mul]
        try omega
      · simp only [gst, cgv, cgt, cga, srv, w0, h1, h2, h3, hh, Int.reduceEq, reduceIte, false_and, and_true, true_and, Int.reduceLT]
        try simp [w0, mm1, mm2, mm3, Int.add_mul, Int.sub_mul]
        try omega
    · have cc : 1 * ((k : Int) + 1) ≤ t ∨ t ≤ 1 * (k : Int) := by omega
      rcases cc with hA | hA
      · have h0 : min t ((k : Int) * 1) = (k : Int) * 1 := by omega
        have h1 : min t (((k : Int) + 1) * 1) = ((k : Int) + 1) * 1 := by omega
        have h2 : (k : Int) * 1 / 1 = k := by omega
        have h3 : ((k : Int) + 1) * 1 / 1 = (k : Int) + 1 := by omega
        have h4 : min (k : Int) ((t + 1 - 1) / 1) = k := by omega
        have h5 : min ((k : Int) + 1) ((t + 1 - 1) / 1) = (k : Int) + 1 := by omega
        have h6 : min 1 (t - (k : Int) * 1) = 1 := by omega
        have h7 : (k : Int) * 1 - (k : Int) * 1 = 0 := by omega
        have h8 : ((k : Int) + 1) * 1 - ((k : Int) + 1) * 1 = 0 := by omega
        have h9 : (k : Int) - k = 0 := by omega
        have h10 : (k : Int) + 1 - (k + 1) = 0 := by omega
        refine Prod.ext ?_ (Prod.ext ?_ (Prod.ext ?_ ?_))
        · simp only [gst, cgv, cgt, cga, srv, w0, h0, h1, h2, h3, h4, h5, h6, h7, h8, h9, h10, Int.reduceEq, reduceIte, false_and, and_true, true_and, Int.reduceLT]
          try simp [w0, mm1, mm2, mm3, Int.add_mul, Int.sub_mul]
          try omega
        · simp only [gst, cgv, cgt, cga, srv, w0, h0, h1, h2, h3, h4, h5, h6, h7, h8, h9, h10, Int.reduceEq, reduceIte, false_and, and_true, true_and, Int.reduceLT]
          try simp [w0, mm1, mm2, mm3, Int.add_mul, Int.sub_mul]
          try omega
        · simp only [gst, cgv, cgt, cga, srv, w0, h0, h1, h2, h3, h4, h5, h6, h7, h8, h9, h10, Int.reduceEq, reduceIte, false_and, and_true, true_and, Int.reduceLT]
          try simp [w0, mm1, mm2, mm3, Int.add_mul, Int.sub_mul]
          try omega
        · simp only [gst, cgv, cgt, cga, srv, w0, h0, h1, h2, h3, h4, h5, h6, h7, h8, h9, h10, Int.reduceEq, reduceIte, false_and, and_true, true_and, Int.reduceLT]
          try simp [w0, mm1, mm2, mm3, Int.add_mul, Int.sub_mul]
          try omega
      · have h0 : min t ((k : Int) * 1) = t := by omega
        have h1 : min t (((k : Int) + 1) * 1) = t := by omega
        have h2 : min (k : Int) ((t + 1 - 1) / 1) = (t + 1 - 1) / 1 := by omega
        have h3 : min ((k : Int) + 1) ((t + 1 - 1) / 1) = (t + 1 - 1) / 1 := by omega
        have h4 : min 1 (t - t) = 0 := by omega
        have h5 : t - t = 0 := by omega
        refine Prod.ext ?_ (Prod.ext ?_ (Prod.ext ?_ ?_))
        · simp only [gst, cgv, cgt, cga, srv, w0, h0, h1, h2, h3, h4, h5, Int.reduceEq, reduceIte, false_and, and_true, true_and, Int.reduceLT]
          try simp [w0, mm1, mm2, mm3, Int.add_mul, Int.sub_mul]
          try omega
        · simp only [gst, cgv, cgt, cga, srv, w0, h0, h1, h2, h3, h4, h5, Int.reduceEq, reduceIte, false_and, and_true, true_and, Int.reduceLT]
          try simp [w0, mm1, mm2, mm3, Int.add_mul, Int.sub_mul]
          try omega
        · simp only [gst, cgv, cgt, cga, srv, w0, h0, h1, h2, h3, h4, h5, Int.reduceEq, reduceIte, false_and, and_true, true_and, Int.reduceLT]
          try simp [w0, mm1, mm2, mm3, Int.add_mul, Int.sub_mul]
          try omega
        · simp only [gst, cgv, cgt, cga, srv, w0, h0, h1, h2, h3, h4, h5, Int.reduceEq, reduceIte, false_and, and_true, true_and, Int.reduceLT]
          try simp [w0, mm1, mm2, mm3, Int.add_mul, Int.sub_mul]
          try omega
    · have cc : 2 * ((k : Int) + 1) ≤ t ∨ t = 2 * (k : Int) + 1 ∨ t ≤ 2 * (k : Int) := by omega
      rcases cc with hA | hA | hA
      · have h0 : min t ((k : Int) * 2) = (k : Int) * 2 := by omega
        have h1 : min t (((k : Int) + 1) * 2) = ((k : Int) + 1) * 2 := by omega
        have h2 : (k : Int) * 2 / 2 = k := by omega
        have h3 : ((k : Int) + 1) * 2 / 2 = (k : Int) + 1 := by omega
        have h4 : min (k : Int) ((t + 2 - 1) / 2) = k := by omega
        have h5 : min ((k : Int) + 1) ((t + 2 - 1) / 2) = (k : Int) + 1 := by omega
        have h6 : min 2 (t - (k : Int) * 2) = 2 := by omega
        have h7 : (k : Int) * 2 - (k : Int) * 2 = 0 := by omega
        have h8 : ((k : Int) + 1) * 2 - ((k : Int) + 1) * 2 = 0 := by omega
        have h9 : (k : Int) - k = 0 := by omega
        have h10 : (k : Int) + 1 - (k + 1) = 0 := by omega
        refine Prod.ext ?_ (Prod.ext ?_ (Prod.ext ?_ ?_))
        · simp only [gst, cgv, cgt, cga, srv, w0, h0, h1, h2, h3, h4, h5, h6, h7, h8, h9, h10, Int.reduceEq, reduceIte, false_and, and_true, true_and, Int.reduceLT]
          try simp [w0, mm1, mm2, mm3, Int.add_mul, Int.sub_mul]
          try omega
        · simp only [gst, cgv, cgt, cga, srv, w0, h0, h1, h2, h3, h4, h5, h6, h7, h8, h9, h10, Int.reduceEq, reduceIte, false_and, and_true, true_and, Int.reduceLT]
          try simp [w0, mm1, mm2, mm3, Int.add_mul, Int.sub_mul]
          try omega
        · simp only [gst, cgv, cgt, cga, srv, w0, h0, h1, h2, h3, h4, h5, h6, h7, h8, h9, h10, Int.reduceEq, reduceIte, false_and, and_true, true_and, Int.reduceLT]
          try simp [w0, mm1, mm2, mm3, Int.add_mul, Int.sub_mul]
          try omega
        · simp only [gst, cgv, cgt, cga, srv, w0, h0, h1, h2, h3, h4, h5, h6, h7, h8, h9, h10, Int.reduceEq, reduceIte, false_and, and_true, true_and, Int.reduceLT]
          try simp [w0, mm1, mm2, mm3, Int.add_mul, Int.sub_mul]
          try omega
      · have h0 : min t ((k : Int) * 2) = (k : Int) * 2 := by omega
        have h1 : min t (((k : Int) + 1) * 2) = t := by omega
        have h2 : (k : Int) * 2 / 2 = k := by omega
        have h3 : t / 2 = (k : Int) := by omega
        have h4 : min (k : Int) ((t + 2 - 1) / 2) = k := by omega
        have h5 : min ((k : Int) + 1) ((t + 2 - 1) / 2) = (k : Int) + 1 := by omega
        have h6 : min 2 (t - (k : Int) * 2) = 1 := by omega
        have h7 : (k : Int) * 2 - (k : Int) * 2 = 0 := by omega
        have h8 : t - (k : Int) * 2 = 1 := by omega
        have h9 : (k : Int) - k = 0 := by omega
        have h10 : (k : Int) + 1 - (k + 1) = 0 := by omega
        refine Prod.ext ?_ (Prod.ext ?_ (Prod.ext ?_ ?_))
        · simp only [gst, cgv, cgt, cga, srv, w0, h0, h1, h2, h3, h4, h5, h6, h7, h8, h9, h10, Int.reduceEq, reduceIte, false_and, and_true, true_and, Int.reduceLT]
          try simp [w0, mm1, mm2, mm3, Int.add_mul, Int.sub_mul]
          try omega
        · simp only [gst, cgv, cgt, cga, srv, w0, h0, h1, h2, h3, h4, h5, h6, h7, h8, h9, h10, Int.reduceEq, reduceIte, false_and, and_true, true_and, Int.reduceLT]
          try simp [w0, mm1, mm2, mm3, Int.add_mul, Int.sub_mul]
          try omega
        · simp only [gst, cgv, cgt, cga, srv, w0, h0, h1, h2, h3, h4, h5, h6, h7, h8, h9, h10, Int.reduceEq, reduceIte, false_and, and_true, true_and, Int.reduceLT]
          try simp [w0, mm1, mm2, mm3, Int.add_mul, Int.sub_mul]
          try omega
        · simp only [gst, cgv, cgt, cga, srv, w0, h0, h1, h2, h3, h4, h5, h6, h7, h8, h9, h10, Int.reduceEq, reduceIte, false_and, and_true, true_and, Int.reduceLT]
          try simp [w0, mm1, mm2, mm3, Int.add_mul, Int.sub_mul]
          try omega
      · have h0 : min t ((k : Int) * 2) = t := by omega
        have h1 : min t (((k : Int) + 1) * 2) = t := by omega
        have h2 : min (k : Int) ((t + 2 - 1) / 2) = (t + 2 - 1) / 2 := by omega
        have h3 : min ((k : Int) + 1) ((t + 2 - 1) / 2) = (t + 2 - 1) / 2 := by omega
        have h4 : min 2 (t - t) = 0 := by omega
        have h5 : t - t = 0 := by omega
        refine Prod.ext ?_ (Prod.ext ?_ (Prod.ext ?_ ?_))
        · simp only [gst, cgv, cgt, cga, srv, w0, h0, h1, h2, h3, h4, h5, Int.reduceEq, reduceIte, false_and, and_true, true_and, Int.reduceLT]
          try simp [w0, mm1, mm2, mm3, Int.add_mul, Int.sub_mul]
          try omega
        · simp only [gst, cgv, cgt, cga, srv, w0, h0, h1, h2, h3, h4, h5, Int.reduceEq, reduceIte, false_and, and_true, true_and, Int.reduceLT]
          try simp [w0, mm1, mm2, mm3, Int.add_mul, Int.sub_mul]
          try omega
        · simp only [gst, cgv, cgt, cga, srv, w0, h0, h1, h2, h3, h4, h5, Int.reduceEq, reduceIte, false_and, and_true, true_and, Int.reduceLT]
          try simp [w0, mm1, mm2, mm3, Int.add_mul, Int.sub_mul]
          try omega
        · simp only [gst, cgv, cgt, cga, srv, w0, h0, h1, h2, h3, h4, h5, Int.reduceEq, reduceIte, false_and, and_true, true_and, Int.reduceLT]
          try simp [w0, mm1, mm2, mm3, Int.add_mul, Int.sub_mul]
          try omega
    · have cc : 3 * ((k : Int) + 1) ≤ t ∨ t = 3 * (k : Int) + 1 ∨ t = 3 * (k : Int) + 2 ∨ t ≤ 3 * (k : Int) := by omega
      rcases cc with hA | hA | hA | hA
      · have h0 : min t ((k : Int) * 3) = (k : Int) * 3 := by omega
        have h1 : min t (((k : Int) + 1) * 3) = ((k : Int) + 1) * 3 := by omega
        have h2 : (k : Int) * 3 / 3 = k := by omega
        have h3 : ((k : Int) + 1) * 3 / 3 = (k : Int) + 1 := by omega
        have h4 : min (k : Int) ((t + 3 - 1) / 3) = k := by omega
        have h5 : min ((k : Int) + 1) ((t + 3 - 1) / 3) = (k : Int) + 1 := by omega
        have h6 : min 3 (t - (k : Int) * 3) = 3 := by omega
        have h7 : (k : Int) * 3 - (k : Int) * 3 = 0 := by omega
        have h8 : ((k : Int) + 1) * 3 - ((k : Int) + 1) * 3 = 0 := by omega
        have h9 : (k : Int) - k = 0 := by omega
        have h10 : (k : Int) + 1 - (k + 1) = 0 := by omega
        refine Prod.ext ?_ (Prod.ext ?_ (Prod.ext ?_ ?_))
        · simp only [gst, cgv, cgt, cga, srv, w0, h0, h1, h2, h3, h4, h5, h6, h7, h8, h9, h10, Int.reduceEq, reduceIte, false_and, and_true, true_and, Int.reduceLT]
          try simp [w0, mm1, mm2, mm3, Int.add_mul, Int.sub_mul]
          try omega
        · simp only [gst, cgv, cgt, cga, srv, w0, h0, h1, h2, h3, h4, h5, h6, h7, h8, h9, h10, Int.reduceEq, reduceIte, false_and, and_true, true_and, Int.reduceLT]
          try simp [w0, mm1, mm2, mm3, Int.add_mul, Int.sub_mul]
          try omega
        · simp only [gst, cgv, cgt, cga, srv, w0, h0, h1, h2, h3, h4, h5, h6, h7, h8, h9, h10, Int.reduceEq, reduceIte, false_and, and_true, true_and, Int.reduceLT]
          try simp [w0, mm1, mm2, mm3, Int.add_mul, Int.sub_mul]
          try omega
        · simp only [gst, cgv, cgt, cga, srv, w0, h0, h1, h2, h3, h4, h5, h6, h7, h8, h9, h10, Int.reduceEq, reduceIte, false_and, and_true, true_and, Int.reduceLT]
          try simp [w0, mm1, mm2, mm3, Int.add_mul, Int.sub_mul]
          try omega
      · have h0 : min t ((k : Int) * 3) = (k : Int) * 3 := by omega
        have h1 : min t (((k : Int) + 1) * 3) = t := by omega
        have h2 : (k : Int) * 3 / 3 = k := by omega
        have h3 : t / 3 = (k : Int) := by omega
        have h4 : min (k : Int) ((t + 3 - 1) / 3) = k := by omega
        have h5 : min ((k : Int) + 1) ((t + 3 - 1) / 3) = (k : Int) + 1 := by omega
        have h6 : min 3 (t - (k : Int) * 3) = 1 := by omega
        have h7 : (k : Int) * 3 - (k : Int) * 3 = 0 := by omega
        have h8 : t - (k : Int) * 3 = 1 := by omega
        have h9 : (k : Int) - k = 0 := by omega
        have h10 : (k : Int) + 1 - (k + 1) = 0 := by omega
        refine Prod.ext ?_ (Prod.ext ?_ (Prod.ext ?_ ?_))
        · simp only [gst, cgv, cgt, cga, srv, w0, h0, h1, h2, h3, h4, h5, h6, h7, h8, h9, h10, Int.reduceEq, reduceIte, false_and, and_true, true_and, Int.reduceLT]
          try simp [w0, mm1, mm2, mm3, Int.add_mul, Int.sub_mul]
          try omega
        · simp only [gst, cgv, cgt, cga, srv, w0, h0, h1, h2, h3, h4, h5, h6, h7, h8, h9, h10, Int.reduceEq, reduceIte, false_and, and_true, true_and, Int.reduceLT]
          try simp [w0, mm1, mm2, mm3, Int.add_mul, Int.sub_mul]
          try omega
        · simp only [gst, cgv, cgt, cga, srv, w0, h0, h1, h2, h3, h4, h5, h6, h7, h8, h9, h10, Int.reduceEq, reduceIte, false_and, and_true, true_and, Int.reduceLT]
          try simp [w0, mm1, mm2, mm3, Int.add_mul, Int.sub_mul]
          try omega
        · simp only [gst, cgv, cgt, cga, srv, w0, h0, h1, h2, h3, h4, h5, h6, h7, h8, h9, h10, Int.reduceEq, reduceIte, false_and, and_true, true_and, Int.reduceLT]
          try simp [w0, mm1, mm2, mm3, Int.add_mul, Int.sub_mul]
          try omega
      · have h0 : min t ((k : Int) * 3) = (k : Int) * 3 := by omega
        have h1 : min t (((k : Int) + 1) * 3) = t := by omega
        have h2 : (k : Int) * 3 / 3 = k := by omega
        have h3 : t / 3 = (k : Int) := by omega
        have h4 : min (k : Int) ((t + 3 - 1) / 3) = k := by omega
        have h5 : min ((k : Int) + 1) ((t + 3 - 1) / 3) = (k : Int) + 1 := by omega
        have h6 : min 3 (t - (k : Int) * 3) = 2 := by omega
        have h7 : (k : Int) * 3 - (k : Int) * 3 = 0 := by omega
        have h8 : t - (k : Int) * 3 = 2 := by omega
        have h9 : (k : Int) - k = 0 := by omega
        have h10 : (k : Int) + 1 - (k + 1) = 0 := by omega
        refine Prod.ext ?_ (Prod.ext ?_ (Prod.ext ?_ ?_))
        · simp only [gst, cgv, cgt, cga, srv, w0, h0, h1, h2, h3, h4, h5, h6, h7, h8, h9, h10, Int.reduceEq, reduceIte, false_and, and_true, true_and, Int.reduceLT]
          try simp [w0, mm1, mm2, mm3, Int.add_mul, Int.sub_mul]
          try omega
        · simp only [gst, cgv, cgt, cga, srv, w0, h0, h1, h2, h3, h4, h5, h6, h7, h8, h9, h10, Int.reduceEq, reduceIte, false_and, and_true, true_and, Int.reduceLT]
          try simp [w0, mm1, mm2, mm3, Int.add_mul, Int.sub_mul]
          try omega
        · simp only [gst, cgv, cgt, cga, srv, w0, h0, h1, h2, h3, h4, h5, h6, h7, h8, h9, h10, Int.reduceEq, reduceIte, false_and, and_true, true_and, Int.reduceLT]
          try simp [w0, mm1, mm2, mm3, Int.add_mul, Int.sub_mul]
          try omega
        · simp only [gst, cgv, cgt, cga, srv, w0, h0, h1, h2, h3, h4, h5, h6, h7, h8, h9, h10, Int.reduceEq, reduceIte, false_and, and_true, true_and, Int.reduceLT]
          try simp [w0, mm1, mm2, mm3, Int.add_mul, Int.sub_mul]
          try omega
      · have h0 : min t ((k : Int) * 3) = t := by omega
        have h1 : min t (((k : Int) + 1) * 3) = t := by omega
        have h2 : min (k : Int) ((t + 3 - 1) / 3) = (t + 3 - 1) / 3 := by omega
        have h3 : min ((k : Int) + 1) ((t + 3 - 1) / 3) = (t + 3 - 1) / 3 := by omega
        have h4 : min 3 (t - t) = 0 := by omega
        have h5 : t - t = 0 := by omega
        refine Prod.ext ?_ (Prod.ext ?_ (Prod.ext ?_ ?_))
        · simp only [gst, cgv, cgt, cga, srv, w0, h0, h1, h2, h3, h4, h5, Int.reduceEq, reduceIte, false_and, and_true, true_and, Int.reduceLT]
          try simp [w0, mm1, mm2, mm3, Int.add_mul, Int.sub_mul]
          try omega
        · simp only [gst, cgv, cgt, cga, srv, w0, h0, h1, h2, h3, h4, h5, Int.reduceEq, reduceIte, false_and, and_true, true_and, Int.reduceLT]
          try simp [w0, mm1, mm2, mm3, Int.add_mul, Int.sub_mul]
          try omega
        · simp only [gst, cgv, cgt, cga, srv, w0, h0, h1, h2, h3, h4, h5, Int.reduceEq, reduceIte, false_and, and_true, true_and, Int.reduceLT]
          try simp [w0, mm1, mm2, mm3, Int.add_mul, Int.sub_mul]
          try omega
        · simp only [gst, cgv, cgt, cga, srv, w0, h0, h1, h2, h3, h4, h5, Int.reduceEq, reduceIte, false_and, and_true, true_and, Int.reduceLT]
          try simp [w0, mm1, mm2, mm3, Int.add_mul, Int.sub_mul]
          try omega
    · by_cases hA : (k : Int) < a
      · have h0 : min a (k : Int) = k := by omega
        have h1 : min a ((k : Int) + 1) = (k : Int) + 1 := by omega
        have h2 : 0 < a - (k : Int) := by omega
        refine Prod.ext ?_ (Prod.ext ?_ (Prod.ext ?_ ?_))
        · simp only [gst, cgv, cgt, cga, srv, w0, h0, h1, h2, Int.reduceEq, reduceIte, false_and, and_true, true_and, Int.reduceLT]
          try simp [w0, mm1, mm2, mm3, Int.add_mul, Int.sub_mul]
          try omega
        · simp only [gst, cgv, cgt, cga, srv, w0, h0, h1, h2, Int.reduceEq, reduceIte, false_and, and_true, true_and, Int.reduceLT]
          try simp [w0, mm1, mm2, mm3, Int.add_mul, Int.sub_mul]
          try omega
        · simp only [gst, cgv, cgt, cga, srv, w0, h0, h1, h2, Int.reduceEq, reduceIte, false_and, and_true, true_and, Int.reduceLT]
          try simp [w0, mm1, mm2, mm3, Int.add_mul, Int.sub_mul]
          try omega
        · simp only [gst, cgv, cgt, cga, srv, w0, h0, h1, h2, Int.reduceEq, reduceIte, false_and, and_true, true_and, Int.reduceLT]
          try simp [w0, mm1, mm2, mm3, Int.add_mul, Int.sub_mul]
          try omega
      · have h0 : min a (k : Int) = a := by omega
        have h1 : min a ((k : Int) + 1) = a := by omega
        refine Prod.ext ?_ (Prod.ext ?_ (Prod.ext ?_ ?_))
        · simp only [gst, cgv, cgt, cga, srv, w0, h0, h1, Int.reduceEq, reduceIte, false_and, and_true, true_and, Int.reduceLT]
          try simp [w0, mm1, mm2, mm3, Int.add_mul, Int.sub_mul]
          try omega
        · simp only [gst, cgv, cgt, cga, srv, w0, h0, h1, Int.reduceEq, reduceIte, false_and, and_true, true_and, Int.reduceLT]
          try simp [w0, mm1, mm2, mm3, Int.add_mul, Int.sub_mul]
          try omega
        · simp only [gst, cgv, cgt, cga, srv, w0, h0, h1, Int.reduceEq, reduceIte, false_and, and_true, true_and, Int.reduceLT]
          try simp [w0, mm1, mm2, mm3, Int.add_mul, Int.sub_mul]
          try omega
        · simp only [gst, cgv, cgt, cga, srv, w0, h0, h1, Int.reduceEq, reduceIte, false_and, and_true, true_and, Int.reduceLT]
          try simp [w0, mm1, mm2, mm3, Int.add_mul, Int.sub_mul]
          try omega
