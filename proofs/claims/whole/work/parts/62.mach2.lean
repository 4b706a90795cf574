/-! THE PURE PROOFS, 40: the reference's machine: tests, and operands. -/
def TsS (d : Nat) (h : PH) : Int32 := if hI h 106 d = 24 then (if SmS d h ≤ hI h 105 d then 0 else 1) else if hI h 106 d = 25 then (if hI h 105 d = SmS d h then 1 else 0) else SmS d h
def orS (lo lv v : Int32) : Int32 := if lo = 26 then (if lv = 0 then 0 else if v = 0 then 0 else 1) else if lo = 27 then (if lv = 0 then (if v = 0 then 0 else 1) else 1) else v
def OrS (d : Nat) (h : PH) : Int32 := orS (hI h 104 d) (hI h 103 d) (TsS d h)
theorem testsM {N d : Nat} {h : PH} {Q : Unit → PH → Prop} (s : Shp h) (hd : d < 7) (k : ∀ h2, FrMd d h h2 → hI h2 103 d = OrS d h → hI h2 106 d = 0 → hI h2 107 d = 0 → hI h2 108 d = 20 → hI h2 110 d = 0 → hI h2 104 = hI h 104 → hI h2 111 = hI h 111 → Q () h2) : Wp (Mo_tests N 92 (iv d) h) Q := by
  unfold Mo_tests
  refine Wp_ck (by rw [k92 s]) (Wp_bd2 (sumsM (Q := fun _ h3 => h3 = wI (wI h 107 d (SmS d h)) 110 d 0) s hd rfl) ?_)
  rintro - h3 rfl
  have f3 : FrMd d h (wI (wI h 107 d (SmS d h)) 110 d 0) := (FrMd.rf.w (by omega) (by omega)).w (by omega) (by omega)
  have s3 := f3.1.shp s
  have e107 : hI (wI (wI h 107 d (SmS d h)) 110 d 0) 107 d = SmS d h := by simp [hI_wI]
  have e110 : hI (wI (wI h 107 d (SmS d h)) 110 d 0) 110 d = 0 := by simp [hI_wI]
  have e106 : hI (wI (wI h 107 d (SmS d h)) 110 d 0) 106 d = hI h 106 d := by simp [hI_wI]
  have e105 : hI (wI (wI h 107 d (SmS d h)) 110 d 0) 105 d = hI h 105 d := by simp [hI_wI]
  have e104 : hI (wI (wI h 107 d (SmS d h)) 110 d 0) 104 = hI h 104 := by funext i; simp [hI_wI]
  have e103 : hI (wI (wI h 107 d (SmS d h)) 110 d 0) 103 d = hI h 103 d := by simp [hI_wI]
  have e111 : hI (wI (wI h 107 d (SmS d h)) 110 d 0) 111 = hI h 111 := by funext i; simp [hI_wI]
  generalize (wI (wI h 107 d (SmS d h)) 110 d 0) = h3 at f3 s3 e107 e110 e106 e105 e104 e103 e111 ⊢
  have e104d : hI h3 104 d = hI h 104 d := by rw [e104]
  have b136 : ∀ v : Int32, v = OrS d h → Wp (Mo_tests_b136 N 92 (iv d) v h3) Q := by
    rintro v rfl
    unfold Mo_tests_b136
    refine Wp_ck (by rw [k92 s3]) (Wp_bn (p92_21 s3) (Wp_ck (by rw [k103 s3]) (Wp_ck (by rw [k103 s3]; exact inb_iv (by omega) (by omega) (by omega)) (Wp_lt ?_))))
    rw [ix_nat (by omega)]
    have f4 := f3.w (a := 103) (i := d) (v := OrS d h) (by omega) (by omega)
    have s4 := f4.1.shp s
    refine Wp_bn (p92_24 s4) (Wp_ck (by rw [k106 s4]) (Wp_ck (by rw [k106 s4]; exact inb_iv (by omega) (by omega) (by omega)) (Wp_lt ?_)))
    have f5 := f4.w (a := 106) (i := d) (v := 0) (by omega) (by omega)
    have s5 := f5.1.shp s
    refine Wp_bn (p92_25 s5) (Wp_ck (by rw [k107 s5]) (Wp_ck (by rw [k107 s5]; exact inb_iv (by omega) (by omega) (by omega)) (Wp_lt ?_)))
    have f6 := f5.w (a := 107) (i := d) (v := 0) (by omega) (by omega)
    have s6 := f6.1.shp s
    refine Wp_bn (p92_26 s6) (Wp_ck (by rw [k108 s6]) (Wp_ck (by rw [k108 s6]; exact inb_iv (by omega) (by omega) (by omega)) (Wp_ltr ?_)))
    refine k _ (f6.w (by omega) (by omega)) ?_ ?_ ?_ ?_ ?_ ?_ ?_
    · simp [hI_wI]
    · simp [hI_wI]
    · simp [hI_wI]
    · simp [hI_wI]
    · simp [hI_wI, e110]
    · rw [← e104]; funext i; simp [hI_wI]
    · rw [← e111]; funext i; simp [hI_wI]
  have b106 : ∀ v : Int32, (if hI h 104 d = 27 then (if hI h 103 d = 0 then (if v = 0 then 0 else 1) else 1) else v) = OrS d h → Wp (Mo_tests_b106 N 92 (iv d) v h3) Q := by
    intro v ev
    unfold Mo_tests_b106 Mo_tests_b130 Mo_tests_b135
    refine Wp_ck (by rw [k92 s3]) (Wp_bn (p92_22 s3) (Wp_ck (by rw [k104 s3]) (Wp_ck (by rw [k104 s3]; exact inb_iv (by omega) (by omega) (by omega)) ?_)))
    rw [ix_nat (by omega), e104d]
    refine Wp_if (fun c => ?_) (fun c => ?_)
    · rw [if_pos c] at ev
      refine Wp_bn (p92_21 s3) (Wp_ck (by rw [k103 s3]) (Wp_ck (by rw [k103 s3]; exact inb_iv (by omega) (by omega) (by omega)) ?_))
      rw [e103]
      refine Wp_if (fun c2 => ?_) (fun c2 => ?_)
      · rw [if_pos c2] at ev
        refine Wp_if (fun c3 => ?_) (fun c3 => ?_)
        · rw [if_pos c3] at ev
          exact b136 _ ev
        · rw [if_neg c3] at ev
          exact b136 _ ev
      · rw [if_neg c2] at ev
        exact b136 _ ev
    · rw [if_neg c] at ev
      exact b136 _ ev
  have b76 : ∀ v : Int32, orS (hI h 104 d) (hI h 103 d) v = OrS d h → Wp (Mo_tests_b76 N 92 (iv d) v h3) Q := by
    intro v ev
    unfold orS at ev
    unfold Mo_tests_b76 Mo_tests_b104 Mo_tests_b105
    refine Wp_ck (by rw [k92 s3]) (Wp_bn (p92_22 s3) (Wp_ck (by rw [k104 s3]) (Wp_ck (by rw [k104 s3]; exact inb_iv (by omega) (by omega) (by omega)) ?_)))
    rw [ix_nat (by omega), e104d]
    refine Wp_if (fun c => ?_) (fun c => ?_)
    · rw [if_pos c] at ev
      have n27 : ¬ hI h 104 d = 27 := fun z => by rw [z] at c; exact absurd c (by decide)
      refine Wp_bn (p92_21 s3) (Wp_ck (by rw [k103 s3]) (Wp_ck (by rw [k103 s3]; exact inb_iv (by omega) (by omega) (by omega)) ?_))
      rw [e103]
      refine Wp_if (fun c2 => ?_) (fun c2 => ?_)
      · rw [if_pos c2] at ev
        exact b106 _ (by rw [if_neg n27]; exact ev)
      · rw [if_neg c2] at ev
        refine Wp_if (fun c3 => ?_) (fun c3 => ?_)
        · rw [if_pos c3] at ev
          exact b106 _ (by rw [if_neg n27]; exact ev)
        · rw [if_neg c3] at ev
          exact b106 _ (by rw [if_neg n27]; exact ev)
    · rw [if_neg c] at ev
      exact b106 _ ev
  have b44 : ∀ v : Int32, orS (hI h 104 d) (hI h 103 d) (if hI h 106 d = 25 then (if hI h 105 d = SmS d h then 1 else 0) else v) = OrS d h → Wp (Mo_tests_b44 N 92 (iv d) v h3) Q := by
    intro v ev
    unfold Mo_tests_b44 Mo_tests_b75
    refine Wp_ck (by rw [k92 s3]) (Wp_bn (p92_24 s3) (Wp_ck (by rw [k106 s3]) (Wp_ck (by rw [k106 s3]; exact inb_iv (by omega) (by omega) (by omega)) ?_)))
    rw [ix_nat (by omega), e106]
    refine Wp_if (fun c => ?_) (fun c => ?_)
    · rw [if_pos c] at ev
      refine Wp_bn (p92_23 s3) (Wp_ck (by rw [k105 s3]) (Wp_ck (by rw [k105 s3]; exact inb_iv (by omega) (by omega) (by omega)) (Wp_bn (p92_25 s3) (Wp_ck (by rw [k107 s3]) (Wp_ck (by rw [k107 s3]; exact inb_iv (by omega) (by omega) (by omega)) ?_)))))
      rw [e105, e107]
      refine Wp_if (fun c2 => ?_) (fun c2 => ?_)
      · rw [if_pos c2] at ev
        exact b76 _ ev
      · rw [if_neg c2] at ev
        exact b76 _ ev
    · rw [if_neg c] at ev
      exact b76 _ ev
  refine Wp_ck (by rw [k92 s3]) (Wp_bn (p92_25 s3) (Wp_ck (by rw [k107 s3]) (Wp_ck (by rw [k107 s3]; exact inb_iv (by omega) (by omega) (by omega)) (Wp_bn (p92_24 s3) (Wp_ck (by rw [k106 s3]) (Wp_ck (by rw [k106 s3]; exact inb_iv (by omega) (by omega) (by omega)) ?_))))))
  rw [ix_nat (by omega), e106, e107]
  unfold Mo_tests_b43
  have eo : OrS d h = orS (hI h 104 d) (hI h 103 d) (TsS d h) := rfl
  refine Wp_if (fun c => ?_) (fun c => ?_)
  · have n25 : ¬ hI h 106 d = 25 := fun z => by rw [z] at c; exact absurd c (by decide)
    refine Wp_bn (p92_23 s3) (Wp_ck (by rw [k105 s3]) (Wp_ck (by rw [k105 s3]; exact inb_iv (by omega) (by omega) (by omega)) (Wp_ck (by rw [k107 s3]; exact inb_iv (by omega) (by omega) (by omega)) ?_)))
    rw [e105]
    refine Wp_if (fun c2 => ?_) (fun c2 => ?_)
    · refine b44 _ ?_
      rw [eo, if_neg n25]
      unfold TsS
      rw [if_pos c, if_pos c2]
    · refine b44 _ ?_
      rw [eo, if_neg n25]
      unfold TsS
      rw [if_pos c, if_neg c2]
  · refine b44 _ ?_
    rw [eo]
    unfold TsS
    rw [if_neg c]
/-- an operand x at depth d that is no not's: the product takes it in -/
theorem operM {N d xb en j fl : Nat} {x : Int32} {self : Nat → Int32 → Int32 → Int32 → PH → Option (Int32 × PH)} {h : PH} {Q : Int32 → PH → Prop} (m : MaM xb en h) (hd : d < 7) (nt : d = 0 ∨ hI h 111 d = 0) (hf : 1 ≤ fl) (k : Wp (self 92 (iv xb) (iv d) (iv ((j + 1 : Nat) : Int)) (wI h 109 d (if hI h 110 d = 0 then x else hI h 109 d * x))) Q) (hj : j ≤ 2000) : Wp (Mo_worked_b268 N self fl 92 (iv xb) (iv d) (iv j) x h) Q := by
  have s := m.1
  obtain ⟨fu, rfl⟩ : ∃ g, fl = g + 1 := ⟨fl - 1, by omega⟩
  have b328 : ∀ v : Int32, v = (if hI h 110 d = 0 then x else hI h 109 d * x) → Wp (Mo_worked_b328 N self (some 109) (iv d) v 92 (iv xb) (iv d) (iv j) h) Q := by
    rintro v rfl
    unfold Mo_worked_b328 Mo_worked_b329
    refine Wp_bn rfl (Wp_ck (by rw [k109 s]) (Wp_ck (by rw [k109 s]; exact inb_iv (by omega) (by omega) (by omega)) (Wp_lt ?_)))
    rw [ix_nat (by omega), il1, iv_add]
    exact k
  have b300 : Wp (Mo_worked_b300 N self 92 (iv xb) (iv d) (iv j) x h) Q := by
    unfold Mo_worked_b300
    refine Wp_ck (by rw [k92 s]) (Wp_bn (p92_28 s) (Wp_ck (by rw [k110 s]) (Wp_ck (by rw [k110 s]; exact inb_iv (by omega) (by omega) (by omega)) ?_)))
    rw [ix_nat (by omega), p92_27 s]
    refine Wp_if (fun c => b328 _ (by rw [if_pos c])) (fun c => ?_)
    refine Wp_bn rfl (Wp_ck (by rw [k109 s]) (Wp_ck (by rw [k109 s]; exact inb_iv (by omega) (by omega) (by omega)) (b328 _ (by rw [if_neg c]))))
  rw [Mo_worked_b268]
  refine Wp_if (fun c => b300) (fun c => ?_)
  rw [il0, iv_le (by omega) (by omega) (by omega) (by omega)] at c
  refine Wp_ck (by rw [k92 s]) (Wp_bn (p92_29 s) (Wp_ck (by rw [k111 s]) (Wp_ck (by rw [k111 s]; exact inb_iv (by omega) (by omega) (by omega)) ?_)))
  rw [ix_nat (by omega)]
  rcases nt with z | z
  · omega
  · rw [z]
    exact Wp_ifn (by decide) b300
