/-! THE PURE PROOFS, 39: the reference's machine, a code at a time (printed by gen61.py). -/
/-- where the machine stands: habit xb, its codes up to en -/
def MaM (xb en : Nat) (h : PH) : Prop := Shp h ∧ xb < 8 ∧ en ≤ 2000 ∧ hI h 99 xb = iv en
theorem wk28 {N xb en d j fu : Nat} {c : Int} {h : PH} {Q : Int32 → PH → Prop} (m : MaM xb en h) (hj : j < en) (hc : hI h 100 j = iv c) (cc : c = 28) (k : Wp (Mo_worked_b46 N (Mo_worked_b14 N fu) 92 (iv xb) (iv d) (iv j) (iv c) h) Q) : Wp (Mo_worked_b14 N (fu + 1) 92 (iv xb) (iv d) (iv j) h) Q := by
  obtain ⟨s, hx, he, e1⟩ := m
  rw [Mo_worked_b14]
  refine Wp_ck (by rw [k92 s]) (Wp_bn (p92_15 s) (Wp_ck (by rw [k99 s]) (Wp_ck (by rw [k99 s]; exact inb_iv (by omega) (by omega) (by omega)) ?_)))
  rw [ix_nat (by omega), e1]
  refine Wp_ifn (by rw [iv_le (by omega) (by omega) (by omega) (by omega)]; omega) (Wp_bn (p92_16 s) (Wp_ck (by rw [k100 s]) (Wp_ck (by rw [k100 s]; exact inb_iv (by omega) (by omega) (by omega)) ?_)))
  rw [ix_nat (by omega), hc]
  refine Wp_ifp (by rw [show (28 : Int32) = iv 28 from iv_lit _, iv_eq (by omega) (by omega) (by omega) (by omega)]; omega) ?_
  exact k
theorem wk30 {N xb en d j fu : Nat} {c : Int} {h : PH} {Q : Int32 → PH → Prop} (m : MaM xb en h) (hj : j < en) (hc : hI h 100 j = iv c) (cc : c = 30) (k : Wp (Mo_worked_b46 N (Mo_worked_b14 N fu) 92 (iv xb) (iv d) (iv j) (iv c) h) Q) : Wp (Mo_worked_b14 N (fu + 1) 92 (iv xb) (iv d) (iv j) h) Q := by
  obtain ⟨s, hx, he, e1⟩ := m
  rw [Mo_worked_b14]
  refine Wp_ck (by rw [k92 s]) (Wp_bn (p92_15 s) (Wp_ck (by rw [k99 s]) (Wp_ck (by rw [k99 s]; exact inb_iv (by omega) (by omega) (by omega)) ?_)))
  rw [ix_nat (by omega), e1]
  refine Wp_ifn (by rw [iv_le (by omega) (by omega) (by omega) (by omega)]; omega) (Wp_bn (p92_16 s) (Wp_ck (by rw [k100 s]) (Wp_ck (by rw [k100 s]; exact inb_iv (by omega) (by omega) (by omega)) ?_)))
  rw [ix_nat (by omega), hc]
  refine Wp_ifn (by rw [show (28 : Int32) = iv 28 from iv_lit _, iv_eq (by omega) (by omega) (by omega) (by omega)]; omega) ?_
  refine Wp_ifp (by rw [show (30 : Int32) = iv 30 from iv_lit _, iv_eq (by omega) (by omega) (by omega) (by omega)]; omega) ?_
  exact k
theorem wk20 {N xb en d j fu : Nat} {c : Int} {h : PH} {Q : Int32 → PH → Prop} (m : MaM xb en h) (hj : j < en) (hc : hI h 100 j = iv c) (cc : c = 20) (k : Wp (Mo_worked_b89 N (Mo_worked_b14 N fu) 92 (iv xb) (iv d) (iv j) (iv c) h) Q) : Wp (Mo_worked_b14 N (fu + 1) 92 (iv xb) (iv d) (iv j) h) Q := by
  obtain ⟨s, hx, he, e1⟩ := m
  rw [Mo_worked_b14]
  refine Wp_ck (by rw [k92 s]) (Wp_bn (p92_15 s) (Wp_ck (by rw [k99 s]) (Wp_ck (by rw [k99 s]; exact inb_iv (by omega) (by omega) (by omega)) ?_)))
  rw [ix_nat (by omega), e1]
  refine Wp_ifn (by rw [iv_le (by omega) (by omega) (by omega) (by omega)]; omega) (Wp_bn (p92_16 s) (Wp_ck (by rw [k100 s]) (Wp_ck (by rw [k100 s]; exact inb_iv (by omega) (by omega) (by omega)) ?_)))
  rw [ix_nat (by omega), hc]
  refine Wp_ifn (by rw [show (28 : Int32) = iv 28 from iv_lit _, iv_eq (by omega) (by omega) (by omega) (by omega)]; omega) ?_
  refine Wp_ifn (by rw [show (30 : Int32) = iv 30 from iv_lit _, iv_eq (by omega) (by omega) (by omega) (by omega)]; omega) ?_
  refine Wp_ifp (by rw [show (20 : Int32) = iv 20 from iv_lit _, iv_eq (by omega) (by omega) (by omega) (by omega)]; omega) ?_
  exact k
theorem wk21 {N xb en d j fu : Nat} {c : Int} {h : PH} {Q : Int32 → PH → Prop} (m : MaM xb en h) (hj : j < en) (hc : hI h 100 j = iv c) (cc : c = 21) (k : Wp (Mo_worked_b89 N (Mo_worked_b14 N fu) 92 (iv xb) (iv d) (iv j) (iv c) h) Q) : Wp (Mo_worked_b14 N (fu + 1) 92 (iv xb) (iv d) (iv j) h) Q := by
  obtain ⟨s, hx, he, e1⟩ := m
  rw [Mo_worked_b14]
  refine Wp_ck (by rw [k92 s]) (Wp_bn (p92_15 s) (Wp_ck (by rw [k99 s]) (Wp_ck (by rw [k99 s]; exact inb_iv (by omega) (by omega) (by omega)) ?_)))
  rw [ix_nat (by omega), e1]
  refine Wp_ifn (by rw [iv_le (by omega) (by omega) (by omega) (by omega)]; omega) (Wp_bn (p92_16 s) (Wp_ck (by rw [k100 s]) (Wp_ck (by rw [k100 s]; exact inb_iv (by omega) (by omega) (by omega)) ?_)))
  rw [ix_nat (by omega), hc]
  refine Wp_ifn (by rw [show (28 : Int32) = iv 28 from iv_lit _, iv_eq (by omega) (by omega) (by omega) (by omega)]; omega) ?_
  refine Wp_ifn (by rw [show (30 : Int32) = iv 30 from iv_lit _, iv_eq (by omega) (by omega) (by omega) (by omega)]; omega) ?_
  refine Wp_ifn (by rw [show (20 : Int32) = iv 20 from iv_lit _, iv_eq (by omega) (by omega) (by omega) (by omega)]; omega) ?_
  refine Wp_ifp (by rw [show (21 : Int32) = iv 21 from iv_lit _, iv_eq (by omega) (by omega) (by omega) (by omega)]; omega) ?_
  exact k
theorem wk22 {N xb en d j fu : Nat} {c : Int} {h : PH} {Q : Int32 → PH → Prop} (m : MaM xb en h) (hj : j < en) (hc : hI h 100 j = iv c) (cc : c = 22 ∧ d < 7) (k : Wp (Mo_worked_b329 N (Mo_worked_b14 N fu) 92 (iv xb) (iv d) (iv j) (wI h 110 d (iv c))) Q) : Wp (Mo_worked_b14 N (fu + 1) 92 (iv xb) (iv d) (iv j) h) Q := by
  obtain ⟨s, hx, he, e1⟩ := m
  rw [Mo_worked_b14]
  refine Wp_ck (by rw [k92 s]) (Wp_bn (p92_15 s) (Wp_ck (by rw [k99 s]) (Wp_ck (by rw [k99 s]; exact inb_iv (by omega) (by omega) (by omega)) ?_)))
  rw [ix_nat (by omega), e1]
  refine Wp_ifn (by rw [iv_le (by omega) (by omega) (by omega) (by omega)]; omega) (Wp_bn (p92_16 s) (Wp_ck (by rw [k100 s]) (Wp_ck (by rw [k100 s]; exact inb_iv (by omega) (by omega) (by omega)) ?_)))
  rw [ix_nat (by omega), hc]
  refine Wp_ifn (by rw [show (28 : Int32) = iv 28 from iv_lit _, iv_eq (by omega) (by omega) (by omega) (by omega)]; omega) ?_
  refine Wp_ifn (by rw [show (30 : Int32) = iv 30 from iv_lit _, iv_eq (by omega) (by omega) (by omega) (by omega)]; omega) ?_
  refine Wp_ifn (by rw [show (20 : Int32) = iv 20 from iv_lit _, iv_eq (by omega) (by omega) (by omega) (by omega)]; omega) ?_
  refine Wp_ifn (by rw [show (21 : Int32) = iv 21 from iv_lit _, iv_eq (by omega) (by omega) (by omega) (by omega)]; omega) ?_
  refine Wp_ifp (by rw [show (22 : Int32) = iv 22 from iv_lit _, iv_eq (by omega) (by omega) (by omega) (by omega)]; omega) ?_
  refine Wp_bn (p92_28 s) (Wp_ck (by rw [k110 s]) (Wp_ck (by rw [k110 s]; exact inb_iv (by omega) (by omega) (by omega)) (Wp_lt ?_)))
  rw [ix_nat (by omega)]
  exact k
theorem wk24 {N xb en d j fu : Nat} {c : Int} {h : PH} {Q : Int32 → PH → Prop} (m : MaM xb en h) (hj : j < en) (hc : hI h 100 j = iv c) (cc : c = 24) (k : Wp (Mo_worked_b137 N (Mo_worked_b14 N fu) 92 (iv xb) (iv d) (iv j) (iv c) h) Q) : Wp (Mo_worked_b14 N (fu + 1) 92 (iv xb) (iv d) (iv j) h) Q := by
  obtain ⟨s, hx, he, e1⟩ := m
  rw [Mo_worked_b14]
  refine Wp_ck (by rw [k92 s]) (Wp_bn (p92_15 s) (Wp_ck (by rw [k99 s]) (Wp_ck (by rw [k99 s]; exact inb_iv (by omega) (by omega) (by omega)) ?_)))
  rw [ix_nat (by omega), e1]
  refine Wp_ifn (by rw [iv_le (by omega) (by omega) (by omega) (by omega)]; omega) (Wp_bn (p92_16 s) (Wp_ck (by rw [k100 s]) (Wp_ck (by rw [k100 s]; exact inb_iv (by omega) (by omega) (by omega)) ?_)))
  rw [ix_nat (by omega), hc]
  refine Wp_ifn (by rw [show (28 : Int32) = iv 28 from iv_lit _, iv_eq (by omega) (by omega) (by omega) (by omega)]; omega) ?_
  refine Wp_ifn (by rw [show (30 : Int32) = iv 30 from iv_lit _, iv_eq (by omega) (by omega) (by omega) (by omega)]; omega) ?_
  refine Wp_ifn (by rw [show (20 : Int32) = iv 20 from iv_lit _, iv_eq (by omega) (by omega) (by omega) (by omega)]; omega) ?_
  refine Wp_ifn (by rw [show (21 : Int32) = iv 21 from iv_lit _, iv_eq (by omega) (by omega) (by omega) (by omega)]; omega) ?_
  refine Wp_ifn (by rw [show (22 : Int32) = iv 22 from iv_lit _, iv_eq (by omega) (by omega) (by omega) (by omega)]; omega) ?_
  refine Wp_ifp (by rw [show (24 : Int32) = iv 24 from iv_lit _, iv_eq (by omega) (by omega) (by omega) (by omega)]; omega) ?_
  exact k
theorem wk25 {N xb en d j fu : Nat} {c : Int} {h : PH} {Q : Int32 → PH → Prop} (m : MaM xb en h) (hj : j < en) (hc : hI h 100 j = iv c) (cc : c = 25) (k : Wp (Mo_worked_b137 N (Mo_worked_b14 N fu) 92 (iv xb) (iv d) (iv j) (iv c) h) Q) : Wp (Mo_worked_b14 N (fu + 1) 92 (iv xb) (iv d) (iv j) h) Q := by
  obtain ⟨s, hx, he, e1⟩ := m
  rw [Mo_worked_b14]
  refine Wp_ck (by rw [k92 s]) (Wp_bn (p92_15 s) (Wp_ck (by rw [k99 s]) (Wp_ck (by rw [k99 s]; exact inb_iv (by omega) (by omega) (by omega)) ?_)))
  rw [ix_nat (by omega), e1]
  refine Wp_ifn (by rw [iv_le (by omega) (by omega) (by omega) (by omega)]; omega) (Wp_bn (p92_16 s) (Wp_ck (by rw [k100 s]) (Wp_ck (by rw [k100 s]; exact inb_iv (by omega) (by omega) (by omega)) ?_)))
  rw [ix_nat (by omega), hc]
  refine Wp_ifn (by rw [show (28 : Int32) = iv 28 from iv_lit _, iv_eq (by omega) (by omega) (by omega) (by omega)]; omega) ?_
  refine Wp_ifn (by rw [show (30 : Int32) = iv 30 from iv_lit _, iv_eq (by omega) (by omega) (by omega) (by omega)]; omega) ?_
  refine Wp_ifn (by rw [show (20 : Int32) = iv 20 from iv_lit _, iv_eq (by omega) (by omega) (by omega) (by omega)]; omega) ?_
  refine Wp_ifn (by rw [show (21 : Int32) = iv 21 from iv_lit _, iv_eq (by omega) (by omega) (by omega) (by omega)]; omega) ?_
  refine Wp_ifn (by rw [show (22 : Int32) = iv 22 from iv_lit _, iv_eq (by omega) (by omega) (by omega) (by omega)]; omega) ?_
  refine Wp_ifn (by rw [show (24 : Int32) = iv 24 from iv_lit _, iv_eq (by omega) (by omega) (by omega) (by omega)]; omega) ?_
  refine Wp_ifp (by rw [show (25 : Int32) = iv 25 from iv_lit _, iv_eq (by omega) (by omega) (by omega) (by omega)]; omega) ?_
  exact k
theorem wk26 {N xb en d j fu : Nat} {c : Int} {h : PH} {Q : Int32 → PH → Prop} (m : MaM xb en h) (hj : j < en) (hc : hI h 100 j = iv c) (cc : c = 26) (k : Wp (Mo_worked_b194 N (Mo_worked_b14 N fu) 92 (iv xb) (iv d) (iv j) (iv c) h) Q) : Wp (Mo_worked_b14 N (fu + 1) 92 (iv xb) (iv d) (iv j) h) Q := by
  obtain ⟨s, hx, he, e1⟩ := m
  rw [Mo_worked_b14]
  refine Wp_ck (by rw [k92 s]) (Wp_bn (p92_15 s) (Wp_ck (by rw [k99 s]) (Wp_ck (by rw [k99 s]; exact inb_iv (by omega) (by omega) (by omega)) ?_)))
  rw [ix_nat (by omega), e1]
  refine Wp_ifn (by rw [iv_le (by omega) (by omega) (by omega) (by omega)]; omega) (Wp_bn (p92_16 s) (Wp_ck (by rw [k100 s]) (Wp_ck (by rw [k100 s]; exact inb_iv (by omega) (by omega) (by omega)) ?_)))
  rw [ix_nat (by omega), hc]
  refine Wp_ifn (by rw [show (28 : Int32) = iv 28 from iv_lit _, iv_eq (by omega) (by omega) (by omega) (by omega)]; omega) ?_
  refine Wp_ifn (by rw [show (30 : Int32) = iv 30 from iv_lit _, iv_eq (by omega) (by omega) (by omega) (by omega)]; omega) ?_
  refine Wp_ifn (by rw [show (20 : Int32) = iv 20 from iv_lit _, iv_eq (by omega) (by omega) (by omega) (by omega)]; omega) ?_
  refine Wp_ifn (by rw [show (21 : Int32) = iv 21 from iv_lit _, iv_eq (by omega) (by omega) (by omega) (by omega)]; omega) ?_
  refine Wp_ifn (by rw [show (22 : Int32) = iv 22 from iv_lit _, iv_eq (by omega) (by omega) (by omega) (by omega)]; omega) ?_
  refine Wp_ifn (by rw [show (24 : Int32) = iv 24 from iv_lit _, iv_eq (by omega) (by omega) (by omega) (by omega)]; omega) ?_
  refine Wp_ifn (by rw [show (25 : Int32) = iv 25 from iv_lit _, iv_eq (by omega) (by omega) (by omega) (by omega)]; omega) ?_
  refine Wp_ifp (by rw [show (26 : Int32) = iv 26 from iv_lit _, iv_eq (by omega) (by omega) (by omega) (by omega)]; omega) ?_
  exact k
theorem wk27 {N xb en d j fu : Nat} {c : Int} {h : PH} {Q : Int32 → PH → Prop} (m : MaM xb en h) (hj : j < en) (hc : hI h 100 j = iv c) (cc : c = 27) (k : Wp (Mo_worked_b194 N (Mo_worked_b14 N fu) 92 (iv xb) (iv d) (iv j) (iv c) h) Q) : Wp (Mo_worked_b14 N (fu + 1) 92 (iv xb) (iv d) (iv j) h) Q := by
  obtain ⟨s, hx, he, e1⟩ := m
  rw [Mo_worked_b14]
  refine Wp_ck (by rw [k92 s]) (Wp_bn (p92_15 s) (Wp_ck (by rw [k99 s]) (Wp_ck (by rw [k99 s]; exact inb_iv (by omega) (by omega) (by omega)) ?_)))
  rw [ix_nat (by omega), e1]
  refine Wp_ifn (by rw [iv_le (by omega) (by omega) (by omega) (by omega)]; omega) (Wp_bn (p92_16 s) (Wp_ck (by rw [k100 s]) (Wp_ck (by rw [k100 s]; exact inb_iv (by omega) (by omega) (by omega)) ?_)))
  rw [ix_nat (by omega), hc]
  refine Wp_ifn (by rw [show (28 : Int32) = iv 28 from iv_lit _, iv_eq (by omega) (by omega) (by omega) (by omega)]; omega) ?_
  refine Wp_ifn (by rw [show (30 : Int32) = iv 30 from iv_lit _, iv_eq (by omega) (by omega) (by omega) (by omega)]; omega) ?_
  refine Wp_ifn (by rw [show (20 : Int32) = iv 20 from iv_lit _, iv_eq (by omega) (by omega) (by omega) (by omega)]; omega) ?_
  refine Wp_ifn (by rw [show (21 : Int32) = iv 21 from iv_lit _, iv_eq (by omega) (by omega) (by omega) (by omega)]; omega) ?_
  refine Wp_ifn (by rw [show (22 : Int32) = iv 22 from iv_lit _, iv_eq (by omega) (by omega) (by omega) (by omega)]; omega) ?_
  refine Wp_ifn (by rw [show (24 : Int32) = iv 24 from iv_lit _, iv_eq (by omega) (by omega) (by omega) (by omega)]; omega) ?_
  refine Wp_ifn (by rw [show (25 : Int32) = iv 25 from iv_lit _, iv_eq (by omega) (by omega) (by omega) (by omega)]; omega) ?_
  refine Wp_ifn (by rw [show (26 : Int32) = iv 26 from iv_lit _, iv_eq (by omega) (by omega) (by omega) (by omega)]; omega) ?_
  refine Wp_ifp (by rw [show (27 : Int32) = iv 27 from iv_lit _, iv_eq (by omega) (by omega) (by omega) (by omega)]; omega) ?_
  exact k
theorem wk29 {N xb en d j fu : Nat} {c : Int} {h : PH} {Q : Int32 → PH → Prop} (m : MaM xb en h) (hj : j < en) (hc : hI h 100 j = iv c) (cc : c = 29) (k : Wp (Mo_worked_b243 N (Mo_worked_b14 N fu) 0 92 (iv xb) (iv d) (iv j) (iv c) h) Q) : Wp (Mo_worked_b14 N (fu + 1) 92 (iv xb) (iv d) (iv j) h) Q := by
  obtain ⟨s, hx, he, e1⟩ := m
  rw [Mo_worked_b14]
  refine Wp_ck (by rw [k92 s]) (Wp_bn (p92_15 s) (Wp_ck (by rw [k99 s]) (Wp_ck (by rw [k99 s]; exact inb_iv (by omega) (by omega) (by omega)) ?_)))
  rw [ix_nat (by omega), e1]
  refine Wp_ifn (by rw [iv_le (by omega) (by omega) (by omega) (by omega)]; omega) (Wp_bn (p92_16 s) (Wp_ck (by rw [k100 s]) (Wp_ck (by rw [k100 s]; exact inb_iv (by omega) (by omega) (by omega)) ?_)))
  rw [ix_nat (by omega), hc]
  refine Wp_ifn (by rw [show (28 : Int32) = iv 28 from iv_lit _, iv_eq (by omega) (by omega) (by omega) (by omega)]; omega) ?_
  refine Wp_ifn (by rw [show (30 : Int32) = iv 30 from iv_lit _, iv_eq (by omega) (by omega) (by omega) (by omega)]; omega) ?_
  refine Wp_ifn (by rw [show (20 : Int32) = iv 20 from iv_lit _, iv_eq (by omega) (by omega) (by omega) (by omega)]; omega) ?_
  refine Wp_ifn (by rw [show (21 : Int32) = iv 21 from iv_lit _, iv_eq (by omega) (by omega) (by omega) (by omega)]; omega) ?_
  refine Wp_ifn (by rw [show (22 : Int32) = iv 22 from iv_lit _, iv_eq (by omega) (by omega) (by omega) (by omega)]; omega) ?_
  refine Wp_ifn (by rw [show (24 : Int32) = iv 24 from iv_lit _, iv_eq (by omega) (by omega) (by omega) (by omega)]; omega) ?_
  refine Wp_ifn (by rw [show (25 : Int32) = iv 25 from iv_lit _, iv_eq (by omega) (by omega) (by omega) (by omega)]; omega) ?_
  refine Wp_ifn (by rw [show (26 : Int32) = iv 26 from iv_lit _, iv_eq (by omega) (by omega) (by omega) (by omega)]; omega) ?_
  refine Wp_ifn (by rw [show (27 : Int32) = iv 27 from iv_lit _, iv_eq (by omega) (by omega) (by omega) (by omega)]; omega) ?_
  refine Wp_ifp (by rw [show (100 : Int32) = iv 100 from iv_lit _, iv_lt (by omega) (by omega) (by omega) (by omega)]; omega) ?_
  refine Wp_ifp (by rw [show (20 : Int32) = iv 20 from iv_lit _, iv_le (by omega) (by omega) (by omega) (by omega)]; omega) ?_
  exact k
theorem wkF {N xb en d j fu : Nat} {c : Int} {h : PH} {Q : Int32 → PH → Prop} (m : MaM xb en h) (hj : j < en) (hc : hI h 100 j = iv c) (cc : 1 ≤ c ∧ c ≤ 5) (k : Wp (Mo_worked_b243 N (Mo_worked_b14 N fu) (hI h 112 c.toNat) 92 (iv xb) (iv d) (iv j) (iv c) h) Q) : Wp (Mo_worked_b14 N (fu + 1) 92 (iv xb) (iv d) (iv j) h) Q := by
  obtain ⟨s, hx, he, e1⟩ := m
  rw [Mo_worked_b14]
  refine Wp_ck (by rw [k92 s]) (Wp_bn (p92_15 s) (Wp_ck (by rw [k99 s]) (Wp_ck (by rw [k99 s]; exact inb_iv (by omega) (by omega) (by omega)) ?_)))
  rw [ix_nat (by omega), e1]
  refine Wp_ifn (by rw [iv_le (by omega) (by omega) (by omega) (by omega)]; omega) (Wp_bn (p92_16 s) (Wp_ck (by rw [k100 s]) (Wp_ck (by rw [k100 s]; exact inb_iv (by omega) (by omega) (by omega)) ?_)))
  rw [ix_nat (by omega), hc]
  refine Wp_ifn (by rw [show (28 : Int32) = iv 28 from iv_lit _, iv_eq (by omega) (by omega) (by omega) (by omega)]; omega) ?_
  refine Wp_ifn (by rw [show (30 : Int32) = iv 30 from iv_lit _, iv_eq (by omega) (by omega) (by omega) (by omega)]; omega) ?_
  refine Wp_ifn (by rw [show (20 : Int32) = iv 20 from iv_lit _, iv_eq (by omega) (by omega) (by omega) (by omega)]; omega) ?_
  refine Wp_ifn (by rw [show (21 : Int32) = iv 21 from iv_lit _, iv_eq (by omega) (by omega) (by omega) (by omega)]; omega) ?_
  refine Wp_ifn (by rw [show (22 : Int32) = iv 22 from iv_lit _, iv_eq (by omega) (by omega) (by omega) (by omega)]; omega) ?_
  refine Wp_ifn (by rw [show (24 : Int32) = iv 24 from iv_lit _, iv_eq (by omega) (by omega) (by omega) (by omega)]; omega) ?_
  refine Wp_ifn (by rw [show (25 : Int32) = iv 25 from iv_lit _, iv_eq (by omega) (by omega) (by omega) (by omega)]; omega) ?_
  refine Wp_ifn (by rw [show (26 : Int32) = iv 26 from iv_lit _, iv_eq (by omega) (by omega) (by omega) (by omega)]; omega) ?_
  refine Wp_ifn (by rw [show (27 : Int32) = iv 27 from iv_lit _, iv_eq (by omega) (by omega) (by omega) (by omega)]; omega) ?_
  refine Wp_ifp (by rw [show (100 : Int32) = iv 100 from iv_lit _, iv_lt (by omega) (by omega) (by omega) (by omega)]; omega) ?_
  refine Wp_ifn (by rw [show (20 : Int32) = iv 20 from iv_lit _, iv_le (by omega) (by omega) (by omega) (by omega)]; omega) ?_
  refine Wp_bn (p92_30 s) (Wp_ck (by rw [k112 s]) (Wp_ck (by rw [k112 s]; exact inb_iv (by omega) (by omega) (by omega)) ?_))
  rw [ix_iv (by omega) (by omega)]
  exact k
theorem wkN {N xb en d j fu : Nat} {c : Int} {h : PH} {Q : Int32 → PH → Prop} (m : MaM xb en h) (hj : j < en) (hc : hI h 100 j = iv c) (cc : 100 ≤ c ∧ c ≤ 10099) (k : Wp (Mo_worked_b243 N (Mo_worked_b14 N fu) (iv (c - 100)) 92 (iv xb) (iv d) (iv j) (iv c) h) Q) : Wp (Mo_worked_b14 N (fu + 1) 92 (iv xb) (iv d) (iv j) h) Q := by
  obtain ⟨s, hx, he, e1⟩ := m
  rw [Mo_worked_b14]
  refine Wp_ck (by rw [k92 s]) (Wp_bn (p92_15 s) (Wp_ck (by rw [k99 s]) (Wp_ck (by rw [k99 s]; exact inb_iv (by omega) (by omega) (by omega)) ?_)))
  rw [ix_nat (by omega), e1]
  refine Wp_ifn (by rw [iv_le (by omega) (by omega) (by omega) (by omega)]; omega) (Wp_bn (p92_16 s) (Wp_ck (by rw [k100 s]) (Wp_ck (by rw [k100 s]; exact inb_iv (by omega) (by omega) (by omega)) ?_)))
  rw [ix_nat (by omega), hc]
  refine Wp_ifn (by rw [show (28 : Int32) = iv 28 from iv_lit _, iv_eq (by omega) (by omega) (by omega) (by omega)]; omega) ?_
  refine Wp_ifn (by rw [show (30 : Int32) = iv 30 from iv_lit _, iv_eq (by omega) (by omega) (by omega) (by omega)]; omega) ?_
  refine Wp_ifn (by rw [show (20 : Int32) = iv 20 from iv_lit _, iv_eq (by omega) (by omega) (by omega) (by omega)]; omega) ?_
  refine Wp_ifn (by rw [show (21 : Int32) = iv 21 from iv_lit _, iv_eq (by omega) (by omega) (by omega) (by omega)]; omega) ?_
  refine Wp_ifn (by rw [show (22 : Int32) = iv 22 from iv_lit _, iv_eq (by omega) (by omega) (by omega) (by omega)]; omega) ?_
  refine Wp_ifn (by rw [show (24 : Int32) = iv 24 from iv_lit _, iv_eq (by omega) (by omega) (by omega) (by omega)]; omega) ?_
  refine Wp_ifn (by rw [show (25 : Int32) = iv 25 from iv_lit _, iv_eq (by omega) (by omega) (by omega) (by omega)]; omega) ?_
  refine Wp_ifn (by rw [show (26 : Int32) = iv 26 from iv_lit _, iv_eq (by omega) (by omega) (by omega) (by omega)]; omega) ?_
  refine Wp_ifn (by rw [show (27 : Int32) = iv 27 from iv_lit _, iv_eq (by omega) (by omega) (by omega) (by omega)]; omega) ?_
  refine Wp_ifn (by rw [show (100 : Int32) = iv 100 from iv_lit _, iv_lt (by omega) (by omega) (by omega) (by omega)]; omega) ?_
  rw [show (100 : Int32) = iv 100 from iv_lit _, iv_sub]
  exact k
/-- the machine's cells, all below depth d kept -/
def FrMd (d : Nat) (h h2 : PH) : Prop := FrI (fun b => 103 ≤ b ∧ b ≤ 111) h h2 ∧ ∀ b i : Nat, 103 ≤ b → b ≤ 111 → i < d → hI h2 b i = hI h b i
theorem FrMd.rf {d : Nat} {h : PH} : FrMd d h h := ⟨FrI.rf, fun _ _ _ _ _ => rfl⟩
theorem FrMd.tr {d : Nat} {h h1 h2 : PH} (a : FrMd d h h1) (b : FrMd d h1 h2) : FrMd d h h2 := ⟨a.1.tr b.1, fun c i x y z => (b.2 c i x y z).trans (a.2 c i x y z)⟩
theorem FrMd.lo {d e : Nat} {h h2 : PH} (a : FrMd d h h2) (l : e ≤ d) : FrMd e h h2 := ⟨a.1, fun c i x y z => a.2 c i x y (by omega)⟩
theorem FrMd.w {d : Nat} {h0 h : PH} {a i : Nat} {v : Int32} (f : FrMd d h0 h) (ha : 103 ≤ a ∧ a ≤ 111) (hi : d ≤ i) : FrMd d h0 (wI h a i v) := f.tr ⟨FrI.rf.w ha, fun b j _ _ hj => by rw [hI_wI, if_neg (by omega)]⟩
theorem FrMd.ma {d xb en : Nat} {h h2 : PH} (f : FrMd d h h2) (m : MaM xb en h) : MaM xb en h2 := ⟨f.1.shp m.1, m.2.1, m.2.2.1, (f.1.I (by omega) _).trans m.2.2.2⟩
/-- what the sum comes to at depth d -/
def SmS (d : Nat) (h : PH) : Int32 := if hI h 108 d = 21 then hI h 107 d - hI h 109 d else hI h 107 d + hI h 109 d
theorem opensM {N d : Nat} {h : PH} {Q : Unit → PH → Prop} (s : Shp h) (hd : d < 7) (k : ∀ h2, FrMd d h h2 → hI h2 104 d = 0 → hI h2 106 d = 0 → hI h2 107 d = 0 → hI h2 108 d = 20 → hI h2 110 d = 0 → hI h2 111 = hI h 111 → Q () h2) : Wp (Mo_opens N 92 (iv d) h) Q := by
  unfold Mo_opens
  refine Wp_ck (by rw [k92 s]) (Wp_bn (p92_22 s) (Wp_ck (by rw [k104 s]) (Wp_ck (by rw [k104 s]; exact inb_iv (by omega) (by omega) (by omega)) (Wp_lt ?_))))
  rw [ix_nat (by omega)]
  have f1 : FrMd d h (wI h 104 d 0) := FrMd.rf.w (by omega) (by omega)
  have s1 := f1.1.shp s
  refine Wp_bn (p92_24 s1) (Wp_ck (by rw [k106 s1]) (Wp_ck (by rw [k106 s1]; exact inb_iv (by omega) (by omega) (by omega)) (Wp_lt ?_)))
  have f2 := f1.w (a := 106) (i := d) (v := 0) (by omega) (by omega)
  have s2 := f2.1.shp s
  refine Wp_bn (p92_25 s2) (Wp_ck (by rw [k107 s2]) (Wp_ck (by rw [k107 s2]; exact inb_iv (by omega) (by omega) (by omega)) (Wp_lt ?_)))
  have f3 := f2.w (a := 107) (i := d) (v := 0) (by omega) (by omega)
  have s3 := f3.1.shp s
  refine Wp_bn (p92_26 s3) (Wp_ck (by rw [k108 s3]) (Wp_ck (by rw [k108 s3]; exact inb_iv (by omega) (by omega) (by omega)) (Wp_lt ?_)))
  have f4 := f3.w (a := 108) (i := d) (v := 20) (by omega) (by omega)
  have s4 := f4.1.shp s
  refine Wp_bn (p92_28 s4) (Wp_ck (by rw [k110 s4]) (Wp_ck (by rw [k110 s4]; exact inb_iv (by omega) (by omega) (by omega)) (Wp_ltr ?_)))
  refine k _ (f4.w (by omega) (by omega)) ?_ ?_ ?_ ?_ ?_ ?_
  · simp [hI_wI]
  · simp [hI_wI]
  · simp [hI_wI]
  · simp [hI_wI]
  · simp [hI_wI]
  · funext i
    simp [hI_wI]
theorem sumsM {N d : Nat} {h : PH} {Q : Unit → PH → Prop} (s : Shp h) (hd : d < 7) (k : Q () (wI (wI h 107 d (SmS d h)) 110 d 0)) : Wp (Mo_sums N 92 (iv d) h) Q := by
  have b45 : ∀ v : Int32, v = SmS d h → Wp (Mo_sums_b45 N (some 107) (iv d) v 92 (iv d) h) Q := by
    rintro v rfl
    unfold Mo_sums_b45
    refine Wp_bn rfl (Wp_ck (by rw [k107 s]) (Wp_ck (by rw [k107 s]; exact inb_iv (by omega) (by omega) (by omega)) (Wp_lt ?_)))
    rw [ix_nat (by omega)]
    have s1 : Shp (wI h 107 d (SmS d h)) := s
    refine Wp_ck (by rw [k92 s1]) (Wp_bn (p92_28 s1) (Wp_ck (by rw [k110 s1]) (Wp_ck (by rw [k110 s1]; exact inb_iv (by omega) (by omega) (by omega)) (Wp_ltr k))))
  unfold Mo_sums
  refine Wp_ck (by rw [k92 s]) (Wp_bn (p92_26 s) (Wp_ck (by rw [k108 s]) (Wp_ck (by rw [k108 s]; exact inb_iv (by omega) (by omega) (by omega)) ?_)))
  rw [ix_nat (by omega), p92_25 s]
  refine Wp_if (fun c => ?_) (fun c => ?_)
  · refine Wp_bn rfl (Wp_ck (by rw [k107 s]) (Wp_ck (by rw [k107 s]; exact inb_iv (by omega) (by omega) (by omega)) (Wp_bn (p92_27 s) (Wp_ck (by rw [k109 s]) (Wp_ck (by rw [k109 s]; exact inb_iv (by omega) (by omega) (by omega)) (b45 _ ?_))))))
    unfold SmS
    rw [if_pos c]
  · refine Wp_bn rfl (Wp_ck (by rw [k107 s]) (Wp_ck (by rw [k107 s]; exact inb_iv (by omega) (by omega) (by omega)) (Wp_bn (p92_27 s) (Wp_ck (by rw [k109 s]) (Wp_ck (by rw [k109 s]; exact inb_iv (by omega) (by omega) (by omega)) (b45 _ ?_))))))
    unfold SmS
    rw [if_neg c]
