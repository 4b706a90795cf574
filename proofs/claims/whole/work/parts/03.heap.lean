/-! A PURE HEAP, typed: cells by number; what an object or array holds, by cell and place. -/
abbrev PH : Type := (Nat × Nat × Nat) × (Nat → Nat × Nat) × (Nat → Nat → Int32) × (Nat → Nat → Int64) × (Nat → Nat → Bool) × (Nat → Nat → Option Nat)
def hN (h : PH) : Nat := h.1.1
def hS (h : PH) : Nat := h.1.2.1
def hE (h : PH) : Nat := h.1.2.2
def hK (h : PH) : Nat → Nat × Nat := h.2.1
def hI (h : PH) : Nat → Nat → Int32 := h.2.2.1
def hJ (h : PH) : Nat → Nat → Int64 := h.2.2.2.1
def hZ (h : PH) : Nat → Nat → Bool := h.2.2.2.2.1
def hR (h : PH) : Nat → Nat → Option Nat := h.2.2.2.2.2
def u2 {α : Type} (f : Nat → Nat → α) (a i : Nat) (v : α) : Nat → Nat → α := fun b j => if b = a ∧ j = i then v else f b j
def r2 {α : Type} (f : Nat → Nat → α) (a : Nat) (v : α) : Nat → Nat → α := fun b j => if b = a then v else f b j
def wI (h : PH) (a i : Nat) (v : Int32) : PH := (h.1, h.2.1, u2 h.2.2.1 a i v, h.2.2.2)
def wJ (h : PH) (a i : Nat) (v : Int64) : PH := (h.1, h.2.1, h.2.2.1, u2 h.2.2.2.1 a i v, h.2.2.2.2)
def wZ (h : PH) (a i : Nat) (v : Bool) : PH := (h.1, h.2.1, h.2.2.1, h.2.2.2.1, u2 h.2.2.2.2.1 a i v, h.2.2.2.2.2)
def wR (h : PH) (a i : Nat) (v : Option Nat) : PH := (h.1, h.2.1, h.2.2.1, h.2.2.2.1, h.2.2.2.2.1, u2 h.2.2.2.2.2 a i v)
def nw (h : PH) (k : Nat × Nat) (m : Nat) : PH := ((h.1.1 + 1, h.1.2.1 + m, h.1.2.2), (fun b => if b = h.1.1 then k else h.2.1 b), r2 h.2.2.1 h.1.1 0, r2 h.2.2.2.1 h.1.1 0, r2 h.2.2.2.2.1 h.1.1 false, r2 h.2.2.2.2.2 h.1.1 none)
/-- an exception was made -/
def tw (h : PH) : PH := ((h.1.1, h.1.2.1 + 6, h.1.2.2 + 1), h.2)
def bI (b : Bool) : Int32 := match b with
  | true => 1
  | false => 0
def inb (i : Int32) (n : Nat) : Bool := decide (¬ (i < 0 ∨ n ≤ i.toNatClampNeg))
def ix (i : Int32) : Nat := i.toNatClampNeg
theorem hN_wI (h : PH) (a i v) : hN (wI h a i v) = hN h := rfl
theorem hN_wJ (h : PH) (a i v) : hN (wJ h a i v) = hN h := rfl
theorem hN_wZ (h : PH) (a i v) : hN (wZ h a i v) = hN h := rfl
theorem hN_wR (h : PH) (a i v) : hN (wR h a i v) = hN h := rfl
theorem hN_nw (h : PH) (k m) : hN (nw h k m) = hN h + 1 := rfl
theorem hS_wI (h : PH) (a i v) : hS (wI h a i v) = hS h := rfl
theorem hS_wJ (h : PH) (a i v) : hS (wJ h a i v) = hS h := rfl
theorem hS_wZ (h : PH) (a i v) : hS (wZ h a i v) = hS h := rfl
theorem hS_wR (h : PH) (a i v) : hS (wR h a i v) = hS h := rfl
theorem hE_wI (h : PH) (a i v) : hE (wI h a i v) = hE h := rfl
theorem hE_wJ (h : PH) (a i v) : hE (wJ h a i v) = hE h := rfl
theorem hE_wZ (h : PH) (a i v) : hE (wZ h a i v) = hE h := rfl
theorem hE_wR (h : PH) (a i v) : hE (wR h a i v) = hE h := rfl
theorem hE_nw (h : PH) (k m) : hE (nw h k m) = hE h := rfl
theorem hS_nw (h : PH) (k m) : hS (nw h k m) = hS h + m := rfl
theorem hK_wI (h : PH) (a i v) : hK (wI h a i v) = hK h := rfl
theorem hK_wJ (h : PH) (a i v) : hK (wJ h a i v) = hK h := rfl
theorem hK_wZ (h : PH) (a i v) : hK (wZ h a i v) = hK h := rfl
theorem hK_wR (h : PH) (a i v) : hK (wR h a i v) = hK h := rfl
theorem hK_nw (h : PH) (k m b) : hK (nw h k m) b = if b = hN h then k else hK h b := rfl
theorem hI_wI (h : PH) (a i v b j) : hI (wI h a i v) b j = if b = a ∧ j = i then v else hI h b j := rfl
theorem hI_wJ (h : PH) (a i v) : hI (wJ h a i v) = hI h := rfl
theorem hI_wZ (h : PH) (a i v) : hI (wZ h a i v) = hI h := rfl
theorem hI_wR (h : PH) (a i v) : hI (wR h a i v) = hI h := rfl
theorem hI_nw (h : PH) (k m b j) : hI (nw h k m) b j = if b = hN h then 0 else hI h b j := rfl
theorem hJ_wI (h : PH) (a i v) : hJ (wI h a i v) = hJ h := rfl
theorem hJ_wJ (h : PH) (a i v b j) : hJ (wJ h a i v) b j = if b = a ∧ j = i then v else hJ h b j := rfl
theorem hJ_wZ (h : PH) (a i v) : hJ (wZ h a i v) = hJ h := rfl
theorem hJ_wR (h : PH) (a i v) : hJ (wR h a i v) = hJ h := rfl
theorem hJ_nw (h : PH) (k m b j) : hJ (nw h k m) b j = if b = hN h then 0 else hJ h b j := rfl
theorem hZ_wI (h : PH) (a i v) : hZ (wI h a i v) = hZ h := rfl
theorem hZ_wJ (h : PH) (a i v) : hZ (wJ h a i v) = hZ h := rfl
theorem hZ_wZ (h : PH) (a i v b j) : hZ (wZ h a i v) b j = if b = a ∧ j = i then v else hZ h b j := rfl
theorem hZ_wR (h : PH) (a i v) : hZ (wR h a i v) = hZ h := rfl
theorem hZ_nw (h : PH) (k m b j) : hZ (nw h k m) b j = if b = hN h then false else hZ h b j := rfl
theorem hR_wI (h : PH) (a i v) : hR (wI h a i v) = hR h := rfl
theorem hR_wJ (h : PH) (a i v) : hR (wJ h a i v) = hR h := rfl
theorem hR_wZ (h : PH) (a i v) : hR (wZ h a i v) = hR h := rfl
theorem hR_wR (h : PH) (a i v b j) : hR (wR h a i v) b j = if b = a ∧ j = i then v else hR h b j := rfl
theorem hR_nw (h : PH) (k m b j) : hR (nw h k m) b j = if b = hN h then none else hR h b j := rfl
def hLe (h h' : PH) : Prop := hN h ≤ hN h' ∧ hS h ≤ hS h' ∧ hE h ≤ hE h'
theorem hLe.rf {h : PH} : hLe h h := ⟨Nat.le_refl _, Nat.le_refl _, Nat.le_refl _⟩
theorem hLe.tr {h h1 h2 : PH} (a : hLe h h1) (b : hLe h1 h2) : hLe h h2 := ⟨Nat.le_trans a.1 b.1, Nat.le_trans a.2.1 b.2.1, Nat.le_trans a.2.2 b.2.2⟩
theorem inb_iff {i : Int32} {n : Nat} : inb i n = true ↔ vp_in i n := by simp [inb, vp_in]
theorem inb_in {i : Int32} {n : Nat} (h : inb i n = true) : vp_in i n := inb_iff.mp h
/-- what a value of the pure machine is on the real one -/
def sv (ad : Nat → Nat) : Value → Value
  | .ref k => .ref (ad k)
  | v => v
def okv (n : Nat) : Value → Prop
  | .ref k => k < n
  | _ => True
def okL (n : Nat) : List Value → Prop
  | [] => True
  | v :: l => okv n v ∧ okL n l
def okP (n : Nat) : List (Nat × Value) → Prop
  | [] => True
  | q :: l => okv n q.2 ∧ okP n l
def sP (ad : Nat → Nat) : List (Nat × Value) → List (Nat × Value)
  | [] => []
  | q :: l => (q.1, sv ad q.2) :: sP ad l
def sL (ad : Nat → Nat) : List Value → List Value
  | [] => []
  | v :: l => sv ad v :: sL ad l
theorem sv_rf (ad : Nat → Nat) (t : Option Nat) : sv ad (va_rf t) = va_rf (t.map ad) := by cases t <;> rfl
theorem sv_cat (ad : Nat → Nat) (v : Value) : (sv ad v).category = v.category := by cases v <;> rfl
theorem rf_cat (t : Option Nat) : (va_rf t).category = 1 := by cases t <;> rfl
theorem okv_rf {n : Nat} {t : Option Nat} (h : ∀ r, t = some r → r < n) : okv n (va_rf t) := by
  cases t with
  | none => trivial
  | some r => exact h r rfl
theorem okv_rf' {n : Nat} {t : Option Nat} (h : okv n (va_rf t)) : ∀ r, t = some r → r < n := by
  rintro r rfl
  exact h
theorem okv_mono {n m : Nat} (h : n ≤ m) {v : Value} (k : okv n v) : okv m v := by
  cases v <;> first | trivial | exact Nat.lt_of_lt_of_le k h
theorem okL_mono {n m : Nat} (h : n ≤ m) : ∀ {l : List Value}, okL n l → okL m l
  | [], _ => trivial
  | _ :: _, k => ⟨okv_mono h k.1, okL_mono h k.2⟩
theorem okP_mono {n m : Nat} (h : n ≤ m) : ∀ {l : List (Nat × Value)}, okP n l → okP m l
  | [], _ => trivial
  | _ :: _, k => ⟨okv_mono h k.1, okP_mono h k.2⟩
theorem sv_ext {ad ad' : Nat → Nat} {n : Nat} (h : ∀ k, k < n → ad' k = ad k) {v : Value} (k : okv n v) : sv ad' v = sv ad v := by
  cases v <;> first | rfl | (show Value.ref _ = Value.ref _; rw [h _ k])
theorem sL_ext {ad ad' : Nat → Nat} {n : Nat} (h : ∀ k, k < n → ad' k = ad k) : ∀ {l : List Value}, okL n l → sL ad' l = sL ad l
  | [], _ => rfl
  | _ :: _, k => by simp only [sL]; rw [sv_ext h k.1, sL_ext h k.2]
theorem sP_ext {ad ad' : Nat → Nat} {n : Nat} (h : ∀ k, k < n → ad' k = ad k) : ∀ {l : List (Nat × Value)}, okP n l → sP ad' l = sP ad l
  | [], _ => rfl
  | _ :: _, k => by simp only [sP]; rw [sv_ext h k.1, sP_ext h k.2]
theorem sL_app (ad : Nat → Nat) : ∀ (a b : List Value), sL ad (a ++ b) = sL ad a ++ sL ad b
  | [], _ => rfl
  | v :: a, b => by simp only [List.cons_append, sL]; rw [sL_app ad a b]
theorem sL_rev (ad : Nat → Nat) : ∀ (a : List Value), sL ad a.reverse = (sL ad a).reverse
  | [] => rfl
  | v :: a => by simp only [List.reverse_cons, sL]; rw [sL_app, sL_rev ad a]; rfl
theorem sL_len (ad : Nat → Nat) : ∀ (a : List Value), (sL ad a).length = a.length
  | [] => rfl
  | v :: a => by simp only [sL, List.length_cons]; rw [sL_len ad a]
theorem sL_cat (ad : Nat → Nat) : ∀ (a : List Value), ((sL ad a).map fun v => v.category).sum = (a.map fun v => v.category).sum
  | [] => rfl
  | v :: a => by simp only [sL, List.map_cons, List.sum_cons]; rw [sv_cat, sL_cat ad a]
theorem okL_app {n : Nat} : ∀ {a b : List Value}, okL n (a ++ b) ↔ okL n a ∧ okL n b
  | [], _ => ⟨fun h => ⟨trivial, h⟩, fun h => h.2⟩
  | v :: a, b => by
    show okv n v ∧ okL n (a ++ b) ↔ (okv n v ∧ okL n a) ∧ okL n b
    rw [okL_app, and_assoc]
theorem okL_rev {n : Nat} : ∀ {a : List Value}, okL n a.reverse ↔ okL n a
  | [] => Iff.rfl
  | v :: a => by
    rw [List.reverse_cons, okL_app, okL_rev]
    exact ⟨fun h => ⟨h.2.1, h.1⟩, fun h => ⟨h.2, h.1, trivial⟩⟩
/-- a local, by its place -/
def lk : List (Nat × Value) → Nat → Option Value
  | [], _ => none
  | q :: l, i => match Nat.beq q.1 i with
    | true => some q.2
    | false => lk l i
theorem lk_mem : ∀ {l : List (Nat × Value)} {i : Nat} {v : Value}, lk l i = some v → (i, v) ∈ l
  | [], _, _, h => by cases h
  | q :: l, i, v, h => by
    rw [lk] at h
    split at h
    · next e => cases h; have := Nat.eq_of_beq_eq_true e; subst this; exact List.mem_cons_self
    · exact List.mem_cons_of_mem _ (lk_mem h)
theorem lk_sP {ad : Nat → Nat} : ∀ {l : List (Nat × Value)} {i : Nat} {v : Value}, lk l i = some v → lk (sP ad l) i = some (sv ad v)
  | [], _, _, h => by cases h
  | q :: l, i, v, h => by
    rw [sP, lk]
    rw [lk] at h
    cases e : Nat.beq q.1 i with
    | true => rw [e] at h; cases h; rfl
    | false => rw [e] at h; exact lk_sP h
theorem lk_ok {n : Nat} : ∀ {l : List (Nat × Value)} {i : Nat} {v : Value}, lk l i = some v → okP n l → okv n v
  | [], _, _, h, _ => by cases h
  | q :: l, i, v, h, k => by
    rw [lk] at h
    split at h
    · cases h; exact k.1
    · exact lk_ok h k.2
def isJ : Value → Bool
  | .long _ => true
  | .double _ => true
  | _ => false
/-- what stays of the locals behind a store at place i, of one place or two -/
def dr1 (i : Nat) : List (Nat × Value) → List (Nat × Value)
  | [] => []
  | q :: l => match Nat.beq q.1 i with
    | true => dr1 i l
    | false => match Nat.beq (q.1 + 1) i with
      | false => q :: dr1 i l
      | true => match isJ q.2 with
        | true => dr1 i l
        | false => q :: dr1 i l
def dr2 (i : Nat) : List (Nat × Value) → List (Nat × Value)
  | [] => []
  | q :: l => match Nat.beq q.1 i with
    | true => dr2 i l
    | false => match Nat.beq q.1 (i + 1) with
      | true => dr2 i l
      | false => match Nat.beq (q.1 + 1) i with
        | false => q :: dr2 i l
        | true => match isJ q.2 with
          | true => dr2 i l
          | false => q :: dr2 i l
def s1 (l : List (Nat × Value)) (i : Nat) (v : Value) : List (Nat × Value) := (i, v) :: dr1 i l
def s2 (l : List (Nat × Value)) (i : Nat) (v : Value) : List (Nat × Value) := (i, v) :: dr2 i l
theorem isJ_cat {v : Value} : isJ v = (v.category == 2) := by cases v <;> rfl
theorem dr1_mem {ad : Nat → Nat} {i : Nat} : ∀ {l : List (Nat × Value)} {q : Nat × Value}, q ∈ sP ad (dr1 i l) → q ∈ (sP ad l).filter (fun q => !(q.1 == i) && !(q.1 + 1 == i && q.2.category == 2))
  | [], _, h => by cases h
  | a :: l, q, h => by
    rw [sP, List.filter_cons]
    rw [dr1] at h
    simp only [sv_cat]
    split at h
    · next e =>
      have e' : (a.1 == i) = true := by rw [beq_iff_eq]; exact Nat.eq_of_beq_eq_true e
      rw [e']
      simp only [Bool.not_true, Bool.false_and, Bool.false_eq_true, if_false]
      exact dr1_mem h
    · next e =>
      have e' : (a.1 == i) = false := by rw [beq_eq_false_iff_ne]; exact Nat.ne_of_beq_eq_false e
      rw [e']
      split at h
      · next f =>
        have f' : (a.1 + 1 == i) = false := by rw [beq_eq_false_iff_ne]; exact Nat.ne_of_beq_eq_false f
        rw [f']
        simp only [Bool.not_false, Bool.false_and, Bool.and_self, if_true]
        rcases List.mem_cons.mp h with rfl | h
        · exact List.mem_cons_self
        · exact List.mem_cons_of_mem _ (dr1_mem h)
      · split at h
        · next f =>
          split
          · exact List.mem_cons_of_mem _ (dr1_mem h)
          · exact dr1_mem h
        · next f =>
          rw [isJ_cat] at f
          rw [f]
          simp only [Bool.not_false, Bool.and_false, Bool.and_self, if_true]
          rcases List.mem_cons.mp h with rfl | h
          · exact List.mem_cons_self
          · exact List.mem_cons_of_mem _ (dr1_mem h)
theorem dr2_mem {ad : Nat → Nat} {i : Nat} : ∀ {l : List (Nat × Value)} {q : Nat × Value}, q ∈ sP ad (dr2 i l) → q ∈ (sP ad l).filter (fun q => !(q.1 == i) && (!(q.1 == i + 1) && !(q.1 + 1 == i && q.2.category == 2)))
  | [], _, h => by cases h
  | a :: l, q, h => by
    rw [sP, List.filter_cons]
    rw [dr2] at h
    simp only [sv_cat]
    split at h
    · next e =>
      have e' : (a.1 == i) = true := by rw [beq_iff_eq]; exact Nat.eq_of_beq_eq_true e
      rw [e']
      simp only [Bool.not_true, Bool.false_and, Bool.false_eq_true, if_false]
      exact dr2_mem h
    · next e =>
      have e' : (a.1 == i) = false := by rw [beq_eq_false_iff_ne]; exact Nat.ne_of_beq_eq_false e
      rw [e']
      split at h
      · next e2 =>
        have e2' : (a.1 == i + 1) = true := by rw [beq_iff_eq]; exact Nat.eq_of_beq_eq_true e2
        rw [e2']
        simp only [Bool.not_true, Bool.false_and, Bool.and_false, Bool.false_eq_true, if_false]
        exact dr2_mem h
      · next e2 =>
        have e2' : (a.1 == i + 1) = false := by rw [beq_eq_false_iff_ne]; exact Nat.ne_of_beq_eq_false e2
        rw [e2']
        split at h
        · next f =>
          have f' : (a.1 + 1 == i) = false := by rw [beq_eq_false_iff_ne]; exact Nat.ne_of_beq_eq_false f
          rw [f']
          simp only [Bool.not_false, Bool.false_and, Bool.and_self, if_true]
          rcases List.mem_cons.mp h with rfl | h
          · exact List.mem_cons_self
          · exact List.mem_cons_of_mem _ (dr2_mem h)
        · split at h
          · next f =>
            split
            · exact List.mem_cons_of_mem _ (dr2_mem h)
            · exact dr2_mem h
          · next f =>
            rw [isJ_cat] at f
            rw [f]
            simp only [Bool.not_false, Bool.and_false, Bool.and_self, if_true]
            rcases List.mem_cons.mp h with rfl | h
            · exact List.mem_cons_self
            · exact List.mem_cons_of_mem _ (dr2_mem h)
theorem lv_s1 {ls : Array Slot} {nL i : Nat} {ad : Nat → Nat} {l : List (Nat × Value)} {v : Value} (h : lv_has ls nL ((i, sv ad v) :: (sP ad l).filter (fun q => !(q.1 == i) && !(q.1 + 1 == i && q.2.category == 2)))) : lv_has ls nL (sP ad (s1 l i v)) :=
  ⟨h.1, h.2.1, fun q hq => (List.mem_cons.mp hq).elim (fun e => h.2.2 q (List.mem_cons.mpr (Or.inl e))) (fun e => h.2.2 q (List.mem_cons_of_mem _ (dr1_mem e)))⟩
theorem lv_d1 {ls : Array Slot} {nL i : Nat} {ad : Nat → Nat} {l : List (Nat × Value)} {v : Value} (h : lv_has ls nL ((i, v) :: (sP ad l).filter (fun q => !(q.1 == i) && !(q.1 + 1 == i && q.2.category == 2)))) : lv_has ls nL (sP ad (dr1 i l)) :=
  ⟨h.1, h.2.1, fun q hq => h.2.2 q (List.mem_cons_of_mem _ (dr1_mem hq))⟩
theorem lv_s2 {ls : Array Slot} {nL i : Nat} {ad : Nat → Nat} {l : List (Nat × Value)} {v : Value} (h : lv_has ls nL ((i, sv ad v) :: (sP ad l).filter (fun q => !(q.1 == i) && (!(q.1 == i + 1) && !(q.1 + 1 == i && q.2.category == 2))))) : lv_has ls nL (sP ad (s2 l i v)) :=
  ⟨h.1, h.2.1, fun q hq => (List.mem_cons.mp hq).elim (fun e => h.2.2 q (List.mem_cons.mpr (Or.inl e))) (fun e => h.2.2 q (List.mem_cons_of_mem _ (dr2_mem e)))⟩
theorem okP_d1 {n i : Nat} : ∀ {l : List (Nat × Value)}, okP n l → okP n (dr1 i l)
  | [], _ => trivial
  | q :: l, k => by
    rw [dr1]
    split
    · exact okP_d1 k.2
    · split
      · exact ⟨k.1, okP_d1 k.2⟩
      · split
        · exact okP_d1 k.2
        · exact ⟨k.1, okP_d1 k.2⟩
theorem okP_d2 {n i : Nat} : ∀ {l : List (Nat × Value)}, okP n l → okP n (dr2 i l)
  | [], _ => trivial
  | q :: l, k => by
    rw [dr2]
    split
    · exact okP_d2 k.2
    · split
      · exact okP_d2 k.2
      · split
        · exact ⟨k.1, okP_d2 k.2⟩
        · split
          · exact okP_d2 k.2
          · exact ⟨k.1, okP_d2 k.2⟩
/-- fewer locals -/
def lSub (l : List (Nat × Value)) : List (Nat × Value) → Prop
  | [] => True
  | q :: l' => lk l q.1 = some q.2 ∧ lSub l l'
theorem lSub_mem {l : List (Nat × Value)} : ∀ {l' : List (Nat × Value)}, lSub l l' → ∀ q ∈ l', lk l q.1 = some q.2
  | [], _, q, h => by cases h
  | a :: l', hs, q, h => by
    rcases List.mem_cons.mp h with rfl | h
    · exact hs.1
    · exact lSub_mem hs.2 q h
theorem lv_subP {ls : Array Slot} {nL : Nat} {ad : Nat → Nat} {l : List (Nat × Value)} (h : lv_has ls nL (sP ad l)) : ∀ {l' : List (Nat × Value)}, lSub l l' → lv_has ls nL (sP ad l') := by
  intro l' hs
  refine ⟨h.1, h.2.1, ?_⟩
  have key : ∀ (k : List (Nat × Value)), (∀ q ∈ k, lk l q.1 = some q.2) → ∀ q ∈ sP ad k, ls[q.1]? = some (.val q.2) := by
    intro k
    induction k with
    | nil => intro _ q hq; cases hq
    | cons a k ih =>
      intro hk q hq
      rcases List.mem_cons.mp hq with rfl | hq
      · exact h.2.2 _ (lk_mem (lk_sP (hk a List.mem_cons_self)))
      · exact ih (fun q hq => hk q (List.mem_cons_of_mem _ hq)) q hq
  exact key l' (lSub_mem hs)
theorem okP_sub {n : Nat} {l : List (Nat × Value)} (h : okP n l) : ∀ {l' : List (Nat × Value)}, lSub l l' → okP n l'
  | [], _ => trivial
  | q :: l', hs => ⟨lk_ok hs.1 h, okP_sub h hs.2⟩
