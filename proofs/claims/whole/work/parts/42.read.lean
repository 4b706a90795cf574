/-! THE PURE PROOFS, 20: READ: how likely, over sums. -/
def SS (f : Nat → Int) : Nat → Int
  | 0 => 0
  | n + 1 => SS f n + f n
theorem SS_ext {f g : Nat → Int} : ∀ n, (∀ i, i < n → f i = g i) → SS f n = SS g n
  | 0, _ => rfl
  | n + 1, h => by rw [SS, SS, SS_ext n (fun i hi => h i (by omega)), h n (by omega)]
theorem SS_zero {f : Nat → Int} : ∀ n, (∀ i, i < n → f i = 0) → SS f n = 0
  | 0, _ => rfl
  | n + 1, h => by rw [SS, SS_zero n (fun i hi => h i (by omega)), h n (by omega)]; rfl
theorem SS_add (f g : Nat → Int) : ∀ n, SS (fun i => f i + g i) n = SS f n + SS g n
  | 0 => rfl
  | n + 1 => by rw [SS, SS, SS, SS_add f g n]; omega
theorem SS_swap (f : Nat → Nat → Int) (m : Nat) : ∀ n, SS (fun i => SS (fun j => f i j) m) n = SS (fun j => SS (fun i => f i j) n) m
  | 0 => by
    show 0 = SS (fun j => 0) m
    rw [SS_zero m (fun _ _ => rfl)]
  | n + 1 => by
    rw [SS, SS_swap f m n]
    show _ = SS (fun j => SS (fun i => f i j) n + f n j) m
    rw [SS_add]
theorem SS_mono {f g : Nat → Int} : ∀ n, (∀ i, i < n → f i ≤ g i) → SS f n ≤ SS g n
  | 0, _ => Int.le_refl _
  | n + 1, h => by
    have a := SS_mono n (fun i hi => h i (by omega))
    have b := h n (by omega)
    rw [SS, SS]
    omega
theorem SS_nn {f : Nat → Int} (n : Nat) (h : ∀ i, i < n → 0 ≤ f i) : 0 ≤ SS f n := by
  have := SS_mono (f := fun _ => 0) (g := f) n h
  rwa [SS_zero n (fun _ _ => rfl)] at this
theorem SS_le {f : Nat → Int} : ∀ n, (∀ i, i < n → 0 ≤ f i) → ∀ j, j < n → f j ≤ SS f n
  | 0, _, j, hj => by omega
  | n + 1, h, j, hj => by
    have z := SS_nn n (fun i hi => h i (by omega))
    rw [SS]
    by_cases c : j = n
    · rw [c]; omega
    · have := SS_le n (fun i hi => h i (by omega)) j (by omega)
      have := h n (by omega)
      omega
theorem SS_cut {f : Nat → Int} {m : Nat} : ∀ n, m ≤ n → (∀ i, m ≤ i → i < n → f i = 0) → SS f n = SS f m
  | 0, hm, _ => by rw [show m = 0 from by omega]
  | n + 1, hm, h => by
    by_cases c : m = n + 1
    · rw [c]
    · rw [SS, SS_cut n (by omega) (fun i a b => h i a (by omega)), h n (by omega) (by omega), Int.add_zero]
theorem SS_mul (f : Nat → Int) (c : Int) : ∀ n, SS (fun i => f i * c) n = SS f n * c
  | 0 => by rw [SS, SS, Int.zero_mul]
  | n + 1 => by rw [SS, SS, SS_mul f c n, Int.add_mul]
/-- one place only -/
theorem SS_one {x : Int} {a : Nat} (hx : 0 ≤ x) : ∀ n, SS (fun i => if a = i then x else 0) n ≤ x
  | 0 => hx
  | n + 1 => by
    rw [SS]
    by_cases c : a = n
    · rw [if_pos c, SS_zero n (fun i hi => if_neg (by omega))]
      omega
    · rw [if_neg c]
      have := SS_one hx n (a := a)
      omega
def Dist : Type := Nat → Nat → Nat → Int
/-- all of it -/
def mass (D : Nat → Nat → Nat → Int) : Int := SS (fun t => SS (fun n => SS (fun w => D t n w) 2) 97) 121
def rT (H : Nat → Int) (E : Int → Int → Int → Int → Int → Int) (hb q : Int) (t w k : Nat) : Nat := (gt H q ((k : Int) + w) (howE E hb q t 0 ((k : Int) + w)) t 0).toNat
def rW (H : Nat → Int) (E : Int → Int → Int → Int → Int → Int) (hb q : Int) (t w k : Nat) : Nat := (isW H (howE E hb q t 0 ((k : Int) + w)) ((k : Int) + w)).toNat
/-- what comes from (t, n, w), k coming, to (t2, n2, w2) -/
def con (H C : Nat → Int) (E : Int → Int → Int → Int → Int → Int) (hb q : Int) (D : Nat → Nat → Nat → Int) (t2 n2 w2 t w k n : Nat) : Int := if rT H E hb q t w k = t2 ∧ n + (k + w) = n2 ∧ rW H E hb q t w k = w2 then D t n w * ch C q k else 0
def acc (H C : Nat → Int) (E : Int → Int → Int → Int → Int → Int) (hb q : Int) (D : Nat → Nat → Nat → Int) (t2 n2 w2 : Nat) : Int := SS (fun t => SS (fun w => SS (fun k => SS (fun n => con H C E hb q D t2 n2 w2 t w k n) 97) 4) 2) ((H 1).toNat + 1)
def nextD (H C : Nat → Int) (E : Int → Int → Int → Int → Int → Int) (hb q : Int) (D : Nat → Nat → Nat → Int) (t2 n2 w2 : Nat) : Int := (acc H C E hb q D t2 n2 w2).tdiv 10
def D0 (H : Nat → Int) (t n w : Nat) : Int := if t = (H 1).toNat ∧ n = 0 ∧ w = 0 then 1000000 else 0
def Dq (H C : Nat → Int) (E : Int → Int → Int → Int → Int → Int) (hb : Int) : Nat → Nat → Nat → Nat → Int
  | 0 => D0 H
  | q + 1 => nextD H C E hb q (Dq H C E hb q)
/-- a distribution that may stand at the beginning of quarter q -/
def DOK (H : Nat → Int) (q : Nat) (D : Nat → Nat → Nat → Int) : Prop := (∀ t n w, 0 ≤ D t n w) ∧ (∀ t n w, (H 1).toNat < t ∨ 4 * q < n ∨ 1 < w → D t n w = 0) ∧ mass D ≤ 1000000
theorem con_nn {H C : Nat → Int} (ho : HOK H C) {E : Int → Int → Int → Int → Int → Int} {hb : Int} {q : Nat} {D : Nat → Nat → Nat → Int} (hq : q < 24) (d : ∀ t n w, 0 ≤ D t n w) (t2 n2 w2 t w k n : Nat) (hk : k < 4) : 0 ≤ con H C E hb q D t2 n2 w2 t w k n := by
  have c := ch_b ho (q := q) (k := k) (by omega) (by omega)
  unfold con
  split
  · exact Int.mul_nonneg (d t n w) c.1
  · exact Int.le_refl _
theorem acc_nn {H C : Nat → Int} (ho : HOK H C) {E : Int → Int → Int → Int → Int → Int} {hb : Int} {q : Nat} {D : Nat → Nat → Nat → Int} (hq : q < 24) (d : ∀ t n w, 0 ≤ D t n w) (t2 n2 w2 : Nat) : 0 ≤ acc H C E hb q D t2 n2 w2 := by
  unfold acc
  exact SS_nn _ (fun t _ => SS_nn _ (fun w _ => SS_nn _ (fun k hk => SS_nn _ (fun n _ => con_nn ho hq d t2 n2 w2 t w k n hk))))
/-- a sum over all places is a sum like others -/
theorem mass_SS (f : Nat → Nat → Nat → Nat → Int) (m : Nat) : mass (fun t n w => SS (fun i => f t n w i) m) = SS (fun i => mass (fun t n w => f t n w i)) m := by
  unfold mass
  have e1 : (fun t => SS (fun n => SS (fun w => SS (fun i => f t n w i) m) 2) 97) = fun t => SS (fun i => SS (fun n => SS (fun w => f t n w i) 2) 97) m := by
    funext t
    have e0 : (fun n => SS (fun w => SS (fun i => f t n w i) m) 2) = fun n => SS (fun i => SS (fun w => f t n w i) 2) m := by
      funext n
      rw [SS_swap]
    rw [e0, SS_swap]
  rw [e1, SS_swap]
theorem mass_mono {f g : Nat → Nat → Nat → Int} (h : ∀ t n w, t < 121 → n < 97 → w < 2 → f t n w ≤ g t n w) : mass f ≤ mass g := SS_mono _ (fun t ht => SS_mono _ (fun n hn => SS_mono _ (fun w hw => h t n w ht hn hw)))
theorem mass_one {x : Int} {a b c : Nat} (hx : 0 ≤ x) : mass (fun t n w => if a = t ∧ b = n ∧ c = w then x else 0) ≤ x := by
  unfold mass
  have h2 : ∀ t n, SS (fun w => if a = t ∧ b = n ∧ c = w then x else 0) 2 ≤ if b = n then (if a = t then x else 0) else 0 := by
    intro t n
    by_cases ca : a = t
    · by_cases cb : b = n
      · rw [if_pos cb, if_pos ca]
        have := SS_one hx 2 (a := c)
        rwa [SS_ext 2 (g := fun i => if c = i then x else 0) (fun i _ => by by_cases z : c = i <;> simp [ca, cb, z])]
      · rw [if_neg cb, SS_zero 2 (fun i _ => if_neg (fun e => cb e.2.1))]
        omega
    · rw [SS_zero 2 (fun i _ => if_neg (fun e => ca e.1))]
      split <;> (try split) <;> omega
  have h1 : ∀ t, SS (fun n => SS (fun w => if a = t ∧ b = n ∧ c = w then x else 0) 2) 97 ≤ if a = t then x else 0 := by
    intro t
    refine Int.le_trans (SS_mono 97 (fun n _ => h2 t n)) ?_
    exact SS_one (by split <;> omega) 97
  exact Int.le_trans (SS_mono 121 (fun t _ => h1 t)) (SS_one hx 121)
theorem mass_acc {H C : Nat → Int} (ho : HOK H C) {E : Int → Int → Int → Int → Int → Int} {hb : Int} {q : Nat} {D : Nat → Nat → Nat → Int} (hq : q < 24) (d : ∀ t n w, 0 ≤ D t n w) : mass (acc H C E hb q D) ≤ mass D * 10 := by
  have h11 := ho.2.1
  have s1 : mass (acc H C E hb q D) = SS (fun t => SS (fun w => SS (fun k => SS (fun n => mass (fun t2 n2 w2 => con H C E hb q D t2 n2 w2 t w k n)) 97) 4) 2) ((H 1).toNat + 1) := by
    unfold acc
    rw [mass_SS]
    refine SS_ext _ (fun t _ => ?_)
    rw [mass_SS]
    refine SS_ext _ (fun w _ => ?_)
    rw [mass_SS]
    refine SS_ext _ (fun k _ => ?_)
    rw [mass_SS]
  rw [s1]
  have s2 : SS (fun t => SS (fun w => SS (fun k => SS (fun n => mass (fun t2 n2 w2 => con H C E hb q D t2 n2 w2 t w k n)) 97) 4) 2) ((H 1).toNat + 1) ≤ SS (fun t => SS (fun w => SS (fun k => SS (fun n => D t n w * ch C q k) 97) 4) 2) ((H 1).toNat + 1) := by
    refine SS_mono _ (fun t _ => SS_mono _ (fun w _ => SS_mono _ (fun k hk => SS_mono _ (fun n _ => ?_))))
    have c := ch_b ho (q := q) (k := k) (by omega) (by omega)
    exact mass_one (Int.mul_nonneg (d t n w) c.1)
  refine Int.le_trans s2 ?_
  have s3 : ∀ t w, SS (fun k => SS (fun n => D t n w * ch C q k) 97) 4 = SS (fun n => D t n w) 97 * 10 := by
    intro t w
    have cs := cw_sum ho (wet := 0) (q := q) (by omega)
    unfold cw at cs
    rw [if_pos rfl, if_pos rfl, if_pos rfl, if_pos rfl] at cs
    have e : SS (fun k => SS (fun n => D t n w * ch C q k) 97) 4 = SS (fun k => SS (fun n => D t n w) 97 * ch C q k) 4 := SS_ext 4 (fun k _ => SS_mul _ _ 97)
    rw [e]
    generalize SS (fun n => D t n w) 97 = y
    have e4 : SS (fun k => y * ch C q k) 4 = 0 + y * ch C q ((0 : Nat) : Int) + y * ch C q ((1 : Nat) : Int) + y * ch C q ((2 : Nat) : Int) + y * ch C q ((3 : Nat) : Int) := rfl
    rw [e4, Int.zero_add, ← Int.mul_add, ← Int.mul_add, ← Int.mul_add]
    have e5 : ch C q ((0 : Nat) : Int) + ch C q ((1 : Nat) : Int) + ch C q ((2 : Nat) : Int) + ch C q ((3 : Nat) : Int) = 10 := cs
    rw [e5]
  have s4 : SS (fun t => SS (fun w => SS (fun k => SS (fun n => D t n w * ch C q k) 97) 4) 2) ((H 1).toNat + 1) = SS (fun t => SS (fun n => SS (fun w => D t n w) 2) 97) ((H 1).toNat + 1) * 10 := by
    rw [← SS_mul]
    refine SS_ext _ (fun t _ => ?_)
    rw [SS_ext 2 (fun w _ => s3 t w), SS_mul, SS_swap]
  rw [s4]
  have s5 : SS (fun t => SS (fun n => SS (fun w => D t n w) 2) 97) ((H 1).toNat + 1) ≤ mass D := by
    unfold mass
    have nn : ∀ t, 0 ≤ SS (fun n => SS (fun w => D t n w) 2) 97 := fun t => SS_nn _ (fun n _ => SS_nn _ (fun w _ => d t n w))
    have key : ∀ z m, z ≤ m → SS (fun t => SS (fun n => SS (fun w => D t n w) 2) 97) z ≤ SS (fun t => SS (fun n => SS (fun w => D t n w) 2) 97) m := by
      intro z m
      induction m with
      | zero => intro h; rw [show z = 0 from by omega]; exact Int.le_refl _
      | succ m ih =>
        intro h
        by_cases c : z = m + 1
        · rw [c]; exact Int.le_refl _
        · have i := ih (by omega)
          have j := nn m
          rw [SS]
          omega
    exact key _ 121 (by omega)
  omega
theorem place_le_mass {D : Nat → Nat → Nat → Int} (d : ∀ t n w, 0 ≤ D t n w) {t n w : Nat} (ht : t < 121) (hn : n < 97) (hw : w < 2) : D t n w ≤ mass D := by
  unfold mass
  have a := SS_le (f := fun w => D t n w) 2 (fun i _ => d t n i) w hw
  have b := SS_le (f := fun n => SS (fun w => D t n w) 2) 97 (fun i _ => SS_nn _ (fun j _ => d t i j)) n hn
  have c := SS_le (f := fun t => SS (fun n => SS (fun w => D t n w) 2) 97) 121 (fun i _ => SS_nn _ (fun j _ => SS_nn _ (fun k _ => d i j k))) t ht
  omega
theorem rT_le {H C : Nat → Int} (ho : HOK H C) {E : Int → Int → Int → Int → Int → Int} (eo : EOK E) {hb : Int} {q t w k : Nat} (hw : w < 2) (hk : k < 4) : rT H E hb q t w k ≤ t := by
  have g := g_b ho (q := q) (here := (k : Int) + w) (t := t) (a := 0) (howE_b eo hb q t 0 ((k : Int) + w)) (by omega) (by omega) (by omega)
  unfold rT
  omega
theorem nextD_ok {H C : Nat → Int} (ho : HOK H C) {E : Int → Int → Int → Int → Int → Int} (eo : EOK E) {hb : Int} {q : Nat} {D : Nat → Nat → Nat → Int} (hq : q < 24) (dk : DOK H q D) : DOK H (q + 1) (nextD H C E hb q D) := by
  obtain ⟨d, sup, ms⟩ := dk
  have h11 := ho.2.1
  have an := acc_nn ho (E := E) (hb := hb) hq d
  refine ⟨fun t n w => ?_, fun t n w h => ?_, ?_⟩
  · unfold nextD
    rw [td10 (an t n w)]
    have := an t n w
    omega
  · unfold nextD
    have z : acc H C E hb q D t n w = 0 := by
      unfold acc
      refine SS_zero _ (fun t1 ht1 => SS_zero _ (fun w1 hw1 => SS_zero _ (fun k hk => SS_zero _ (fun n1 hn1 => ?_))))
      unfold con
      split
      · next e =>
        have r := rT_le ho eo (hb := hb) (q := q) (t := t1) hw1 hk
        have iw := isW_01 H (howE E hb q t1 0 ((k : Int) + w1)) ((k : Int) + w1)
        have e3 := e.2.2
        unfold rW at e3
        by_cases cn : 4 * q < n1
        · rw [sup t1 n1 w1 (Or.inr (Or.inl cn)), Int.zero_mul]
        · exfalso
          have e1 := e.1
          have e2 := e.2.1
          omega
      · rfl
    rw [z]
    rfl
  · have m1 := mass_acc ho (E := E) (hb := hb) hq d
    have m2 : mass (nextD H C E hb q D) * 10 ≤ mass (acc H C E hb q D) := by
      have e : mass (nextD H C E hb q D) * 10 = mass (fun t n w => nextD H C E hb q D t n w * 10) := by
        unfold mass
        rw [← SS_mul]
        refine SS_ext _ (fun t _ => ?_)
        rw [← SS_mul]
        refine SS_ext _ (fun n _ => ?_)
        rw [← SS_mul]
      rw [e]
      refine mass_mono (fun t n w _ _ _ => ?_)
      unfold nextD
      rw [td10 (an t n w)]
      omega
    omega
theorem Dq_ok {H C : Nat → Int} (ho : HOK H C) {E : Int → Int → Int → Int → Int → Int} (eo : EOK E) {hb : Int} : ∀ q : Nat, q ≤ 24 → DOK H q (Dq H C E hb q)
  | 0, _ => by
    refine ⟨fun t n w => ?_, fun t n w h => ?_, ?_⟩
    · show 0 ≤ D0 H t n w
      unfold D0
      split <;> omega
    · show D0 H t n w = 0
      unfold D0
      rw [if_neg (by omega)]
    · have m := mass_one (x := 1000000) (a := (H 1).toNat) (b := 0) (c := 0) (by omega)
      have e : Dq H C E hb 0 = fun t n w => if (H 1).toNat = t ∧ 0 = n ∧ 0 = w then (1000000 : Int) else 0 := by
        funext t n w
        show D0 H t n w = _
        unfold D0
        by_cases c : t = (H 1).toNat ∧ n = 0 ∧ w = 0
        · rw [if_pos c, if_pos ⟨c.1.symm, c.2.1.symm, c.2.2.symm⟩]
        · rw [if_neg c, if_neg (fun z => c ⟨z.1.symm, z.2.1.symm, z.2.2.symm⟩)]
      rw [e]
      exact m
  | q + 1, h => nextD_ok ho eo (by omega) (Dq_ok ho eo q (by omega))
theorem acc_b {H C : Nat → Int} (ho : HOK H C) {E : Int → Int → Int → Int → Int → Int} {hb : Int} {q : Nat} {D : Nat → Nat → Nat → Int} (hq : q < 24) (dk : DOK H q D) {t n w : Nat} (ht : t < 121) (hn : n < 97) (hw : w < 2) : 0 ≤ acc H C E hb q D t n w ∧ acc H C E hb q D t n w ≤ 10000000 := by
  have an := acc_nn ho (E := E) (hb := hb) hq dk.1
  have m1 := mass_acc ho (E := E) (hb := hb) hq dk.1
  have m2 := place_le_mass an ht hn hw
  have := dk.2.2
  exact ⟨an t n w, by omega⟩
/-- the reference's order of adding up -/
theorem acc_ref (H C : Nat → Int) (E : Int → Int → Int → Int → Int → Int) (hb : Int) (q : Nat) (D : Nat → Nat → Nat → Int) (sup : ∀ t n w, 4 * q < n → D t n w = 0) (hq : q < 24) (t2 n2 w2 : Nat) : acc H C E hb q D t2 n2 w2 = SS (fun t => SS (fun n => SS (fun w => SS (fun k => con H C E hb q D t2 n2 w2 t w k n) 4) 2) (4 * q + 1)) ((H 1).toNat + 1) := by
  unfold acc
  refine SS_ext _ (fun t _ => ?_)
  have e1 : SS (fun w => SS (fun k => SS (fun n => con H C E hb q D t2 n2 w2 t w k n) 97) 4) 2 = SS (fun w => SS (fun n => SS (fun k => con H C E hb q D t2 n2 w2 t w k n) 4) 97) 2 := SS_ext 2 (fun w _ => SS_swap _ _ _)
  rw [e1, SS_swap]
  refine SS_cut 97 (by omega) (fun n hn _ => ?_)
  refine SS_zero _ (fun w _ => SS_zero _ (fun k _ => ?_))
  unfold con
  rw [sup t n w (by omega), Int.zero_mul]
  split <;> rfl
/-- the class's: up to the width -/
theorem acc_cls (H C : Nat → Int) (E : Int → Int → Int → Int → Int → Int) (hb : Int) (q : Nat) (D : Nat → Nat → Nat → Int) (sup : ∀ t n w, 4 * q < n → D t n w = 0) (wd : Nat) (hw1 : 4 * (q + 1) < wd) (hw2 : wd ≤ 97) (t2 n2 w2 : Nat) : acc H C E hb q D t2 n2 w2 = SS (fun t => SS (fun w => SS (fun k => SS (fun n => con H C E hb q D t2 n2 w2 t w k n) (wd - (k + w))) 4) 2) ((H 1).toNat + 1) := by
  unfold acc
  refine SS_ext _ (fun t _ => SS_ext _ (fun w hw => SS_ext _ (fun k hk => ?_)))
  refine SS_cut 97 (by omega) (fun n hn _ => ?_)
  unfold con
  rw [sup t n w (by omega), Int.zero_mul]
  split <;> rfl
/-- how likely so many toffees are left -/
def rdS (D : Nat → Nat → Nat → Int) (t : Nat) (m : Nat) : Int := SS (fun n => D t n 0 + D t n 1) m
/-- the likeliest (first of equals), and its share -/
def rdB (D : Nat → Nat → Nat → Int) (t : Nat) : Nat → Int × Int
  | 0 => (-1, 0)
  | n + 1 => if (rdB D t n).2 < D t n 0 + D t n 1 then ((n : Int), D t n 0 + D t n 1) else rdB D t n
