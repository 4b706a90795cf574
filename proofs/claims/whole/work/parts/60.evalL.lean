/-! THE PURE PROOFS, 38: what is read, by its kinds; the class works its steps out. -/
theorem pbd_ok {r : Int ⊕ (Nat × Ex)} {k : Nat → Ex → Int ⊕ (Nat × Ex)} {p : Nat} {e : Ex} (h : pbd r k = .inr (p, e)) : ∃ p1 e1, r = .inr (p1, e1) ∧ k p1 e1 = .inr (p, e) := by
  cases r with
  | inl f => cases h
  | inr t => exact ⟨t.1, t.2, rfl, h⟩
/-- kinds of expressions: 0 parts, 1 products, 2 sums, 3 tests, 4 all; n how deep -/
def ClP (P : Nat → Nat → Ex → Prop) : Prop :=
  (∀ n v, 0 ≤ v → v ≤ 9999 → P 0 (n + 1) (xnum v)) ∧ (∀ n i, 1 ≤ i → i ≤ 5 → P 0 (n + 1) (xfct i)) ∧ (∀ n e, P 0 n e → P 0 (n + 1) (xno e)) ∧ (∀ n e, P 4 n e → P 0 (n + 1) (xpar e)) ∧ (∀ l n e, l < 4 → P l n e → P (l + 1) n e) ∧ (∀ n a b, P 1 n a → P 0 n b → P 1 n (xop (-13) a b)) ∧ (∀ n a b k, k = -11 ∨ k = -12 → P 2 n a → P 1 n b → P 2 n (xop k a b)) ∧ (∀ n a b k, k = -9 ∨ k = -10 → P 2 n a → P 2 n b → P 3 n (xop k a b)) ∧ (∀ n a b k, k = -7 ∨ k = -8 → P 4 n a → P 3 n b → P 4 n (xop k a b))
theorem lev_ind {P : Nat → Nat → Ex → Prop} (c : ClP P) {T : Nat → Int} {L n w : Nat} {rec : Nat → Nat → Int ⊕ (Nat × Ex)} (rk : ∀ p p2 e, rec w p = .inr (p2, e) → P 0 n e) : ∀ p p2 e, orR T L rec w p = .inr (p2, e) → P 4 n e := by
  obtain ⟨c1, c2, c3, c4, up, mul, add, cmp, bth⟩ := c
  have pd : ∀ p p2 e, pdR T L rec w p = .inr (p2, e) → P 1 n e := by
    intro p p2 e h
    obtain ⟨p1, e1, h1, h2⟩ := pbd_ok h
    have key : ∀ m p1 e1, P 1 n e1 → pdL T L rec w m p1 e1 = .inr (p2, e) → P 1 n e := by
      intro m
      induction m with
      | zero => intro p1 e1 q h2; cases h2; exact q
      | succ m ih =>
        intro p1 e1 q h2
        rw [pdL] at h2
        split at h2
        · obtain ⟨p3, e3, h3, h4⟩ := pbd_ok h2
          exact ih p3 _ (mul n e1 e3 q (rk _ _ _ h3)) h4
        · cases h2; exact q
    exact key 1000 p1 e1 (up 0 n e1 (by omega) (rk _ _ _ h1)) h2
  have sm : ∀ p p2 e, smR T L rec w p = .inr (p2, e) → P 2 n e := by
    intro p p2 e h
    obtain ⟨p1, e1, h1, h2⟩ := pbd_ok h
    have key : ∀ m p1 e1, P 2 n e1 → smL T L rec w m p1 e1 = .inr (p2, e) → P 2 n e := by
      intro m
      induction m with
      | zero => intro p1 e1 q h2; cases h2; exact q
      | succ m ih =>
        intro p1 e1 q h2
        rw [smL] at h2
        split at h2
        · obtain ⟨p3, e3, h3, h4⟩ := pbd_ok h2
          exact ih p3 _ (add n e1 e3 _ (by split <;> omega) q (pd _ _ _ h3)) h4
        · cases h2; exact q
    exact key 1000 p1 e1 (up 1 n e1 (by omega) (pd _ _ _ h1)) h2
  have ts : ∀ p p2 e, tsR T L rec w p = .inr (p2, e) → P 3 n e := by
    intro p p2 e h
    obtain ⟨p1, e1, h1, h2⟩ := pbd_ok h
    split at h2
    · obtain ⟨p3, e3, h3, h4⟩ := pbd_ok h2
      cases h4
      exact cmp n e1 e3 _ (by split <;> omega) (sm _ _ _ h1) (sm _ _ _ h3)
    · cases h2
      exact up 2 n _ (by omega) (sm _ _ _ h1)
  intro p p2 e h
  obtain ⟨p1, e1, h1, h2⟩ := pbd_ok h
  have key : ∀ m p1 e1, P 4 n e1 → orL T L rec w m p1 e1 = .inr (p2, e) → P 4 n e := by
    intro m
    induction m with
    | zero => intro p1 e1 q h2; cases h2; exact q
    | succ m ih =>
      intro p1 e1 q h2
      rw [orL] at h2
      split at h2
      · obtain ⟨p3, e3, h3, h4⟩ := pbd_ok h2
        exact ih p3 _ (bth n e1 e3 _ (by split <;> omega) q (ts _ _ _ h3)) h4
      · cases h2; exact q
  exact key 1000 p1 e1 (up 3 n e1 (by omega) (ts _ _ _ h1)) h2
theorem ptR_ind {P : Nat → Nat → Ex → Prop} (c : ClP P) {T : Nat → Int} {L : Nat} : ∀ n w p p2 e, ptR T L n w p = .inr (p2, e) → P 0 n e := by
  intro n
  induction n with
  | zero => intro w p p2 e h; cases h
  | succ n ih =>
    intro w p p2 e h
    have wb := tWx_b (T := T) (L := L) (p := p)
    rw [ptR] at h
    split at h
    · cases h
    · split at h
      · cases h
      · split at h
        · next k1 =>
          cases h
          have nb := tNm_b k1
          exact c.1 n _ nb.1 nb.2
        · split at h
          · cases h
            exact c.2.1 n _ (by omega) (by omega)
          · split at h
            · obtain ⟨p1, e1, h1, h2⟩ := pbd_ok h
              cases h2
              exact c.2.2.1 n _ (ih _ _ _ _ h1)
            · obtain ⟨p1, e1, h1, h2⟩ := pbd_ok h
              split at h2
              · cases h2
                exact c.2.2.2.1 n _ (lev_ind c (fun p p2 e h => ih _ _ _ _ h) _ _ _ h1)
              · cases h2
theorem orR_ind {P : Nat → Nat → Ex → Prop} (c : ClP P) {T : Nat → Int} {L n w p p2 : Nat} {e : Ex} (h : orR T L (ptR T L n) w p = .inr (p2, e)) : P 4 n e := lev_ind c (fun p p2 e h => ptR_ind c _ _ _ _ _ h) _ _ _ h
/-- the facts -/
def env (q t a r here : Int32) : Nat → Int32 := fun i => if i = 1 then t else if i = 2 then a else if i = 3 then q else if i = 4 then r else here
/-- the steps of e stand from j on -/
def AtL (e : Ex) (j : Nat) (h : PH) : Prop := ∀ i, i < (post e).length → hI h 14 (j + i) = iv ((post e).getD i 0)
/-- the steps of e put its value on the pile, with room for d -/
def EvC (N d : Nat) (e : Ex) : Prop := 0 < (post e).length ∧ ∀ (q t a here hq : Int32) (k j en fuel : Nat) (h : PH) (Q : Int32 → PH → Prop), Shp h → hI h 10 0 = hq → AtL e j h → k + d ≤ 64 → j + (post e).length ≤ en → en ≤ 1000 → (∀ h2, FrI (fun b => b = 46) h h2 → (∀ i, i < k → hI h2 46 i = hI h 46 i) → hI h2 46 k = vlu e (env q t a (hq - q) here) → Wp (Me_giveOf_b47 N fuel 45 q t a here (iv ((k + 1 : Nat) : Int)) (iv en) (iv ((j + (post e).length : Nat) : Int)) h2) Q) → Wp (Me_giveOf_b47 N (fuel + (post e).length) 45 q t a here (iv k) (iv en) (iv j) h) Q
theorem atS {N a la : Nat} {i : Nat} {h : PH} (k : hK h a = (20, la)) (hi : i < la) (hl : la ≤ 1000) : Le_at N (some a) (iv i) h = some (hI h a i, h) := by
  unfold Le_at
  rw [il0, if_neg (by rw [iv_lt (by omega) (by omega) (by omega) (by omega)]; omega), bn_s, ck_p (by rw [k]), k, iv_nat, if_neg (by rw [iv_le (by omega) (by omega) (by omega) (by omega)]; omega), ck_p (inb_iv (by omega) (by omega) (by omega)), ix_nat (by omega)]
theorem putS {N a la : Nat} {i : Nat} {v : Int32} {h : PH} {Q : Unit → PH → Prop} (k : hK h a = (20, la)) (hi : i < la) (hl : la ≤ 1000) (q : Q () (wI h a i v)) : Wp (Le_put N (some a) (iv i) v h) Q := by
  unfold Le_put
  rw [il0]
  refine Wp_ifn (by rw [iv_lt (by omega) (by omega) (by omega) (by omega)]; omega) (Wp_bn rfl (Wp_ck (by rw [k]) ?_))
  rw [k, iv_nat]
  refine Wp_ifn (by rw [iv_le (by omega) (by omega) (by omega) (by omega)]; omega) (Wp_ck (inb_iv (by omega) (by omega) (by omega)) (Wp_ltr ?_))
  rw [ix_nat (by omega)]
  exact q
theorem EvC.up {N d d2 : Nat} {e : Ex} (x : EvC N d e) (h : d ≤ d2) : EvC N d2 e := ⟨x.1, fun q t a here hq k j en fuel h1 Q s e0 at' kd le en' k2 => x.2 q t a here hq k j en fuel h1 Q s e0 at' (by omega) le en' k2⟩
theorem evNum {N n : Nat} {v : Int} (h0 : 0 ≤ v) (h9 : v ≤ 9999) : EvC N (n + 1) (xnum v) := by
  refine ⟨by show 0 < 1; omega, fun q t a here hq k j en fuel h Q s e0 st kd le en' kk => ?_⟩
  have pl : (post (xnum v)).length = 1 := rfl
  rw [pl] at le kk ⊢
  have sj := st 0 (by rw [pl]; omega)
  rw [show (post (xnum v)).getD 0 0 = v from rfl, Nat.add_zero] at sj
  rw [Me_giveOf_b47]
  refine Wp_ifn (by rw [iv_le (by omega) (by omega) (by omega) (by omega)]; omega) (Wp_ck (by rw [k45 s]) (Wp_bn (p45_0 s) (Wp_ck (by rw [k10 s]) ?_)))
  rw [p10_17 s]
  refine Wp_bde (atS (k14 s) (by omega) (by omega)) ?_
  rw [sj]
  refine Wp_ifn (by rw [il0, iv_lt (by omega) (by omega) (by omega) (by omega)]; omega) (Wp_ck (by rw [k45 s]) ?_)
  rw [p45_1 s]
  refine Wp_bd2 (putS (Q := fun _ h2 => h2 = wI h 46 k (iv v)) (k46 s) (by omega) (by omega) rfl) ?_
  rintro - h2 rfl
  unfold Me_giveOf_b203
  rw [il1, iv_add, iv_add]
  refine kk _ (FrI.rf.w rfl) (fun i hi => by rw [hI_wI, if_neg (by omega)]) ?_
  rw [hI_wI, if_pos ⟨rfl, rfl⟩]
  rfl
theorem factC {N : Nat} {i : Int} {q t a here hq : Int32} {h : PH} (s : Shp h) (e0 : hI h 10 0 = hq) (h1 : 1 ≤ i) (h5 : i ≤ 5) : Me_fact N 45 (iv (-i)) q t a here h = some (vlu (xfct i) (env q t a (hq - q) here), h) := by
  have c : i = 1 ∨ i = 2 ∨ i = 3 ∨ i = 4 ∨ i = 5 := by omega
  unfold Me_fact
  rcases c with rfl | rfl | rfl | rfl | rfl
  · rw [if_neg (by decide), if_pos (by decide)]; rfl
  · rw [if_neg (by decide), if_neg (by decide), if_pos (by decide)]; rfl
  · rw [if_neg (by decide), if_neg (by decide), if_neg (by decide), if_pos (by decide)]; rfl
  · rw [if_neg (by decide), if_neg (by decide), if_neg (by decide), if_neg (by decide), if_pos (by decide), ck_p (by rw [k45 s]), p45_0 s, bn_s, ck_p (by rw [k10 s]), e0]; rfl
  · rw [if_pos (by decide)]; rfl
theorem evFct {N n : Nat} {i : Int} (h1 : 1 ≤ i) (h5 : i ≤ 5) : EvC N (n + 1) (xfct i) := by
  refine ⟨by show 0 < 1; omega, fun q t a here hq k j en fuel h Q s e0 st kd le en' kk => ?_⟩
  have pl : (post (xfct i)).length = 1 := rfl
  rw [pl] at le kk ⊢
  have sj := st 0 (by rw [pl]; omega)
  rw [show (post (xfct i)).getD 0 0 = -i from rfl, Nat.add_zero] at sj
  rw [Me_giveOf_b47]
  refine Wp_ifn (by rw [iv_le (by omega) (by omega) (by omega) (by omega)]; omega) (Wp_ck (by rw [k45 s]) (Wp_bn (p45_0 s) (Wp_ck (by rw [k10 s]) ?_)))
  rw [p10_17 s]
  refine Wp_bde (atS (k14 s) (by omega) (by omega)) ?_
  rw [sj]
  refine Wp_ifp (by rw [il0, iv_lt (by omega) (by omega) (by omega) (by omega)]; omega) (Wp_ifn (by rw [show (-6 : Int32) = iv (-6) from by decide, iv_le (by omega) (by omega) (by omega) (by omega)]; omega) (Wp_ck (by rw [k45 s]) (Wp_bde (factC s e0 h1 h5) ?_)))
  rw [p45_1 s]
  refine Wp_bd2 (putS (Q := fun _ h2 => h2 = wI h 46 k (vlu (xfct i) (env q t a (hq - q) here))) (k46 s) (by omega) (by omega) rfl) ?_
  rintro - h2 rfl
  unfold Me_giveOf_b203
  rw [il1, iv_add, iv_add]
  refine kk _ (FrI.rf.w rfl) (fun i hi => by rw [hI_wI, if_neg (by omega)]) ?_
  rw [hI_wI, if_pos ⟨rfl, rfl⟩]
theorem evNo {N d : Nat} {e : Ex} (x : EvC N d e) (hd : 1 ≤ d) : EvC N d (xno e) := by
  have pl : (post (xno e)).length = (post e).length + 1 := by show (post e ++ [-6]).length = _; rw [List.length_append]; rfl
  refine ⟨by omega, fun q t a here hq k j en fuel h Q s e0 st kd le en' kk => ?_⟩
  rw [pl] at le kk ⊢
  rw [show fuel + ((post e).length + 1) = (fuel + 1) + (post e).length from by omega]
  refine x.2 q t a here hq k j en (fuel + 1) h Q s e0 (fun i hi => ?_) kd (by omega) en' ?_
  · rw [st i (by omega), show post (xno e) = post e ++ [-6] from rfl, List.getD_eq_getElem?_getD, List.getD_eq_getElem?_getD, List.getElem?_append_left hi]
  · intro h2 f2 kp v2
    have s2 := f2.shp s
    have sj := st (post e).length (by omega)
    rw [show (post (xno e)).getD (post e).length 0 = -6 from by rw [show post (xno e) = post e ++ [-6] from rfl]; simp] at sj
    rw [← f2.I (by omega)] at sj
    rw [Me_giveOf_b47]
    refine Wp_ifn (by rw [iv_le (by omega) (by omega) (by omega) (by omega)]; omega) (Wp_ck (by rw [k45 s2]) (Wp_bn (p45_0 s2) (Wp_ck (by rw [k10 s2]) ?_)))
    rw [p10_17 s2]
    refine Wp_bde (atS (k14 s2) (by omega) (by omega)) ?_
    rw [sj]
    refine Wp_ifp (by decide) (Wp_ifp (by decide) (Wp_ifp (by decide) (Wp_ck (by rw [k45 s2]) ?_)))
    have ek : iv ((k + 1 : Nat) : Int) - 1 = iv (k : Nat) := by rw [il1, iv_sub]; congr 1; omega
    rw [p45_1 s2, ek]
    refine Wp_bde (atS (k46 s2) (by omega) (by omega)) ?_
    rw [v2]
    have put : ∀ z : Int32, z = vlu (xno e) (env q t a (hq - q) here) → Wp (Me_giveOf_b158 N (Me_giveOf_b47 N fuel) (some 46) (iv k) z 45 q t a here (iv ((k + 1 : Nat) : Int)) (iv en) (iv ((j + (post e).length : Nat) : Int)) h2) Q := by
      intro z ez
      unfold Me_giveOf_b158 Me_giveOf_b203
      refine Wp_bd2 (putS (Q := fun _ h3 => h3 = wI h2 46 k z) (k46 s2) (by omega) (by omega) rfl) ?_
      rintro - h3 rfl
      rw [il1, iv_add]
      refine kk _ (f2.w rfl) (fun i hi => by rw [hI_wI, if_neg (by omega)]; exact kp i hi) ?_
      rw [hI_wI, if_pos ⟨rfl, rfl⟩, ez]
    refine Wp_if (fun c => put 1 ?_) (fun c => put 0 ?_)
    · show _ = tf _
      unfold tf
      rw [if_pos c]
    · show _ = tf _
      unfold tf
      rw [if_neg c]
theorem jnC {N : Nat} {c : Int} {x y : Int32} {h : PH} (hc : -13 ≤ c ∧ c ≤ -7) : Me_joined N (iv c) x y h = some (jn c x y, h) := by
  have k : c = -13 ∨ c = -12 ∨ c = -11 ∨ c = -10 ∨ c = -9 ∨ c = -8 ∨ c = -7 := by omega
  unfold Me_joined
  rcases k with rfl | rfl | rfl | rfl | rfl | rfl | rfl
  · rw [if_pos (by decide)]; rfl
  · rw [if_neg (by decide), if_pos (by decide)]; rfl
  · rw [if_neg (by decide), if_neg (by decide), if_pos (by decide)]; rfl
  · rw [if_neg (by decide), if_neg (by decide), if_neg (by decide), if_pos (by decide)]
    show _ = some (tf _, h)
    unfold tf
    split <;> rfl
  · rw [if_neg (by decide), if_neg (by decide), if_neg (by decide), if_neg (by decide), if_pos (by decide)]
    show _ = some (tf _, h)
    unfold tf
    by_cases z : y ≤ x
    · rw [if_pos z, if_neg (Int32.not_lt.mpr z)]
    · rw [if_neg z, if_pos (Int32.not_le.mp z)]
  · rw [if_neg (by decide), if_neg (by decide), if_neg (by decide), if_neg (by decide), if_neg (by decide), if_pos (by decide)]
    show _ = some (tf _, h)
    unfold tf
    by_cases z : x = 0
    · rw [if_pos z]
      by_cases z2 : y = 0
      · rw [if_pos z2, if_neg (fun w => w ⟨z, z2⟩)]
      · rw [if_neg z2, if_pos (fun w => z2 w.2)]
    · rw [if_neg z, if_pos (fun w => z w.1)]
  · rw [if_neg (by decide), if_neg (by decide), if_neg (by decide), if_neg (by decide), if_neg (by decide), if_neg (by decide), if_pos (by decide)]
    show _ = some (tf _, h)
    unfold tf
    by_cases z : x = 0
    · rw [if_pos z, if_neg (fun w => w.1 z)]
    · rw [if_neg z]
      by_cases z2 : y = 0
      · rw [if_pos z2, if_neg (fun w => w.2 z2)]
      · rw [if_neg z2, if_pos ⟨z, z2⟩]
theorem evOp {N d1 d2 d : Nat} {c : Int} {e1 e2 : Ex} (x : EvC N d1 e1) (y : EvC N d2 e2) (hc : -13 ≤ c ∧ c ≤ -7) (h1 : d1 ≤ d) (h2 : d2 + 1 ≤ d) (h3 : 1 ≤ d2) : EvC N d (xop c e1 e2) := by
  have pe : post (xop c e1 e2) = post e1 ++ post e2 ++ [c] := rfl
  have pl : (post (xop c e1 e2)).length = (post e1).length + (post e2).length + 1 := by rw [pe, List.length_append, List.length_append]; rfl
  refine ⟨by omega, fun q t a here hq k j en fuel h Q s e0 st kd le en' kk => ?_⟩
  rw [pl] at le kk ⊢
  rw [show fuel + ((post e1).length + (post e2).length + 1) = ((fuel + 1) + (post e2).length) + (post e1).length from by omega]
  refine x.2 q t a here hq k j en _ h Q s e0 (fun i hi => ?_) (by omega) (by omega) en' ?_
  · rw [st i (by omega), pe, List.getD_eq_getElem?_getD, List.getD_eq_getElem?_getD, List.append_assoc, List.getElem?_append_left hi]
  intro h2' f2 kp2 v2
  have s2 := f2.shp s
  refine y.2 q t a here hq (k + 1) (j + (post e1).length) en (fuel + 1) h2' Q s2 (by rw [f2.I (by omega)]; exact e0) (fun i hi => ?_) (by omega) (by omega) en' ?_
  · rw [f2.I (by omega), show j + (post e1).length + i = j + ((post e1).length + i) from by omega, st _ (by omega), pe, List.getD_eq_getElem?_getD, List.getD_eq_getElem?_getD, List.append_assoc, List.getElem?_append_right (by omega), show (post e1).length + i - (post e1).length = i from by omega, List.getElem?_append_left hi]
  intro h3 f3 kp3 v3
  have s3 := f3.shp s2
  have v1 : hI h3 46 k = vlu e1 (env q t a (hq - q) here) := by rw [kp3 k (by omega), v2]
  have sj := st ((post e1).length + (post e2).length) (by omega)
  rw [show (post (xop c e1 e2)).getD ((post e1).length + (post e2).length) 0 = c from by rw [pe]; simp [List.getD_eq_getElem?_getD], show j + ((post e1).length + (post e2).length) = j + (post e1).length + (post e2).length from by omega, ← f2.I (by omega), ← f3.I (by omega)] at sj
  rw [Me_giveOf_b47]
  refine Wp_ifn (by rw [iv_le (by omega) (by omega) (by omega) (by omega)]; omega) (Wp_ck (by rw [k45 s3]) (Wp_bn (p45_0 s3) (Wp_ck (by rw [k10 s3]) ?_)))
  rw [p10_17 s3]
  refine Wp_bde (atS (k14 s3) (by omega) (by omega)) ?_
  rw [sj]
  refine Wp_ifp (by rw [il0, iv_lt (by omega) (by omega) (by omega) (by omega)]; omega) (Wp_ifp (by rw [show (-6 : Int32) = iv (-6) from by decide, iv_le (by omega) (by omega) (by omega) (by omega)]; omega) (Wp_ifn (by rw [show (-6 : Int32) = iv (-6) from by decide, iv_eq (by omega) (by omega) (by omega) (by omega)]; omega) (Wp_ck (by rw [k45 s3]) ?_)))
  have ek : iv ((k + 1 + 1 : Nat) : Int) + (-1) = iv ((k + 1 : Nat) : Int) := by rw [show (-1 : Int32) = iv (-1) from by decide, iv_add]; congr 1; omega
  have ek2 : iv ((k + 1 : Nat) : Int) - 1 = iv (k : Nat) := by rw [il1, iv_sub]; congr 1; omega
  rw [p45_1 s3, ek, ek2]
  refine Wp_bde (atS (k46 s3) (by omega) (by omega)) (Wp_ck (by rw [k45 s3]) ?_)
  rw [p45_1 s3]
  refine Wp_bde (atS (k46 s3) (by omega) (by omega)) ?_
  rw [v1, v3]
  refine Wp_bde (jnC hc) ?_
  refine Wp_bd2 (putS (Q := fun _ h4 => h4 = wI h3 46 k (jn c (vlu e1 (env q t a (hq - q) here)) (vlu e2 (env q t a (hq - q) here)))) (k46 s3) (by omega) (by omega) rfl) ?_
  rintro - h4 rfl
  unfold Me_giveOf_b203
  rw [il1, iv_add, show ((j + (post e1).length + (post e2).length : Nat) : Int) + 1 = ((j + ((post e1).length + (post e2).length + 1) : Nat) : Int) from by omega]
  refine kk _ ((f2.tr f3).w rfl) (fun i hi => by rw [hI_wI, if_neg (by omega), kp3 i (by omega)]; exact kp2 i hi) ?_
  rw [hI_wI, if_pos ⟨rfl, rfl⟩]
  rfl
theorem evClP (N : Nat) : ClP (fun l n e => EvC N (4 * n + l + 1) e) := by
  refine ⟨fun n v h0 h9 => (evNum h0 h9 (n := 4 * (n + 1))).up (by omega), fun n i h1 h5 => (evFct h1 h5 (n := 4 * (n + 1))).up (by omega), fun n e x => (evNo x (by omega)).up (by omega), fun n e x => ?_, fun l n e _ x => x.up (by omega), fun n a b x y => evOp x y (by omega) (by omega) (by omega) (by omega), fun n a b k hk x y => evOp x y (by omega) (by omega) (by omega) (by omega), fun n a b k hk x y => evOp x y (by omega) (by omega) (by omega) (by omega), fun n a b k hk x y => evOp x y (by omega) (by omega) (by omega) (by omega)⟩
  exact EvC.up (show EvC N (4 * n + 4 + 1) (xpar e) from x) (by omega)
