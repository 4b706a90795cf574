/-! THE PURE PROOFS, 33: rows copied; an evening, to the end, the class's way. -/
theorem copyRowL {N a b la lb n : Nat} {h : PH} (hN : n + 1 ≤ N) (hab : a ≠ b) (ka : hK h a = (20, la)) (kb : hK h b = (20, lb)) (hla : la ≤ 100000) (hlb : lb ≤ 100000) (na : n ≤ la) (nb : n ≤ lb) : Wp (Le_copyRow N (some a) (some b) (iv n) h) (fun _ h2 => FrI (fun c => c = a) h h2 ∧ ∀ j, hI h2 a j = if j < n then hI h b j else hI h a j) := by
  have key : ∀ (m k : Nat) (h1 : PH), k + m = n → FrI (fun c => c = a) h h1 → (∀ j, hI h1 a j = if j < k then hI h b j else hI h a j) → ∀ fuel, m < fuel → Wp (Le_copyRow_b2 N fuel (some a) (some b) (iv n) (iv k) h1) (fun _ h2 => FrI (fun c => c = a) h h2 ∧ ∀ j, hI h2 a j = if j < n then hI h b j else hI h a j) := by
    intro m
    induction m with
    | zero =>
      intro k h1 ek f1 a1 fuel hf
      obtain ⟨fu, rfl⟩ : ∃ fu, fuel = fu + 1 := ⟨fuel - 1, by omega⟩
      obtain rfl : k = n := by omega
      rw [Le_copyRow_b2]
      exact Wp_ifp (Int32.le_refl _) (Wp_ret ⟨f1, a1⟩)
    | succ m ih =>
      intro k h1 ek f1 a1 fuel hf
      obtain ⟨fu, rfl⟩ : ∃ fu, fuel = fu + 1 := ⟨fuel - 1, by omega⟩
      have ka1 : hK h1 a = (20, la) := by rw [f1.2.1]; exact ka
      have kb1 : hK h1 b = (20, lb) := by rw [f1.2.1]; exact kb
      rw [Le_copyRow_b2]
      refine Wp_ifn (by rw [iv_le (by omega) (by omega) (by omega) (by omega)]; omega) (Wp_bn rfl (Wp_ck (by rw [ka1]) ?_))
      rw [ka1, iv_nat]
      refine Wp_ifn (by rw [iv_le (by omega) (by omega) (by omega) (by omega)]; omega) (Wp_bn rfl (Wp_ck (by rw [kb1]) ?_))
      rw [kb1, iv_nat]
      refine Wp_ifn (by rw [iv_le (by omega) (by omega) (by omega) (by omega)]; omega) (Wp_ck (inb_iv (by omega) (by omega) (by omega)) (Wp_ck (inb_iv (by omega) (by omega) (by omega)) (Wp_lt ?_)))
      rw [ix_nat (by omega), il1, iv_add]
      refine ih (k + 1) _ (by omega) (f1.w rfl) (fun j => ?_) fu (by omega)
      rw [hI_wI, f1.I (fun z => hab z.symm) k]
      by_cases e : j = k
      · rw [if_pos ⟨rfl, e⟩, if_pos (by omega), e]
      · rw [if_neg (fun z => e z.2), a1]
        by_cases d : j < k
        · rw [if_pos d, if_pos (by omega)]
        · rw [if_neg d, if_neg (by omega)]
  unfold Le_copyRow
  exact key n 0 h (by omega) FrI.rf (fun j => by rw [if_neg (by omega)]) N (by omega)
def EvL (n : Nat) (A B : Nat → Int) (h : PH) : Prop := hI h 22 2 = iv n ∧ ∀ i, i < n → hI h 23 i = iv (A i) ∧ hI h 24 i = iv (B i)
def SEv (b : Nat) : Prop := b = 22 ∨ b = 23 ∨ b = 24
theorem scCopyL {N n : Nat} {A B : Nat → Int} {h : PH} (hN : 100 ≤ N) (s : Shp h) (c : ScL n A B h) (hn : n ≤ 60) : Wp (Sc_copy N 22 (some 25) h) (fun _ h2 => FrI SEv h h2 ∧ EvL n A B h2) := by
  unfold Sc_copy
  refine Wp_bn rfl (Wp_ck (by rw [k25 s]) (Wp_ck (by rw [k22 s]) (Wp_lt ?_)))
  rw [c.1]
  have f1 : FrI SEv h (wI h 22 2 (iv n)) := FrI.rf.w (by unfold SEv; omega)
  have s1 := f1.shp s
  rw [p22_0 s1, p25_0 s1, show hI (wI h 22 2 (iv n)) 22 2 = iv n from by rw [hI_wI, if_pos ⟨rfl, rfl⟩]]
  refine Wp_bd2 (copyRowL (by omega) (by omega) (k23 s1) (k26 s1) (by omega) (by omega) hn hn) ?_
  rintro - h2 ⟨f2, a2⟩
  have f12 := f1.tr (f2.up (fun b e => by unfold SEv; omega))
  have s2 := f12.shp s
  refine Wp_ck (by rw [k22 s2]) (Wp_ck (by rw [k25 s2]) ?_)
  rw [p22_1 s2, p25_1 s2, show hI h2 22 2 = iv n from by rw [f2.I (by omega), hI_wI, if_pos ⟨rfl, rfl⟩]]
  refine Wp_bd2 (copyRowL (by omega) (by omega) (k24 s2) (k27 s2) (by omega) (by omega) hn hn) ?_
  rintro - h3 ⟨f3, a3⟩
  refine Wp_ret ⟨f12.tr (f3.up (fun b e => by unfold SEv; omega)), ?_, fun i hi => ⟨?_, ?_⟩⟩
  · rw [f3.I (by omega), f2.I (by omega), hI_wI, if_pos ⟨rfl, rfl⟩]
  · rw [f3.I (by omega), a2, if_pos hi, hI_wI, if_neg (by omega)]
    exact (c.2 i hi).1
  · rw [a3, if_pos hi, f2.I (by omega), hI_wI, if_neg (by omega)]
    exact (c.2 i hi).2
/-- the call 'evening', the class's way -/
theorem leEveL {N : Nat} {T : Nat → Int} {L : Nat} {h : PH} (hN : 1100 ≤ N) (x : TxL T L h) : Wp (Le_evening N 6 h) (fun v h2 => FrS (fun b => b = 7 ∨ (22 ≤ b ∧ b ≤ 27)) h h2 ∧ hI h2 7 1 = iv 0 ∧ match evR T L 61 0 (fun _ => 0) (fun _ => 0) 0 with
    | .inl f => v = iv f ∧ 0 < f ∧ f < 1048576 ∧ (∀ b, SEv b → hI h2 b = hI h b)
    | .inr (n, A, B) => v = iv 0 ∧ EvL n A B h2 ∧ n ≤ 60) := by
  unfold Le_evening
  refine Wp_ck (by rw [k6 x.1]) (Wp_bn (p6_5 x.1) (Wp_ck (by rw [k28 x.1]) (Wp_bd2 (evenL hN x) ?_)))
  rintro v h1 ⟨f1, r1⟩
  have x1 := f1.tx x
  refine Wp_ck (by rw [k6 x1.1]) (Wp_bn (p6_0 x1.1) (Wp_ck (by rw [k7 x1.1]) (Wp_lt ?_)))
  rw [il0]
  have f2 : FrE h1 (wI h1 7 1 (iv 0)) → True := fun _ => trivial
  have g2 : FrS (fun b => b = 7 ∨ (22 ≤ b ∧ b ≤ 27)) h (wI h1 7 1 (iv 0)) := (f1.1.up (fun b e => by omega)).aI (by omega)
  have s2 := g2.shp x.1
  have e71 : hI (wI h1 7 1 (iv 0)) 7 1 = iv 0 := by rw [hI_wI, if_pos ⟨rfl, rfl⟩]
  generalize evR T L 61 0 (fun _ => 0) (fun _ => 0) 0 = q at r1 ⊢
  cases q with
  | inl f =>
    obtain ⟨rfl, f0, fb⟩ := r1
    refine Wp_ifn (by rw [iv_eq (by omega) (by omega) (by omega) (by omega)]; omega) (Wp_ret ⟨g2, e71, rfl, f0, fb, fun b hb => ?_⟩)
    unfold SEv at hb
    rw [show hI (wI h1 7 1 (iv 0)) b = hI h1 b from u2_ne (by omega)]
    exact (f1.1.2.2.2 b (by omega)).1
  | inr t =>
    obtain ⟨n, A, B⟩ := t
    obtain ⟨rfl, c, hn⟩ := r1
    have c2 : ScL n A B (wI h1 7 1 (iv 0)) := ⟨by rw [hI_wI, if_neg (by omega)]; exact c.1, fun i hi => ⟨by rw [hI_wI, if_neg (by omega)]; exact (c.2 i hi).1, by rw [hI_wI, if_neg (by omega)]; exact (c.2 i hi).2⟩⟩
    refine Wp_ifp rfl (Wp_bn (p6_3 s2) (Wp_ck (by rw [k22 s2]) ?_))
    rw [p6_4 s2]
    refine Wp_bd2 (scCopyL (by omega) s2 c2 hn) ?_
    rintro - h3 ⟨f3, c3⟩
    refine Wp_ret ⟨g2.tr (f3.s.up (fun b e => by unfold SEv at e; omega)), ?_, rfl, c3, hn⟩
    rw [f3.I (by unfold SEv; omega), e71]
