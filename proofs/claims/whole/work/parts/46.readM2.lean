/-! THE PURE PROOFS, 24: READ, the reference's answer. -/
theorem lg_pos (x y : Int64) : (0 < lg_cmp x y) ↔ y < x := by
  unfold lg_cmp
  by_cases c : x > y
  · rw [if_pos c]
    exact ⟨fun _ => c, fun _ => by decide⟩
  · rw [if_neg c]
    by_cases e : x = y
    · rw [if_pos e]
      exact ⟨fun h => absurd h (by decide), fun h => absurd h c⟩
    · rw [if_neg e]
      exact ⟨fun h => absurd h (by decide), fun h => absurd h c⟩
theorem rdS_b {H : Nat → Int} {q : Nat} {D : Nat → Nat → Nat → Int} {t : Nat} (dk : DOK H q D) (ht : t ≤ 120) : ∀ n, n ≤ 97 → 0 ≤ rdS D t n ∧ rdS D t n ≤ 2000000 * (n : Int)
  | 0, _ => ⟨Int.le_refl _, by show (0 : Int) ≤ _; omega⟩
  | n + 1, h => by
    have i := rdS_b dk ht n (by omega)
    have b := two_b dk ht (n := n) (by omega)
    have e : rdS D t (n + 1) = rdS D t n + (D t n 0 + D t n 1) := rfl
    rw [e]
    omega
theorem read127 {N : Nat} {H : Nat → Int} {q : Nat} {D : Nat → Nat → Nat → Int} {t : Nat} {what : Int} {h : PH} (hN : 200 ≤ N) (s : Shp h) (dk : DOK H q D) (ht : t ≤ 120) (hw : what = 0 ∨ what = 1) (row : RowJ D 124 h) : Mo_read_b127 N N 92 (iv t) (iv what) (jv 0) (jv 0) (iv (-1)) (iv 0) h = some (iv (if what = 0 then rdS D t 97 else (rdB D t 97).1), h) := by
  have bb : ∀ n, n ≤ 97 → 0 ≤ (rdB D t n).2 ∧ (rdB D t n).2 ≤ 2000000 := by
    intro n
    induction n with
    | zero => intro _; exact ⟨Int.le_refl _, by show (0 : Int) ≤ _; omega⟩
    | succ n ih =>
      intro hn
      have i := ih (by omega)
      have tb := two_b dk ht (n := n) (by omega)
      rw [rdB]
      split
      · exact tb
      · exact i
  have key : ∀ (m n : Nat), n + m = 97 → ∀ fuel, m < fuel → Mo_read_b127 N fuel 92 (iv t) (iv what) (jv (rdS D t n)) (jv (rdB D t n).2) (iv (rdB D t n).1) (iv n) h = some (iv (if what = 0 then rdS D t 97 else (rdB D t 97).1), h) := by
    intro m
    induction m with
    | zero =>
      intro n e fuel hf
      obtain ⟨fu, rfl⟩ : ∃ fu, fuel = fu + 1 := ⟨fuel - 1, by omega⟩
      have en : n = 97 := by omega
      subst en
      rw [Mo_read_b127]
      dsimp only
      rw [if_pos (by decide), il0, jv_narrow]
      simp only [show (iv what = iv 0) ↔ what = 0 from iv_eq (by omega) (by omega) (by omega) (by omega)]
      by_cases c : what = 0
      · rw [if_pos c, if_pos c]
      · rw [if_neg c, if_neg c]
    | succ m ih =>
      intro n e fuel hf
      obtain ⟨fu, rfl⟩ : ∃ fu, fuel = fu + 1 := ⟨fuel - 1, by omega⟩
      have tb := two_b dk ht (n := n) (by omega)
      have b1 := bb n (by omega)
      have p0 := pM_b (t := t) (n := n) (w := 0) (by omega) (by omega) (by omega)
      have p1 := pM_b (t := t) (n := n) (w := 1) (by omega) (by omega) (by omega)
      have l0 : Mo_likelyAt N (iv t) (iv n) (iv 0) h = some (iv (pM t n 0 : Nat), h) := likeAt t n 0
      have l1 : Mo_likelyAt N (iv t) (iv n) (iv 1) h = some (iv (pM t n 1 : Nat), h) := likeAt t n 1
      have r := ih (n + 1) (by omega) fu (by omega)
      have es : rdS D t (n + 1) = rdS D t n + (D t n 0 + D t n 1) := rfl
      rw [show ((n + 1 : Nat) : Int) = (n : Int) + 1 from by omega, es, rdB] at r
      rw [Mo_read_b127]
      unfold Mo_read_b187
      dsimp only
      rw [if_neg (by rw [il97, iv_le (by omega) (by omega) (by omega) (by omega)]; omega), ck_p (by rw [k92 s]), il0, l0, bd_s, p92_51 s, bn_s, ck_p (by rw [k124 s]), ck_p (by rw [k124 s]; exact inb_iv (by omega) (by omega) (by omega)), ck_p (by rw [k92 s]), il1, l1, bd_s, bn_s, ck_p (by rw [k124 s]), ck_p (by rw [k124 s]; exact inb_iv (by omega) (by omega) (by omega)), ix_nat (by omega), ix_nat (by omega), row t n 0 (by omega) (by omega) (by omega), row t n 1 (by omega) (by omega) (by omega), jv_add, jv_add, iv_add, ← il0]
      have lc : (0 < lg_cmp (jv (D t n 0 + D t n 1)) (jv (rdB D t n).2)) ↔ (rdB D t n).2 < D t n 0 + D t n 1 := by
        rw [lg_pos, jv_lt (by omega) (by omega) (by omega) (by omega)]
      simp only [lc]
      by_cases c : (rdB D t n).2 < D t n 0 + D t n 1
      · rw [if_pos c]
        rw [if_pos c] at r
        exact r
      · rw [if_neg c]
        rw [if_neg c] at r
        exact r
  exact key 97 0 (by omega) N (by omega)
theorem readM {N : Nat} {H C : Nat → Int} {E : Int → Int → Int → Int → Int → Int} {hb : Int} {Qn t : Nat} {what : Int} {h : PH} (hN : 24000 ≤ N) (ho : HOK H C) (cx : CxR N H C E hb h) (hQ : (Qn : Int) ≤ H 0) (ht : t ≤ 120) (hw : what = 0 ∨ what = 1) : Wp (Mo_read_b52 N N 92 (iv hb) (iv Qn) (iv t) (iv what) (iv 0) h) (fun v h2 => v = iv (if what = 0 then rdS (Dq H C E hb Qn) t 97 else (rdB (Dq H C E hb Qn) t 97).1) ∧ FrR h h2) := by
  have h01 := ho.1
  have h11 := ho.2.1
  have eo := cx.2.2.2.2
  have ql : ∀ (m q : Nat) (h1 : PH), q + m = Qn → FrR h h1 → RowJ (Dq H C E hb q) 124 h1 → ∀ fuel, m < fuel → Wp (Mo_read_b96 N fuel 92 (iv hb) (iv Qn) (iv t) (iv what) (iv q) h1) (fun v h2 => v = iv (if what = 0 then rdS (Dq H C E hb Qn) t 97 else (rdB (Dq H C E hb Qn) t 97).1) ∧ FrR h h2) := by
    intro m
    induction m with
    | zero =>
      intro q h1 e f1 r1 fuel hf
      obtain ⟨fu, rfl⟩ : ∃ fu, fuel = fu + 1 := ⟨fuel - 1, by omega⟩
      have eq : q = Qn := by omega
      subst eq
      have s1 := f1.shp cx.1
      rw [Mo_read_b96]
      refine Wp_ifp (by rw [iv_le (by omega) (by omega) (by omega) (by omega)]; omega) ?_
      rw [il0, il1, iv_neg, jl0]
      exact ⟨_, _, read127 (by omega) s1 (Dq_ok ho eo q (by omega)) ht hw r1, rfl, f1⟩
    | succ m ih =>
      intro q h1 e f1 r1 fuel hf
      obtain ⟨fu, rfl⟩ : ∃ fu, fuel = fu + 1 := ⟨fuel - 1, by omega⟩
      have cx1 := cx.fr f1
      rw [Mo_read_b96]
      refine Wp_ifn (by rw [iv_le (by omega) (by omega) (by omega) (by omega)]; omega) (Wp_ck (by rw [k92 cx1.1]) ?_)
      refine Wp_bd2 (stepM2 hN ho cx1 (by omega) (Dq_ok ho eo q (by omega)) r1) ?_
      rintro - h2 ⟨f2, r2⟩
      rw [il1, iv_add]
      have r := ih (q + 1) h2 (by omega) (f1.tr f2) r2 fu (by omega)
      rw [show ((q + 1 : Nat) : Int) = (q : Int) + 1 from by omega] at r
      exact r
  have key : ∀ (m k : Nat) (h1 : PH), k + m = 23474 → FrR h h1 → (∀ i, i < k → hJ h1 124 i = jv 0) → ∀ fuel, m < fuel → Wp (Mo_read_b52 N fuel 92 (iv hb) (iv Qn) (iv t) (iv what) (iv k) h1) (fun v h2 => v = iv (if what = 0 then rdS (Dq H C E hb Qn) t 97 else (rdB (Dq H C E hb Qn) t 97).1) ∧ FrR h h2) := by
    intro m
    induction m with
    | zero =>
      intro k h1 e f1 d fuel hf
      obtain ⟨fu, rfl⟩ : ∃ fu, fuel = fu + 1 := ⟨fuel - 1, by omega⟩
      have cx1 := cx.fr f1
      have s1 := cx1.1
      have pb := pM_b (t := (H 1).toNat) (n := 0) (w := 0) (by omega) (by omega) (by omega)
      have l0 : Mo_likelyAt N (iv (H 1)) (iv 0) (iv 0) h1 = some (iv (pM (H 1).toNat 0 0 : Nat), h1) := by
        have := likeAt (N := N) (h := h1) (H 1).toNat 0 0
        rw [show (((H 1).toNat : Nat) : Int) = H 1 from by omega] at this
        exact this
      rw [Mo_read_b52]
      refine Wp_ifp (by rw [show (23474 : Int32) = iv 23474 from iv_lit _, iv_le (by omega) (by omega) (by omega) (by omega)]; omega) (Wp_ck (by rw [k92 s1]) (Wp_bn (p92_10 s1) (Wp_ck (by rw [k94 s1]) (Wp_ck (by rw [k94 s1]; decide) ?_))))
      rw [ix_l 1 (by omega), cx1.2.1.1 1 (by omega), il0]
      refine Wp_bde l0 (Wp_bn (p92_51 s1) (Wp_ck (by rw [k124 s1]) (Wp_ck (by rw [k124 s1]; exact inb_iv (by omega) (by omega) (by omega)) (Wp_lt ?_))))
      rw [ix_nat (by omega), jl1000000]
      refine ql Qn 0 _ (by omega) (f1.j (Or.inl rfl)) ?_ N (by omega)
      intro t2 n2 w2 b0 b1 b2
      rw [hJ_wJ]
      show _ = jv (D0 H t2 n2 w2)
      unfold D0
      by_cases c : t2 = (H 1).toNat ∧ n2 = 0 ∧ w2 = 0
      · rw [if_pos c, c.1, c.2.1, c.2.2, if_pos ⟨rfl, rfl⟩]
      · rw [if_neg c, if_neg ?_]
        · exact d _ (by have := pM_b b0 b1 b2; omega)
        · intro e
          exact c (pM_inj b1 b2 (by omega) (by omega) e.2)
    | succ m ih =>
      intro k h1 e f1 d fuel hf
      obtain ⟨fu, rfl⟩ : ∃ fu, fuel = fu + 1 := ⟨fuel - 1, by omega⟩
      have s1 := f1.shp cx.1
      rw [Mo_read_b52]
      refine Wp_ifn (by rw [show (23474 : Int32) = iv 23474 from iv_lit _, iv_le (by omega) (by omega) (by omega) (by omega)]; omega) (Wp_ck (by rw [k92 s1]) (Wp_bn (p92_51 s1) (Wp_ck (by rw [k124 s1]) (Wp_ck (by rw [k124 s1]; exact inb_iv (by omega) (by omega) (by omega)) (Wp_lt ?_)))))
      rw [ix_nat (by omega), il1, iv_add, jl0]
      have r := ih (k + 1) (wJ h1 124 k (jv 0)) (by omega) (f1.j (Or.inl rfl)) (fun i hi => by
        rw [hJ_wJ]
        by_cases c : i = k
        · rw [if_pos ⟨rfl, c⟩]
        · rw [if_neg (fun e => c e.2)]
          exact d i (by omega)) fu (by omega)
      rw [show ((k + 1 : Nat) : Int) = (k : Int) + 1 from by omega] at r
      exact r
  exact key 23474 0 h (by omega) FrR.rf (fun i hi => by omega) N (by omega)
