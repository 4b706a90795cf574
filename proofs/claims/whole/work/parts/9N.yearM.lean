/-! THE PURE PROOFS, 91: years: the reference. -/
def YM (g : Gs) (h7 : PH) (n : Nat → Int) (d : Int) (h1 : PH) : Prop := FrS SJ h7 h1 ∧ (∀ j, j ≠ 41 → j ≠ 42 → j ≠ 43 → j ≠ 47 → hI h1 92 j = hI h7 92 j) ∧ NtM n h1 ∧ hJ h1 92 53 = jv d ∧ ∀ k, k < 14 → hI h1 117 k = iv (gsN g k)
section
variable {N : Nat} {g : Gs} {h h7 h1 h2 : PH} {n n2 : Nat → Int} {d : Int}
theorem YM.of116 (x : YM g h7 n d h1) (f : FrS (fun b => b = 116) h1 h2) (nt : NtM n2 h2) : YM g h7 n2 d h2 := by
  obtain ⟨a, c, -, e, i⟩ := x
  have l : ∀ b, b ≠ 116 → hI h2 b = hI h1 b ∧ hJ h2 b = hJ h1 b := fun b hb => ⟨(f.2.2.2 b hb).1, (f.2.2.2 b hb).2.1⟩
  exact ⟨a.tr (f.up (fun b z => by unfold SJ; omega)), fun j j1 j2 j3 j4 => by rw [(l 92 (by omega)).1]; exact c j j1 j2 j3 j4, nt, by rw [(l 92 (by omega)).2]; exact e, fun k hk => by rw [(l 117 (by omega)).1]; exact i k hk⟩
theorem YM.ho (x : YM g h7 n d h1) (f : HoF h1 h2) (nt : NtM n2 h2) : YM g h7 n2 d h2 := by
  obtain ⟨a, c, -, e, i⟩ := x
  exact ⟨a.tr (f.1.up (fun b z => by unfold S2 at z; unfold SJ; omega)), fun j j1 j2 j3 j4 => by rw [f.2.2.2 j j1 j2 j3]; exact c j j1 j2 j3 j4, nt, by rw [f.2.1]; exact e, fun k hk => by rw [(f.1.2.2.2 117 (by unfold S2; omega)).1]; exact i k hk⟩
theorem YM.v (x : YM g h7 n d h1) (f : FrV h1 h2) : YM g h7 n d h2 := by
  obtain ⟨a, c, m, e, i⟩ := x
  exact ⟨a.tr (f.1.s.up (fun b z => by unfold SV at z; unfold SJ; omega)), fun j j1 j2 j3 j4 => by rw [f.2 j j1 j2 j3 j4]; exact c j j1 j2 j3 j4, f.nt m, by rw [f.1.2.2.2.2.1]; exact e, fun k hk => by rw [f.1.2.2.2.2.2 117 (by unfold SV; omega)]; exact i k hk⟩
theorem YM.j {d2 : Int} (x : YM g h7 n d h1) : YM g h7 n d2 (wJ h1 92 53 (jv d2)) := by
  obtain ⟨a, c, m, e, i⟩ := x
  exact ⟨a.aJ (Or.inl rfl), c, m, by rw [hJ_wJ, if_pos ⟨rfl, rfl⟩], i⟩
theorem YM.rest (x : YM g h7 n d h1) (y : RestM g h7) (f : FrI (fun b => b = 116) h1 h2) (nt : NtM (gsN g) h2) : RestM g h2 ∧ FrS SJ h7 h2 := by
  obtain ⟨a, c, -, e, i⟩ := x
  have f2 : FrS SJ h7 h2 := a.tr (f.s.up (fun b z => by unfold SJ; omega))
  have l := fun b (hb : ¬ SJ b) => f2.2.2.2 b hb
  have d2 : ∀ j, j ≠ 41 → j ≠ 42 → j ≠ 43 → j ≠ 47 → hI h2 92 j = hI h7 92 j := fun j j1 j2 j3 j4 => by rw [f.I (by omega)]; exact c j j1 j2 j3 j4
  refine ⟨y.chg f2 (fun b z => by unfold SJ at z; omega) (d2 1 (by omega) (by omega) (by omega) (by omega)) rfl rfl rfl rfl rfl nt (y.2.2.2.1.cg ?_ ?_ ?_) (y.2.2.2.2.1.cg (d2 40 (by omega) (by omega) (by omega) (by omega)) ?_) (y.2.2.2.2.2.cg (l _ (by unfold SJ; omega)).2.2 ?_ ?_ ?_ ?_), f2⟩
  all_goals exact (l _ (by unfold SJ; omega)).1
theorem drawnM (hN : 3000 ≤ N) (y : RestM g h7) (k : GOK g) (x : YM g h7 n d h1) (nk : NOK (gsH g) n) (hq : n 0 < gsH g 0) (hd : 0 ≤ d ∧ d < 2147483648) : Wp (Mo_drawnMany N 92 h1) (fun v h2 => v = iv (drw (gsC g) (n 0) (dig (nxt d))) ∧ YM g h7 n (nxt d) h2) := by
  have s1 := x.1.shp y.s
  have nb := nxt_b d
  have h01 := k.1.1
  have n0 := nk.1
  unfold Mo_drawnMany Mo_draws
  refine Wp_ck (by rw [k92 s1]) ?_
  refine Wp_bd2 (P := fun v h2 => v = iv (dig (nxt d)) ∧ YM g h7 n (nxt d) h2) ?_ ?_
  · refine Wp_ck (by rw [k92 s1]) (Wp_ck (by decide) (Wp_lt ?_))
    rw [x.2.2.2.1, nxt_eq hd]
    have x2 := x.j (d2 := nxt d)
    generalize wJ h1 92 53 (jv (nxt d)) = h2 at x2 ⊢
    refine Wp_ck (by decide) (Wp_ck (by decide) ?_)
    rw [x2.2.2.2.1, show Int32.toInt64 10 = (10 : Int64) from by decide, dig_eq nb]
    exact Wp_ret ⟨rfl, x2⟩
  · rintro v h2 ⟨rfl, x2⟩
    have s2 := x2.1.shp y.s
    have nt := x2.2.2.1
    have hs : HsM (gsH g) (gsC g) h2 := y.hs.fr x2.1 (by unfold SJ; omega) (by unfold SJ; omega)
    have db := dig_b (nxt d)
    generalize dig (nxt d) = dg at db ⊢
    have cb := k.1.2.2.2.2.2.2.2.2.2.2.2.2.2.2.2.2.2.1
    have cs := k.1.2.2.2.2.2.2.2.2.2.2.2.2.2.2.2.2.2.2 (n 0).toNat (by omega)
    have c4 : ∀ j : Nat, j < 4 → (4 * n 0 + (j : Int)).toNat = 4 * (n 0).toNat + j := fun j hj => by omega
    have b0 := cb (4 * (n 0).toNat) (by omega)
    have b1 := cb (4 * (n 0).toNat + 1) (by omega)
    have b2 := cb (4 * (n 0).toNat + 2) (by omega)
    have b3 := cb (4 * (n 0).toNat + 3) (by omega)
    have e0 : ch (gsC g) (n 0) 0 = gsC g (4 * (n 0).toNat) := by unfold ch; congr 1; omega
    have e1 : ch (gsC g) (n 0) 1 = gsC g (4 * (n 0).toNat + 1) := by unfold ch; congr 1; omega
    have e2 : ch (gsC g) (n 0) 2 = gsC g (4 * (n 0).toNat + 2) := by unfold ch; congr 1; omega
    have e3 : ch (gsC g) (n 0) 3 = gsC g (4 * (n 0).toNat + 3) := by unfold ch; congr 1; omega
    rw [← e0] at b0
    rw [← e1] at b1
    rw [← e2] at b2
    rw [← e3] at b3
    have cs2 : ch (gsC g) (n 0) 0 + ch (gsC g) (n 0) 1 + ch (gsC g) (n 0) 2 + ch (gsC g) (n 0) 3 = 10 := by rw [e0, e1, e2, e3]; exact cs
    have step : ∀ (fu : Nat) (x j : Int) (Q : Int32 → PH → Prop), 0 ≤ j ∧ j < 4 → (-100 ≤ x ∧ x ≤ 100) → (0 ≤ ch (gsC g) (n 0) j ∧ ch (gsC g) (n 0) j ≤ 10) → (x < ch (gsC g) (n 0) j → Q (iv j) h2) → (¬ x < ch (gsC g) (n 0) j → Wp (Mo_drawnMany_b9 N fu 92 (iv (x - ch (gsC g) (n 0) j)) (iv (j + 1)) h2) Q) → Wp (Mo_drawnMany_b9 N (fu + 1) 92 (iv x) (iv j) h2) Q := by
      intro fu x j Q hj hx hb k1 k2
      rw [Mo_drawnMany_b9, show (4 : Int32) = iv 4 from iv_lit _]
      refine Wp_ck (by rw [k92 s2]) (Wp_bn (p92_35 s2) (Wp_ck (by rw [k116 s2]) (Wp_ck (by rw [k116 s2]; decide) (Wp_bn (p92_11 s2) (Wp_ck (by rw [k95 s2]) ?_)))))
      rw [ix_l 0 (by omega), nt 0 (by omega), iv_mul, iv_add]
      refine Wp_ck (by rw [k95 s2]; exact inb_iv (by omega) (by omega) (by omega)) ?_
      rw [ix_iv (by omega) (by omega), hs.2 _ (by omega), show gsC g (4 * n 0 + j).toNat = ch (gsC g) (n 0) j from rfl]
      refine Wp_if (fun c => ?_) (fun c => ?_)
      · rw [iv_lt (by omega) (by omega) (by omega) (by omega)] at c
        exact Wp_ret (k1 c)
      · rw [iv_lt (by omega) (by omega) (by omega) (by omega)] at c
        refine Wp_ck (by rw [k116 s2]; decide) (Wp_ck (by rw [k95 s2]; exact inb_iv (by omega) (by omega) (by omega)) ?_)
        rw [iv_sub, il1, iv_add]
        exact k2 c
    obtain ⟨fu, rfl⟩ : ∃ e, N = e + 1 + 1 + 1 + 1 := ⟨N - 4, by omega⟩
    unfold drw
    rw [il0]
    refine step _ dg 0 _ (by omega) (by omega) b0 (fun c => ⟨by rw [if_pos c], x2⟩) (fun c => ?_)
    rw [if_neg c]
    refine step _ _ (0 + 1) _ (by omega) (by omega) b1 (fun c => ⟨by have c' : dg - ch (gsC g) (n 0) 0 < ch (gsC g) (n 0) 1 := c; rw [if_pos (by omega)]; rfl, x2⟩) (fun c1 => ?_)
    have c1' : ¬ dg - ch (gsC g) (n 0) 0 < ch (gsC g) (n 0) 1 := c1
    rw [if_neg (by omega)]
    refine step _ _ (0 + 1 + 1) _ (by omega) (by show -100 ≤ dg - ch (gsC g) (n 0) 0 - ch (gsC g) (n 0) 1 ∧ dg - ch (gsC g) (n 0) 0 - ch (gsC g) (n 0) 1 ≤ 100; omega) b2 (fun c => ⟨by have c' : dg - ch (gsC g) (n 0) 0 - ch (gsC g) (n 0) 1 < ch (gsC g) (n 0) 2 := c; rw [if_pos (by omega)]; rfl, x2⟩) (fun c2 => ?_)
    have c2' : ¬ dg - ch (gsC g) (n 0) 0 - ch (gsC g) (n 0) 1 < ch (gsC g) (n 0) 2 := c2
    rw [if_neg (by omega)]
    refine step _ _ (0 + 1 + 1 + 1) _ (by omega) (by show -100 ≤ dg - ch (gsC g) (n 0) 0 - ch (gsC g) (n 0) 1 - ch (gsC g) (n 0) 2 ∧ dg - ch (gsC g) (n 0) 0 - ch (gsC g) (n 0) 1 - ch (gsC g) (n 0) 2 ≤ 100; omega) b3 (fun c => ⟨rfl, x2⟩) (fun c3 => ?_)
    have c3' : ¬ dg - ch (gsC g) (n 0) 0 - ch (gsC g) (n 0) 1 - ch (gsC g) (n 0) 2 < ch (gsC g) (n 0) 3 := c3
    omega
end
