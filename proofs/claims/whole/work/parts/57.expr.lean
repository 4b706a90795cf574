/-! THE PURE PROOFS, 35: how much a guest gets: what is read, and the class's steps. -/
/-- an expression: its steps, its signs in the reference's way, its value -/
def Ex : Type := List Int × List Int × ((Nat → Int32) → Int32)
def post (e : Ex) : List Int := e.1
def infx (e : Ex) : List Int := e.2.1
def vlu (e : Ex) (F : Nat → Int32) : Int32 := e.2.2 F
def tf (c : Prop) [Decidable c] : Int32 := if c then 1 else 0
def jn (k : Int) (a b : Int32) : Int32 := if k = -13 then a * b else if k = -12 then a - b else if k = -11 then a + b else if k = -10 then tf (a = b) else if k = -9 then tf (a < b) else if k = -8 then tf (¬ (a = 0 ∧ b = 0)) else tf (¬ a = 0 ∧ ¬ b = 0)
def kc (k : Int) : Int := if k = -13 then 22 else if k = -12 then 21 else if k = -11 then 20 else if k = -10 then 25 else if k = -9 then 24 else if k = -8 then 27 else 26
def xnum (n : Int) : Ex := ([n], [100 + n], fun _ => iv n)
def xfct (i : Int) : Ex := ([-i], [i], fun F => F i.toNat)
def xno (e : Ex) : Ex := (post e ++ [-6], 30 :: infx e, fun F => tf (vlu e F = 0))
def xpar (e : Ex) : Ex := (post e, 28 :: (infx e ++ [29]), vlu e)
def xop (k : Int) (a b : Ex) : Ex := (post a ++ post b ++ [k], infx a ++ kc k :: infx b, fun F => jn k (vlu a F) (vlu b F))
def pbd (r : Int ⊕ (Nat × Ex)) (k : Nat → Ex → Int ⊕ (Nat × Ex)) : Int ⊕ (Nat × Ex) := match r with
  | .inl f => .inl f
  | .inr (p, e) => k p e
section
variable (T : Nat → Int) (L : Nat) (rec : Nat → Nat → Int ⊕ (Nat × Ex)) (w : Nat)
def pdL : Nat → Nat → Ex → Int ⊕ (Nat × Ex)
  | 0, p, e => .inr (p, e)
  | m + 1, p, e => if tKd T L p = 42 then pbd (rec w (tE T L p)) fun p2 e2 => pdL m p2 (xop (-13) e e2) else .inr (p, e)
def pdR (p : Nat) : Int ⊕ (Nat × Ex) := pbd (rec w p) (pdL T L rec w 1000)
def smL : Nat → Nat → Ex → Int ⊕ (Nat × Ex)
  | 0, p, e => .inr (p, e)
  | m + 1, p, e => if tKd T L p = 43 ∨ tKd T L p = 45 then pbd (pdR T L rec w (tE T L p)) fun p2 e2 => smL m p2 (xop (if tKd T L p = 43 then -11 else -12) e e2) else .inr (p, e)
def smR (p : Nat) : Int ⊕ (Nat × Ex) := pbd (pdR T L rec w p) (smL T L rec w 1000)
def tsR (p : Nat) : Int ⊕ (Nat × Ex) := pbd (smR T L rec w p) fun p1 e1 => if tKd T L p1 = 60 ∨ tKd T L p1 = 61 then pbd (smR T L rec w (tE T L p1)) fun p2 e2 => .inr (p2, xop (if tKd T L p1 = 60 then -9 else -10) e1 e2) else .inr (p1, e1)
def orL : Nat → Nat → Ex → Int ⊕ (Nat × Ex)
  | 0, p, e => .inr (p, e)
  | m + 1, p, e => if tWx T L p = 21 ∨ tWx T L p = 22 then pbd (tsR T L rec w (tE T L p)) fun p2 e2 => orL m p2 (xop (if tWx T L p = 21 then -7 else -8) e e2) else .inr (p, e)
def orR (p : Nat) : Int ⊕ (Nat × Ex) := pbd (tsR T L rec w p) (orL T L rec w 1000)
end
def ptR (T : Nat → Int) (L : Nat) : Nat → Nat → Nat → Int ⊕ (Nat × Ex)
  | 0, _, _ => .inl 1
  | n + 1, w, p =>
    if ¬ (tKd T L p = 1 ∨ 23 ≤ tWx T L p ∨ tWx T L p = 20 ∨ tKd T L p = 40) then .inl (1 + 16 * (tB T L p : Nat))
    else if 5 ≤ w then .inl (5 + 16 * (tB T L p : Nat))
    else if tKd T L p = 1 then .inr (tE T L p, xnum (tNm T L p))
    else if 23 ≤ tWx T L p then .inr (tE T L p, xfct (tWx T L p - 22))
    else if tWx T L p = 20 then pbd (ptR T L n (w + 1) (tE T L p)) fun p2 e => .inr (p2, xno e)
    else pbd (orR T L (ptR T L n) (w + 1) (tE T L p)) fun p2 e => if tKd T L p2 = 41 then .inr (tE T L p2, xpar e) else .inl (1 + 16 * (tB T L p2 : Nat))
def StL (s : List Int) (h : PH) : Prop := hI h 16 13 = iv (s.length : Nat) ∧ ∀ k, k < s.length → hI h 20 k = iv (s.getD k 0)
theorem StL.fr {s : List Int} {h h2 : PH} (x : StL s h) (f : Fr7 h h2) : StL s h2 := ⟨(f.1.I (by omega) _).trans x.1, fun k hk => (f.1.I (by omega) k).trans (x.2 k hk)⟩
theorem Fr7.q {h h2 : PH} (f : Fr7 h h2) : FrQ h h2 := ⟨f.1.up (fun b e => Or.inl e), f.2, fun j _ => f.1.I (by omega) j⟩
theorem LexL.cg {T : Nat → Int} {L p : Nat} {h h2 : PH} (x : LexL T L p h) (e1 : hI h2 7 = hI h 7) (e2 : hJ h2 7 = hJ h 7) : LexL T L p h2 := by
  unfold LexL at x ⊢
  rw [e1, e2]
  exact x
theorem writeL {N : Nat} {v : Int} {s : List Int} {h : PH} (x : Shp h) (st : StL s h) (hs : s.length < 1000) : Wp (Ho_write N 16 (iv v) h) (fun _ h2 => FrQ h h2 ∧ hI h2 7 = hI h 7 ∧ hJ h2 7 = hJ h 7 ∧ StL (s ++ [v]) h2) := by
  unfold Ho_write
  refine Wp_ck (by rw [k16 x]) ?_
  rw [p16_17 x, st.1]
  unfold Le_put
  refine Wp_bd2 (P := fun _ h1 => h1 = wI h 20 s.length (iv v)) ?_ ?_
  · refine Wp_ifn (by rw [il0, iv_lt (by omega) (by omega) (by omega) (by omega)]; omega) (Wp_bn rfl (Wp_ck (by rw [k20 x]) ?_))
    rw [k20 x, iv_nat]
    refine Wp_ifn (by rw [iv_le (by omega) (by omega) (by omega) (by omega)]; omega) (Wp_ck (inb_iv (by omega) (by omega) (by omega)) (Wp_ltr ?_))
    rw [ix_nat (by omega)]
  · rintro - h1 rfl
    have f1 : FrQ h (wI h 20 s.length (iv v)) := FrQ.rf.w (by omega)
    refine Wp_ck (by rw [k16 (f1.1.shp x)]) (Wp_ltr ⟨f1.w (by omega), ?_, by rw [hJ_wI, hJ_wI], ?_, fun k hk => ?_⟩)
    · funext j
      rw [hI_wI, if_neg (by omega), hI_wI, if_neg (by omega)]
    · rw [hI_wI, if_pos ⟨rfl, rfl⟩, hI_wI, if_neg (by omega), st.1, il1, iv_add, List.length_append]
      rfl
    · rw [List.length_append, List.length_singleton] at hk
      rw [hI_wI, if_neg (by omega), hI_wI]
      by_cases e : k = s.length
      · rw [if_pos ⟨rfl, e⟩, e]
        simp
      · rw [if_neg (fun z => e z.2), st.2 k (by omega)]
        rw [List.getD_eq_getElem?_getD, List.getD_eq_getElem?_getD, List.getElem?_append_left (by omega)]
/-- read: a fault, or an expression whose steps stand behind s -/
def PoS (T : Nat → Int) (L : Nat) (s : List Int) (c : Nat) (r : Int ⊕ (Nat × Ex)) (h : PH) : Prop := match r with
  | .inl f => (0 < f ∧ f < 1048576) ∧ hI h 7 8 = iv f
  | .inr (p, e) => LexL T L p h ∧ p ≤ L ∧ StL (s ++ post e) h ∧ (s ++ post e).length + c ≤ p
def OKP (T : Nat → Int) (L : Nat) (rec : Nat → Nat → Int ⊕ (Nat × Ex)) (F : Nat → Int32 → PH → Option (Unit × PH)) (w : Nat) : Prop := ∀ h p s c, TxL T L h → LexL T L p h → p ≤ L → StL s h → s.length + c ≤ p → Wp (F 28 (iv w) h) (fun _ h2 => FrQ h h2 ∧ PoS T L s c (rec w p) h2)
theorem tE_gt {T : Nat → Int} {L p : Nat} (h : tKd T L p ≠ 3) (hp : p ≤ L) : p + 1 ≤ tE T L p := by
  have b := tB_le (T := T) hp
  have l : tB T L p < L := by
    by_cases c : L ≤ tB T L p
    · exact absurd (by unfold tKd; rw [if_pos c]) h
    · omega
  have := tSz_pos l
  unfold tE
  omega
theorem productL {N : Nat} {T : Nat → Int} {L w : Nat} {rec : Nat → Nat → Int ⊕ (Nat × Ex)} {F : Nat → Int32 → PH → Option (Unit × PH)} (hN : 1100 ≤ N) (ok : OKP T L rec F w) (px : ∀ f, 0 < f ∧ f < 1048576 → PX T L f F (iv w)) : OKP T L (pdR T L rec) (Re_product N F) w := by
  intro h p s c x l hp st hs
  have key : ∀ (m k : Nat) (p : Nat) (e : Ex) (h1 : PH), k + m = 1000 → FrQ h h1 → PoS T L s c (.inr (p, e)) h1 → ∀ fuel, m < fuel → Wp (Re_product_b7 N F fuel 28 (iv w) (iv k) h1) (fun _ h2 => FrQ h h2 ∧ PoS T L s c (pdL T L rec w m p e) h2) := by
    intro m
    induction m with
    | zero =>
      intro k p e h1 ek f1 q1 fuel hf
      obtain ⟨fu, rfl⟩ : ∃ g, fuel = g + 1 := ⟨fuel - 1, by omega⟩
      obtain rfl : k = 1000 := by omega
      rw [Re_product_b7, pdL]
      exact Wp_ifp (by decide) (Wp_ret ⟨f1, q1⟩)
    | succ m ih =>
      intro k p e h1 ek f1 q1 fuel hf
      obtain ⟨fu, rfl⟩ : ∃ g, fuel = g + 1 := ⟨fuel - 1, by omega⟩
      obtain ⟨l1, hp1, st1, hs1⟩ := q1
      have x1 := f1.tx x
      have kb := kd_b (p := p) x.2.2.2.1
      have hL := x.2.2.1
      rw [Re_product_b7, pdL, show (1000 : Int32) = iv 1000 from iv_lit _]
      refine Wp_ifn (by rw [iv_le (by omega) (by omega) (by omega) (by omega)]; omega) (Wp_ck (by rw [k28 x1.1]) (Wp_bde (hasMoreL x1 l1) ?_))
      by_cases k3 : tKd T L p = 3
      · rw [decide_eq_false (by omega), if_neg (show ¬ tKd T L p = 42 by omega)]
        exact Wp_ifp rfl (Wp_ret ⟨f1, l1, hp1, st1, hs1⟩)
      rw [decide_eq_true k3]
      refine Wp_ifn (by decide) (Wp_ck (by rw [k28 x1.1]) (Wp_bn (p28_0 x1.1) (Wp_ck (by rw [k7 x1.1]) ?_)))
      rw [l1.2.2.1, show (42 : Int32) = iv 42 from iv_lit _]
      by_cases k42 : tKd T L p = 42
      · rw [if_pos k42]
        refine Wp_ifp (by rw [k42]) (Wp_bd2 (stepR hN x1 (r := .inr p) ⟨l1, hp1⟩) ?_)
        rintro - h2 ⟨f2, l2, hp2⟩
        have x2 := f2.tx x1
        have te := tE_gt k3 hp1
        refine Wp_ck (by rw [k28 x2.1]) (Wp_bd2 (ok h2 _ (s ++ post e) (c + 1) x2 l2 hp2 (st1.fr f2) (by omega)) ?_)
        rintro - h3 ⟨f3, q3⟩
        have x3 := f3.tx x2
        have f13 := (f1.tr f2.q).tr f3
        generalize eq : rec w (tE T L p) = r at q3
        refine Wp_ck (by rw [k28 x3.1]) (Wp_bn (p28_1 x3.1) (Wp_ck (by rw [k16 x3.1]) ?_))
        rw [il1, iv_add]
        cases r with
        | inl f =>
          refine Wp_bd2 (writeX x3.1) ?_
          rintro - h4 ⟨f4, e4⟩
          have x4 := f4.tx x3
          have e5 : hI h4 7 8 = iv f := by rw [e4]; exact q3.2
          obtain ⟨fu, rfl⟩ : ∃ g, fu = g + 1 := ⟨fu - 1, by omega⟩
          rw [Re_product_b7]
          refine Wp_if (fun _ => Wp_ret ⟨f13.tr f4, q3.1, e5⟩) (fun _ => ?_)
          exact Wp_ck (by rw [k28 x4.1]) (Wp_bde (hasMoreF x4.1 q3.1 e5) (Wp_ifp rfl (Wp_ret ⟨f13.tr f4, q3.1, e5⟩)))
        | inr t =>
          obtain ⟨p2, e2⟩ := t
          obtain ⟨l3, hp3, st3, hs3⟩ := q3
          rw [show (-13 : Int32) = iv (-13) from by decide]
          refine Wp_bd2 (writeL (v := -13) x3.1 st3 (by omega)) ?_
          rintro - h4 ⟨f4, i4, j4, st4⟩
          have r := ih (k + 1) p2 (xop (-13) e e2) h4 (by omega) (f13.tr f4) ⟨l3.cg i4 j4, hp3, by rw [show s ++ post (xop (-13) e e2) = s ++ post e ++ post e2 ++ [-13] from by show s ++ (post e ++ post e2 ++ [-13]) = _; simp only [List.append_assoc]]; exact st4, by rw [show s ++ post (xop (-13) e e2) = s ++ post e ++ post e2 ++ [-13] from by show s ++ (post e ++ post e2 ++ [-13]) = _; simp only [List.append_assoc]]; rw [List.length_append, List.length_singleton]; omega⟩ fu (by omega)
          rw [show ((k + 1 : Nat) : Int) = (k : Int) + 1 from by omega] at r
          exact r
      · rw [if_neg k42]
        exact Wp_ifn (by rw [iv_eq (by omega) (by omega) (by omega) (by omega)]; omega) (Wp_ret ⟨f1, l1, hp1, st1, hs1⟩)
  unfold Re_product pdR
  refine Wp_ck (by rw [k28 x.1]) (Wp_bd2 (ok h p s c x l hp st hs) ?_)
  rintro - h1 ⟨f1, q1⟩
  have x1 := f1.tx x
  generalize rec w p = r at q1
  cases r with
  | inl f =>
    refine Wp_mono (loopX (N := N) (by omega) q1.1 f1 x1 q1.2).1 ?_
    rintro - h2 ⟨f2, e2⟩
    exact ⟨f2, q1.1, e2⟩
  | inr t =>
    obtain ⟨p2, e2⟩ := t
    exact key 1000 0 p2 e2 h1 (by omega) f1 q1 N (by omega)
