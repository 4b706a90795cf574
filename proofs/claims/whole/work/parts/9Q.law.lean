/-! THE PURE PROOFS, 94: the law, a call at a time (printed in part). -/
theorem sel32 (x : Int32) : ∃ n : Nat, n < 32 ∧ x &&& 31 = iv n := by
  refine ⟨(x &&& 31).toBitVec.toNat, ?_, ?_⟩
  · rw [Int32.toBitVec_and, BitVec.toNat_and]
    exact Nat.lt_of_le_of_lt (Nat.and_le_right) (by decide)
  · have e : (x &&& 31).toBitVec.toNat < 32 := by
      rw [Int32.toBitVec_and, BitVec.toNat_and]
      exact Nat.lt_of_le_of_lt (Nat.and_le_right) (by decide)
    generalize (x &&& 31) = y at e ⊢
    apply Int32.toBitVec_inj.mp
    apply BitVec.eq_of_toNat_eq
    show _ = (Int32.ofInt (y.toBitVec.toNat : Int)).toBitVec.toNat
    rw [show (Int32.ofInt (y.toBitVec.toNat : Int)).toBitVec = BitVec.ofInt 32 (y.toBitVec.toNat : Int) from rfl, BitVec.ofInt_natCast, BitVec.toNat_ofNat]
    omega
/-- between two calls -/
def Inv (c : Nat) (g : Gs) (len : Nat) (h : PH) : Prop := LeI c g h ∧ RestM g h ∧ GOK g ∧ hK h 0 = (26, len)
def LaPost (ok : Prop) (w : Int) (c : Nat) (g g2 : Gs) (h : PH) (r : Int32) (h2 : PH) : Prop := ((ok ∧ r = iv 0 ∧ hJ h2 126 0 = (iv w).toInt64) ∨ (¬ ok ∧ r = iv 1)) ∧ LeI c g2 h2 ∧ (RestM g h → RestM g h2) ∧ hK h2 0 = hK h 0 ∧ hI h2 0 = hI h 0
def ThrG (ok : Prop) (w : Int) (g2 : Gs) (h2 : PH) (v : Int32) (h3 : PH) : Prop := ((ok ∧ v = iv w ∧ hI h3 92 0 = iv 0) ∨ (¬ ok ∧ hI h3 92 0 = iv 1)) ∧ RestM g2 h3 ∧ MFr h2 h3
section
variable {N c len : Nat} {g g2 : Gs} {h h2 h3 : PH} {ok : Prop} {w : Int}
theorem laOK (o : ok) (y : LeI c g2 h2) (hn : 0 < hN h) (f : CFr h h2) : Wp ((some 126 : Option Nat).bind fun a_8 => ck ((hK h2 a_8).1 = 23) <| ck (inb 0 (hK h2 a_8).2 = true) <| lt0 (wJ h2 a_8 (ix 0) (Int32.toInt64 (iv w))) fun h12 => some ((0 : Int32), h12)) (LaPost ok w c g g2 h) := by
  have s := y.s
  refine Wp_bn rfl (Wp_ck (by rw [k126 s]) (Wp_ck (by rw [k126 s]; decide) (Wp_lt (Wp_ret ?_))))
  rw [ix_l 0 (by omega)]
  have fw : FrS (fun b => b = 126) h2 (wJ h2 126 0 (Int32.toInt64 (iv w))) := FrS.rf.aJ rfl
  refine ⟨Or.inl ⟨o, by decide, by rw [hJ_wJ, if_pos ⟨rfl, rfl⟩]⟩, y.frS fw (fun b z => by omega), fun r => (r.cf f).cg (fw.shp s) (fun b _ => ⟨rfl, rfl⟩) rfl rfl, ?_, ?_⟩
  · show hK h2 0 = hK h 0
    exact f.2.2.1 0 hn
  · show hI h2 0 = hI h 0
    exact (f.2.2.2 0 (by omega)).1
theorem laNo (o : ¬ ok) (y : LeI c g2 h2) (hn : 0 < hN h) (f : CFr h h2) : Wp (some ((1 : Int32), h2)) (LaPost ok w c g g2 h) := Wp_ret ⟨Or.inr ⟨o, by decide⟩, y, fun r => r.cf f, f.2.2.1 0 hn, (f.2.2.2 0 (by omega)).1⟩
theorem lawT {r v : Int32} {h0 : PH} {GO : PH → Option (Bool × PH)} {Q : Bool → PH → Prop} (p : LaPost ok w c g g2 h0 r h2) (t : ThrG ok w g2 h2 v h3) (go : Wp (GO h3) Q) : Wp (ck ((hK h3 92).1 = 11) <| bd (Mo_thrown N 92 h3) fun v112 h113 => if v112 = r then if r = 0 then (some 126 : Option Nat).bind fun a_117 => ck ((hK h113 a_117).1 = 23) <| ck (inb 0 (hK h113 a_117).2 = true) <| if (lg_cmp (hJ h113 a_117 (ix 0)) (Int32.toInt64 v)) = 0 then GO h113 else some (false, h113) else GO h113 else some (false, h113)) Q := by
  obtain ⟨p1, -⟩ := p
  obtain ⟨t1, y, mf⟩ := t
  have s := y.s
  refine Wp_ck (by rw [k92 s]) (Wp_bde (moThrownM y) ?_)
  rcases p1 with ⟨o, rfl, e⟩ | ⟨o, rfl⟩
  · rcases t1 with ⟨-, rfl, e2⟩ | ⟨o2, -⟩
    · rw [e2]
      refine Wp_ifp rfl (Wp_ifp rfl (Wp_bn rfl (Wp_ck (by rw [k126 s]) (Wp_ck (by rw [k126 s]; decide) ?_))))
      rw [ix_l 0 (by omega), (mf.2.2.2 126 (by omega)).2.1, e]
      exact Wp_ifp (by rw [lg_cmp_eq]) go
    · exact absurd o o2
  · rcases t1 with ⟨o2, -⟩ | ⟨-, e2⟩
    · exact absurd o2 o
    · rw [e2]
      exact Wp_ifp rfl (Wp_ifn (by decide) go)
theorem lawGo {gt : GT} {self : Option Nat → Option Nat → Option Nat → Option Nat → Int32 → PH → Option (Bool × PH)} {x4 : Int32} {Q : Bool → PH → Prop} (IH : ∀ g2 h2, Inv (c + 128) g2 len h2 → Wp (self (some 0) (some 6) (some 92) (some 126) (x4 + 7) h2) Q) (y : LeI (c + 128) g2 h2) (e0 : hK h2 0 = (26, len)) (z : RestM g2 h3) (mf : MFr h2 h3) (k : GOK g2) : Wp (La_law_b1441 gt N self (some 0) (some 6) (some 92) (some 126) x4 h3) Q := by
  unfold La_law_b1441
  exact IH g2 h3 ⟨y.frS mf (fun b hb => by have : 92 ≤ b ∧ b ≤ 125 := hb; omega), z, k, by rw [mf.2.1]; exact e0⟩
theorem moFeedR {a b d : Int64} (hN : 100 ≤ N) (x : RestM g h) : Wp (Mo_feed N 92 a b d h) (fun v h2 => v = iv (gsL (gFeed g a b d)) ∧ RestM (gFeed g a b d) h2 ∧ MFr h h2) := by
  refine Wp_mono (moFeedM hN x.1) ?_
  rintro v h2 ⟨e, f, tx, ee⟩
  have l := fun b (hb : ¬ (b = 92 ∨ b = 93)) => f.2.2.2.2.2 b hb
  obtain ⟨-, ho, nt, ev, un, mk⟩ := x
  refine ⟨e, ⟨tx, ⟨⟨fun j hj => by rw [l 94 (by omega)]; exact ho.1.1 j hj, fun j hj => by rw [l 95 (by omega)]; exact ho.1.2 j hj⟩, fun j hj => by rw [l 100 (by omega)]; exact ho.2.1 j hj, fun j hj => by rw [l 98 (by omega), l 99 (by omega)]; exact ho.2.2 j hj⟩, fun j hj => by rw [l 116 (by omega)]; exact nt j hj, ev.cg (l _ (by omega)) (l _ (by omega)) (l _ (by omega)), un.cg (ee 40 (by omega) (by omega)) (l _ (by omega)), mk.cg (by rw [f.2.2.2.1]) (l _ (by omega)) (l _ (by omega)) (l _ (by omega)) (l _ (by omega))⟩, f.s.up (fun b z => by show 92 ≤ b ∧ b ≤ 125; omega)⟩
theorem la_give {z : Int} (hN : 24000 ≤ N) (hc : c ≤ 90000) (x : LeI c g h) (k : GOK g) (hz : -2147483648 ≤ z ∧ z < 2147483648) : Wp (La_give N (some 6) (iv z) (some 126) h) (LaPost (cGive g z) (gv (gsH g) (gsN g 0) (gsN g 3) z (gsN g 1) (gsN g 2)) (c + 64) g (gGive g z) h) := by
  have hn := x.2.1
  unfold La_give
  refine Wp_bn rfl (Wp_ck (by rw [k6 x.s]) (Wp_bd2 (leGiveL x k hz) ?_))
  rintro v h2 ⟨o, y, f⟩
  rcases o with ⟨o, rfl⟩ | ⟨o, rfl⟩
  · exact laOK o y (by omega) f
  · exact laNo o y (by omega) f
theorem la_judged {z : Int} (hN : 24000 ≤ N) (hc : c ≤ 90000) (x : LeI c g h) (k : GOK g) (hz : -2147483648 ≤ z ∧ z < 2147483648) : Wp (La_judged N (some 6) (iv z) (some 126) h) (LaPost (0 ≤ z ∧ z ≤ 2) (fJudged g z) (c + 64) g (g) h) := by
  have hn := x.2.1
  unfold La_judged
  refine Wp_bn rfl (Wp_ck (by rw [k6 x.s]) (Wp_bd2 (leJudgedL hN x k hz) ?_))
  rintro v h2 ⟨o, y, f⟩
  rcases o with ⟨o, rfl⟩ | ⟨o, rfl⟩
  · exact laOK o y (by omega) f
  · exact laNo o y (by omega) f
theorem la_may {z : Int} (hN : 24000 ≤ N) (hc : c ≤ 90000) (x : LeI c g h) (k : GOK g) (hz : -2147483648 ≤ z ∧ z < 2147483648) : Wp (La_may N (some 6) (iv z) (some 126) h) (LaPost (opn g ∧ 0 ≤ z ∧ z ≤ 4) (gr (gsH g) 0 (Vq (gsH g) (gsC g) 0 0 (gsN g 0 + 1)) (gsN g 0) z (gsN g 1) (gsN g 2)) (c + 64) g (g) h) := by
  have hn := x.2.1
  unfold La_may
  refine Wp_bn rfl (Wp_ck (by rw [k6 x.s]) (Wp_bd2 (leMayL hN x k hz) ?_))
  rintro v h2 ⟨o, y, f⟩
  rcases o with ⟨o, rfl⟩ | ⟨o, rfl⟩
  · exact laOK o y (by omega) f
  · exact laNo o y (by omega) f
theorem la_mean {z : Int} (hN : 24000 ≤ N) (hc : c ≤ 90000) (x : LeI c g h) (k : GOK g) (hz : -2147483648 ≤ z ∧ z < 2147483648) : Wp (La_mean N (some 6) (iv z) (some 126) h) (LaPost (hbt g z ∧ gsN g 6 = 0) (Fq (gsH g) (gsC g) (gE2 g) z 0 (gsH g 0) (gsN g 0) (gsN g 1) (gsN g 2) (gsN g 7)) (c + 64) g (g) h) := by
  have hn := x.2.1
  unfold La_mean
  refine Wp_bn rfl (Wp_ck (by rw [k6 x.s]) (Wp_bd2 (leMeanL hN hc x k hz) ?_))
  rintro v h2 ⟨o, y, f⟩
  rcases o with ⟨o, rfl⟩ | ⟨o, rfl⟩
  · exact laOK o y (by omega) f
  · exact laNo o y (by omega) f
theorem la_left {z : Int} (hN : 24000 ≤ N) (hc : c ≤ 90000) (x : LeI c g h) (k : GOK g) (hz : -2147483648 ≤ z ∧ z < 2147483648) : Wp (La_left N (some 6) (iv z) (some 126) h) (LaPost (hbt g z ∧ gsN g 6 = 0) (Fq (gsH g) (gsC g) (gE2 g) z 1 (gsH g 0) (gsN g 0) (gsN g 1) (gsN g 2) (gsN g 7)) (c + 64) g (g) h) := by
  have hn := x.2.1
  unfold La_left
  refine Wp_bn rfl (Wp_ck (by rw [k6 x.s]) (Wp_bd2 (leLeftL hN hc x k hz) ?_))
  rintro v h2 ⟨o, y, f⟩
  rcases o with ⟨o, rfl⟩ | ⟨o, rfl⟩
  · exact laOK o y (by omega) f
  · exact laNo o y (by omega) f
theorem la_talk (hN : 24000 ≤ N) (hc : c ≤ 90000) (x : LeI c g h) (k : GOK g) : Wp (La_talk N (some 6)  (some 126) h) (LaPost (opn g) (Vq (gsH g) (gsC g) 0 0 (gsN g 0) (gsN g 1) (gsN g 2) (gsN g 7) - Vq (gsH g) (gsC g) 0 1 (gsN g 0) (gsN g 1) (gsN g 2) 0) (c + 64) g (g) h) := by
  have hn := x.2.1
  unfold La_talk
  refine Wp_bn rfl (Wp_ck (by rw [k6 x.s]) (Wp_bd2 (leTalkL hN x k) ?_))
  rintro v h2 ⟨o, y, f⟩
  rcases o with ⟨o, rfl⟩ | ⟨o, rfl⟩
  · exact laOK o y (by omega) f
  · exact laNo o y (by omega) f
theorem la_fence {z : Int} (hN : 24000 ≤ N) (hc : c ≤ 90000) (x : LeI c g h) (k : GOK g) (hz : -2147483648 ≤ z ∧ z < 2147483648) : Wp (La_fence N (some 6) (iv z) (some 126) h) (LaPost (opn g ∧ 0 ≤ z ∧ z ≤ 120) (Tq (gsH g) (gsC g) 1 (gsN g 0) (gsN g 1 + z) - Tq (gsH g) (gsC g) 0 (gsN g 0) (gsN g 1) - Tq (gsH g) (gsC g) 0 (gsN g 0) z) (c + 64) g (g) h) := by
  have hn := x.2.1
  unfold La_fence
  refine Wp_bn rfl (Wp_ck (by rw [k6 x.s]) (Wp_bd2 (leFenceL hN x k hz) ?_))
  rintro v h2 ⟨o, y, f⟩
  rcases o with ⟨o, rfl⟩ | ⟨o, rfl⟩
  · exact laOK o y (by omega) f
  · exact laNo o y (by omega) f
theorem la_tonight (hN : 24000 ≤ N) (hc : c ≤ 90000) (x : LeI c g h) (k : GOK g) : Wp (La_tonight N (some 6)  (some 126) h) (LaPost (opn g) (fTonight g) (c + 64) g (g) h) := by
  have hn := x.2.1
  unfold La_tonight
  refine Wp_bn rfl (Wp_ck (by rw [k6 x.s]) (Wp_bd2 (leTonightL hN x k) ?_))
  rintro v h2 ⟨o, y, f⟩
  rcases o with ⟨o, rfl⟩ | ⟨o, rfl⟩
  · exact laOK o y (by omega) f
  · exact laNo o y (by omega) f
theorem la_value {q t a b : Int} (hN : 24000 ≤ N) (hc : c ≤ 90000) (x : LeI c g h) (k : GOK g) (hq : -2147483648 ≤ q ∧ q < 2147483648) (ht : -2147483648 ≤ t ∧ t < 2147483648) (ha : -2147483648 ≤ a ∧ a < 2147483648) (hb : b = 0 ∨ b = 1) : Wp (La_value N (some 6) (iv q) (iv t) (iv a) (iv b) (some 126) h) (LaPost (okValue g q t a) (Vq (gsH g) (gsC g) 0 0 q t a b) (c + 64) g (g) h) := by
  have hn := x.2.1
  unfold La_value
  refine Wp_bn rfl (Wp_ck (by rw [k6 x.s]) (Wp_bd2 (leValueL hN x k hq ht ha hb) ?_))
  rintro v h2 ⟨o, y, f⟩
  rcases o with ⟨o, rfl⟩ | ⟨o, rfl⟩
  · exact laOK o y (by omega) f
  · exact laNo o y (by omega) f
end
