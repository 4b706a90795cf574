/-! THE PURE PROOFS, 67: the reference reads a house: what it keeps, one thing needed after another. -/
/-- on the reference's reading of a house -/
def QK (j : Nat) : Prop := j ≠ 4 ∧ j ≠ 5 ∧ j ≠ 6 ∧ j ≠ 8 ∧ j ≠ 9 ∧ j ≠ 17 ∧ j ≠ 18 ∧ j ≠ 31
def FrK (h h2 : PH) : Prop := FrS (fun b => b = 92 ∨ (94 ≤ b ∧ b ≤ 102)) h h2 ∧ (∀ j, QK j → hI h2 92 j = hI h 92 j) ∧ (∀ j, j < 18 → hI h2 94 j = hI h 94 j) ∧ (∀ j, j < 96 → hI h2 95 j = hI h 95 j) ∧ (∀ j, j < 4 → hI h2 98 j = hI h 98 j ∧ hI h2 99 j = hI h 99 j) ∧ ∀ j, j < 1000 → hI h2 100 j = hI h 100 j
theorem FrK.rf {h : PH} : FrK h h := ⟨FrS.rf, fun _ _ => rfl, fun _ _ => rfl, fun _ _ => rfl, fun _ _ => ⟨rfl, rfl⟩, fun _ _ => rfl⟩
theorem FrK.tr {h h1 h2 : PH} (a : FrK h h1) (b : FrK h1 h2) : FrK h h2 := ⟨a.1.tr b.1, fun j q => (b.2.1 j q).trans (a.2.1 j q), fun j q => (b.2.2.1 j q).trans (a.2.2.1 j q), fun j q => (b.2.2.2.1 j q).trans (a.2.2.2.1 j q), fun j q => ⟨(b.2.2.2.2.1 j q).1.trans (a.2.2.2.2.1 j q).1, (b.2.2.2.2.1 j q).2.trans (a.2.2.2.2.1 j q).2⟩, fun j q => (b.2.2.2.2.2 j q).trans (a.2.2.2.2.2 j q)⟩
theorem FrY.k {h h2 : PH} (f : FrY h h2) : FrK h h2 := ⟨f.1.up (fun b e => Or.inl e), fun j q => by unfold QK at q; exact f.2.2.1 j (by omega) (by omega) (by omega) (by omega) (by omega) (by omega), fun j _ => f.1.I (by omega) j, fun j _ => f.1.I (by omega) j, fun j _ => ⟨f.1.I (by omega) j, f.1.I (by omega) j⟩, fun j _ => f.1.I (by omega) j⟩
theorem FrN.k {h h2 : PH} (f : FrN h h2) : FrK h h2 := ⟨f.1.up (fun b e => by omega), fun j q => by unfold QK at q; exact f.2.2.1 j (by omega) (by omega) (by omega) (by omega) (by omega) (by omega) (by omega), fun j _ => f.1.I (by omega) j, fun j _ => f.1.I (by omega) j, fun j _ => ⟨f.1.I (by omega) j, f.1.I (by omega) j⟩, f.2.2.2.2⟩
theorem FrK.w {h0 h : PH} {a i : Nat} {v : Int32} (f : FrK h0 h) (ha : (a = 92 ∧ (i = 9 ∨ i = 17 ∨ i = 18 ∨ i = 31)) ∨ (a = 94 ∧ 18 ≤ i) ∨ (a = 95 ∧ 96 ≤ i) ∨ ((a = 98 ∨ a = 99) ∧ 4 ≤ i) ∨ (a = 100 ∧ 1000 ≤ i)) : FrK h0 (wI h a i v) := f.tr ⟨FrS.rf.aI (by omega), fun j q => by unfold QK at q; rw [hI_wI, if_neg (by omega)], fun j q => by rw [hI_wI, if_neg (by omega)], fun j q => by rw [hI_wI, if_neg (by omega)], fun j q => ⟨by rw [hI_wI, if_neg (by omega)], by rw [hI_wI, if_neg (by omega)]⟩, fun j q => by rw [hI_wI, if_neg (by omega)]⟩
theorem FrK.z {h0 h : PH} {i : Nat} {v : Bool} (f : FrK h0 h) : FrK h0 (wZ h 96 i v) := f.tr ⟨FrS.rf.aZ (by omega), fun _ _ => rfl, fun _ _ => rfl, fun _ _ => rfl, fun _ _ => ⟨rfl, rfl⟩, fun _ _ => rfl⟩
theorem FrK.j {h0 h : PH} {i : Nat} {v : Int64} (f : FrK h0 h) : FrK h0 (wJ h 97 i v) := f.tr ⟨FrS.rf.aJ (by omega), fun _ _ => rfl, fun _ _ => rfl, fun _ _ => rfl, fun _ _ => ⟨rfl, rfl⟩, fun _ _ => rfl⟩
theorem FrK.tx {T : Nat → Int} {L : Nat} {h h2 : PH} (f : FrK h h2) (x : TxM T L h) : TxM T L h2 := x.fr f.1 (by omega) (f.2.1 3 (by unfold QK; omega))
/-- the words told, as bits -/
def tv10 (a b c d e f g i j k : Bool) : Int32 := Int32.ofNat ((if a then 2 else 0) + (if b then 4 else 0) + (if c then 16 else 0) + (if d then 128 else 0) + (if e then 256 else 0) + (if f then 512 else 0) + (if g then 2048 else 0) + (if i then 4096 else 0) + (if j then 8192 else 0) + (if k then 16384 else 0))
theorem tv_get : ∀ a b c d e f g i j k : Bool, (((tv10 a b c d e f g i j k >>> ((1 : Int32) &&& 31)) &&& 1 = 1) ↔ a = true) ∧ (((tv10 a b c d e f g i j k >>> ((2 : Int32) &&& 31)) &&& 1 = 1) ↔ b = true) ∧ (((tv10 a b c d e f g i j k >>> ((4 : Int32) &&& 31)) &&& 1 = 1) ↔ c = true) ∧ (((tv10 a b c d e f g i j k >>> ((7 : Int32) &&& 31)) &&& 1 = 1) ↔ d = true) ∧ (((tv10 a b c d e f g i j k >>> ((8 : Int32) &&& 31)) &&& 1 = 1) ↔ e = true) ∧ (((tv10 a b c d e f g i j k >>> ((9 : Int32) &&& 31)) &&& 1 = 1) ↔ f = true) ∧ (((tv10 a b c d e f g i j k >>> ((11 : Int32) &&& 31)) &&& 1 = 1) ↔ g = true) ∧ (((tv10 a b c d e f g i j k >>> ((12 : Int32) &&& 31)) &&& 1 = 1) ↔ i = true) ∧ (((tv10 a b c d e f g i j k >>> ((13 : Int32) &&& 31)) &&& 1 = 1) ↔ j = true) ∧ (((tv10 a b c d e f g i j k >>> ((14 : Int32) &&& 31)) &&& 1 = 1) ↔ k = true) := by decide +kernel
theorem tv_set : ∀ a b c d e f g i j k : Bool, tv10 a b c d e f g i j k ||| ((1 : Int32) <<< ((1 : Int32) &&& 31)) = tv10 true b c d e f g i j k ∧ tv10 a b c d e f g i j k ||| ((1 : Int32) <<< ((2 : Int32) &&& 31)) = tv10 a true c d e f g i j k ∧ tv10 a b c d e f g i j k ||| ((1 : Int32) <<< ((4 : Int32) &&& 31)) = tv10 a b true d e f g i j k ∧ tv10 a b c d e f g i j k ||| ((1 : Int32) <<< ((7 : Int32) &&& 31)) = tv10 a b c true e f g i j k ∧ tv10 a b c d e f g i j k ||| ((1 : Int32) <<< ((8 : Int32) &&& 31)) = tv10 a b c d true f g i j k ∧ tv10 a b c d e f g i j k ||| ((1 : Int32) <<< ((9 : Int32) &&& 31)) = tv10 a b c d e true g i j k ∧ tv10 a b c d e f g i j k ||| ((1 : Int32) <<< ((11 : Int32) &&& 31)) = tv10 a b c d e f true i j k ∧ tv10 a b c d e f g i j k ||| ((1 : Int32) <<< ((12 : Int32) &&& 31)) = tv10 a b c d e f g true j k ∧ tv10 a b c d e f g i j k ||| ((1 : Int32) <<< ((13 : Int32) &&& 31)) = tv10 a b c d e f g i true k ∧ tv10 a b c d e f g i j k ||| ((1 : Int32) <<< ((14 : Int32) &&& 31)) = tv10 a b c d e f g i j true := by decide +kernel
def dB (D : Nat → Int) (w : Nat) : Bool := decide (D w = 1)
def tvD (D : Nat → Int) : Int32 := tv10 (dB D 1) (dB D 2) (dB D 3) (dB D 4) (dB D 5) (dB D 6) (dB D 7) (dB D 8) (dB D 9) (dB D 10)
/-- the bit of a word -/
def bw (w : Nat) : Int32 := if w = 1 then 1 else if w = 2 then 2 else if w = 3 then 4 else if w = 4 then 7 else if w = 5 then 8 else if w = 6 then 9 else if w = 7 then 11 else if w = 8 then 12 else if w = 9 then 13 else 14
theorem tvD_get {D : Nat → Int} {w : Nat} (hw : 1 ≤ w ∧ w ≤ 10) : ((tvD D >>> (bw w &&& 31)) &&& 1 = 1) ↔ D w = 1 := by
  have k := tv_get (dB D 1) (dB D 2) (dB D 3) (dB D 4) (dB D 5) (dB D 6) (dB D 7) (dB D 8) (dB D 9) (dB D 10)
  have e : ∀ w, dB D w = true ↔ D w = 1 := fun w => decide_eq_true_iff
  simp only [e] at k
  obtain ⟨k1, k2, k3, k4, k5, k6, k7, k8, k9, k10⟩ := k
  have c : w = 1 ∨ w = 2 ∨ w = 3 ∨ w = 4 ∨ w = 5 ∨ w = 6 ∨ w = 7 ∨ w = 8 ∨ w = 9 ∨ w = 10 := by omega
  rcases c with rfl | rfl | rfl | rfl | rfl | rfl | rfl | rfl | rfl | rfl
  · exact k1
  · exact k2
  · exact k3
  · exact k4
  · exact k5
  · exact k6
  · exact k7
  · exact k8
  · exact k9
  · exact k10
theorem tvD_set {D : Nat → Int} {w : Nat} (hw : 1 ≤ w ∧ w ≤ 10) : tvD D ||| (1 <<< (bw w &&& 31)) = tvD (up D w 1) := by
  have k := tv_set (dB D 1) (dB D 2) (dB D 3) (dB D 4) (dB D 5) (dB D 6) (dB D 7) (dB D 8) (dB D 9) (dB D 10)
  obtain ⟨k1, k2, k3, k4, k5, k6, k7, k8, k9, k10⟩ := k
  have c : w = 1 ∨ w = 2 ∨ w = 3 ∨ w = 4 ∨ w = 5 ∨ w = 6 ∨ w = 7 ∨ w = 8 ∨ w = 9 ∨ w = 10 := by omega
  rcases c with rfl | rfl | rfl | rfl | rfl | rfl | rfl | rfl | rfl | rfl
  · exact k1
  · exact k2
  · exact k3
  · exact k4
  · exact k5
  · exact k6
  · exact k7
  · exact k8
  · exact k9
  · exact k10
def StM (T : Nat → Int) (L : Nat) (S : Sta) (h : PH) : Prop := (∀ k, k < 18 → hI h 94 (18 + k) = iv (sH S k)) ∧ (∀ k, k < 96 → hI h 95 (96 + k) = iv (sC S k)) ∧ (∀ q, q < 24 → hZ h 96 (24 + q) = decide (sK S q = 1)) ∧ hI h 92 18 = tvD (sD S) ∧ (∀ i, i < (sH S 15).toNat → hJ h 97 i = jv (tW 27 T L (sPl S i))) ∧ CdM (catI (sE S) (sH S 15).toNat) h ∧ (∀ i, i < (sH S 15).toNat → hI h 98 (4 + i) = iv ((1000 + (catI (sE S) i).length : Nat) : Int) ∧ hI h 99 (4 + i) = iv ((1000 + (catI (sE S) (i + 1)).length : Nat) : Int))
theorem StM.y {T : Nat → Int} {L : Nat} {S : Sta} {h h2 : PH} (x : StM T L S h) (f : FrY h h2) : StM T L S h2 := by
  obtain ⟨a, b, c, d, g, i, j⟩ := x
  exact ⟨fun k hk => (f.1.I (by omega) _).trans (a k hk), fun k hk => (f.1.I (by omega) _).trans (b k hk), fun k hk => (f.1.Z (by omega) _).trans (c k hk), (f.2.2.1 18 (by omega) (by omega) (by omega) (by omega) (by omega) (by omega)).trans d, fun k hk => (f.1.J (by omega) k).trans (g k hk), i.y f, fun k hk => ⟨(f.1.I (by omega) _).trans (j k hk).1, (f.1.I (by omega) _).trans (j k hk).2⟩⟩
theorem CdM.w {cs : List Int} {h : PH} {a i : Nat} {v : Int32} (x : CdM cs h) (ha : a ≠ 100 ∧ (a = 92 → i ≠ 17)) : CdM cs (wI h a i v) := ⟨by rw [hI_wI, if_neg (by omega)]; exact x.1, fun k hk => by rw [hI_wI, if_neg (by omega)]; exact x.2 k hk⟩
theorem StM.w {T : Nat → Int} {L : Nat} {S : Sta} {h : PH} {k : Nat} {v : Int} (x : StM T L S h) (hk : k < 18) (k5 : k ≠ 15) : StM T L (mkS (up (sH S) k v) (sC S) (sK S) (sD S) (sPl S) (sE S)) (wI h 94 (18 + k) (iv v)) := by
  obtain ⟨a, b, c, d, g, i, j⟩ := x
  have e : up (sH S) k v 15 = sH S 15 := up_n _ _ _ _ (by omega)
  refine ⟨fun n hn => ?_, fun k hk => ?_, c, ?_, fun n hn => ?_, ?_, fun n hn => ?_⟩
  · rw [hI_wI]
    show _ = iv (up (sH S) k v n)
    by_cases z : n = k
    · rw [if_pos ⟨rfl, by omega⟩, z, up_s]
    · rw [if_neg (by omega), up_n _ _ _ _ z]; exact a n hn
  · rw [hI_wI, if_neg (by omega)]; exact b k hk
  · rw [hI_wI, if_neg (by omega)]; exact d
  · have hn2 : n < (up (sH S) k v 15).toNat := hn
    rw [e] at hn2
    exact g n hn2
  · show CdM (catI (sE S) (up (sH S) k v 15).toNat) _
    rw [e]
    exact i.w (by omega)
  · have hn2 : n < (up (sH S) k v 15).toNat := hn
    rw [e] at hn2
    rw [hI_wI, if_neg (by omega), hI_wI, if_neg (by omega)]
    exact j n hn2
theorem isTwiceM {N w : Nat} {T : Nat → Int} {L : Nat} {S : Sta} {h : PH} {x1 : Int32} (s : Shp h) (st : StM T L S h) (hw : 1 ≤ w ∧ w ≤ 10) (e : x1 = bw w) : Mo_isTwice N 92 x1 h = if sD S w = 1 then some (true, h) else some (false, wI h 92 18 (tvD (up (sD S) w 1))) := by
  subst e
  unfold Mo_isTwice
  rw [ck_p (by rw [k92 s]), st.2.2.2.1, tvD_set hw]
  simp only [tvD_get hw]
  rfl
theorem StM.d {T : Nat → Int} {L : Nat} {S : Sta} {h : PH} {w : Nat} (x : StM T L S h) : StM T L (mkS (sH S) (sC S) (sK S) (up (sD S) w 1) (sPl S) (sE S)) (wI h 92 18 (tvD (up (sD S) w 1))) := by
  obtain ⟨a, b, c, d, g, i, j⟩ := x
  refine ⟨fun n hn => ?_, fun k hk => ?_, c, ?_, g, i.w (by omega), fun n hn => ?_⟩
  · rw [hI_wI, if_neg (by omega)]; exact a n hn
  · rw [hI_wI, if_neg (by omega)]; exact b k hk
  · rw [hI_wI, if_pos ⟨rfl, rfl⟩]; rfl
  · rw [hI_wI, if_neg (by omega), hI_wI, if_neg (by omega)]; exact j n hn
/-! ### one after another -/
theorem numK {N : Nat} {T : Nat → Int} {L p : Nat} {h : PH} {lo hi : Int} {lo' hi' : Int32} {rest : PH → Option (Bool × PH)} {Q : Bool → PH → Prop} (hN : 1100 ≤ N) (x : TxM T L h) (l : LexM T L p h) (hp : p ≤ L) (e1 : lo' = iv lo) (e2 : hi' = iv hi) (hl : -100000 ≤ lo ∧ lo ≤ 100000) (hh : -100000 ≤ hi ∧ hi ≤ 100000)
    (bad : ∀ f h2, FrY h h2 → numP T L lo hi (.inr p) = .inl f → hI h2 92 9 = iv f → 0 < f ∧ f < 1048576 → Q false h2)
    (good : ∀ p2 h2, FrY h h2 → TxM T L h2 → numP T L lo hi (.inr p) = .inr p2 → LexM T L p2 h2 → p2 ≤ L → hI h2 92 31 = iv (numZ T L lo hi (.inr p)) → lo ≤ numZ T L lo hi (.inr p) ∧ numZ T L lo hi (.inr p) ≤ hi → Wp (rest h2) Q) : Wp (bd (Mo_needsNumber N 92 lo' hi' h) fun v h2 => if (bI v) = 0 then some (false, h2) else rest h2) Q := by
  subst e1 e2
  refine Wp_bd2 (needsNumM hN x l hp hl hh) ?_
  rintro v h2 ⟨f2, g2, n2⟩
  cases e : numP T L lo hi (.inr p) with
  | inl f =>
    rw [e] at g2
    obtain ⟨rfl, g3, g4⟩ := g2
    exact Wp_ifp rfl (Wp_ret (bad f h2 f2 e g3 g4))
  | inr p2 =>
    rw [e] at g2
    obtain ⟨rfl, g3, g4⟩ := g2
    have n3 := n2 rfl
    exact Wp_ifn (by decide) (good p2 h2 f2 (f2.tx x) e g3 g4 n3.1 n3.2)
theorem wordK {N i : Nat} {T : Nat → Int} {L p : Nat} {h : PH} {w : Int64} {rest : PH → Option (Bool × PH)} {Q : Bool → PH → Prop} (hN : 1100 ≤ N) (x : TxM T L h) (l : LexM T L p h) (hp : p ≤ L) (hi : i < 28) (hw : w = jv (K27 i))
    (bad : ∀ f h2, FrY h h2 → keyR T L i (.inr p) = .inl f → hI h2 92 9 = iv f → 0 < f ∧ f < 1048576 → Q false h2)
    (good : ∀ p2 h2, FrY h h2 → TxM T L h2 → keyR T L i (.inr p) = .inr p2 → LexM T L p2 h2 → p2 ≤ L → hI h2 92 31 = hI h 92 31 → Wp (rest h2) Q) : Wp (bd (Mo_needsWord N 92 w h) fun v h2 => if (bI v) = 0 then some (false, h2) else rest h2) Q := by
  refine Wp_bd2 (needsWordM hN x l hp hi hw) ?_
  rintro v h2 ⟨f2, g2, n2⟩
  cases e : keyR T L i (.inr p) with
  | inl f =>
    rw [e] at g2
    obtain ⟨rfl, g3, g4⟩ := g2
    exact Wp_ifp rfl (Wp_ret (bad f h2 f2 e g3 g4))
  | inr p2 =>
    rw [e] at g2
    obtain ⟨rfl, g3, g4⟩ := g2
    exact Wp_ifn (by decide) (good p2 h2 f2 (f2.tx x) e g3 g4 n2)
theorem bothK {N i : Nat} {T : Nat → Int} {L p : Nat} {h : PH} {w : Int64} {lo hi : Int} {lo' hi' : Int32} {rest : PH → Option (Bool × PH)} {Q : Bool → PH → Prop} (hN : 1100 ≤ N) (x : TxM T L h) (l : LexM T L p h) (hp : p ≤ L) (h28 : i < 28) (hw : w = jv (K27 i)) (e1 : lo' = iv lo) (e2 : hi' = iv hi) (hl : -100000 ≤ lo ∧ lo ≤ 100000) (hh : -100000 ≤ hi ∧ hi ≤ 100000)
    (bad : ∀ f h2, FrY h h2 → numP T L lo hi (keyR T L i (.inr p)) = .inl f → hI h2 92 9 = iv f → 0 < f ∧ f < 1048576 → Q false h2)
    (good : ∀ p2 h2, FrY h h2 → TxM T L h2 → numP T L lo hi (keyR T L i (.inr p)) = .inr p2 → LexM T L p2 h2 → p2 ≤ L → hI h2 92 31 = iv (numZ T L lo hi (keyR T L i (.inr p))) → lo ≤ numZ T L lo hi (keyR T L i (.inr p)) ∧ numZ T L lo hi (keyR T L i (.inr p)) ≤ hi → Wp (rest h2) Q) : Wp (bd (Mo_needsBoth N 92 w lo' hi' h) fun v h2 => if (bI v) = 0 then some (false, h2) else rest h2) Q := by
  subst e1 e2
  have inner : Wp (Mo_needsBoth N 92 w (iv lo) (iv hi) h) (fun v h2 => FrY h h2 ∧ GdM T L (numP T L lo hi (keyR T L i (.inr p))) v h2 ∧ (v = true → hI h2 92 31 = iv (numZ T L lo hi (keyR T L i (.inr p))) ∧ lo ≤ numZ T L lo hi (keyR T L i (.inr p)) ∧ numZ T L lo hi (keyR T L i (.inr p)) ≤ hi)) := by
    unfold Mo_needsBoth
    refine Wp_ck (by rw [k92 x.1]) (wordK hN x l hp h28 hw (fun f h2 f2 e g3 g4 => ?_) (fun p1 h1 f1 x1 e l1 hp1 _ => ?_))
    · rw [e]
      exact ⟨f2, ⟨rfl, g3, g4⟩, fun z => by cases z⟩
    · rw [e]
      refine Wp_ck (by rw [k92 x1.1]) (numK hN x1 l1 hp1 rfl rfl hl hh (fun f h2 f2 e g3 g4 => ?_) (fun p2 h2 f2 x2 e l2 hp2 n2 b2 => ?_))
      · rw [e]
        exact ⟨f1.tr f2, ⟨rfl, g3, g4⟩, fun z => by cases z⟩
      · rw [e]
        exact Wp_ret ⟨f1.tr f2, ⟨rfl, l2, hp2⟩, fun _ => ⟨n2, b2⟩⟩
  refine Wp_bd2 inner ?_
  rintro v h2 ⟨f2, g2, n2⟩
  cases e : numP T L lo hi (keyR T L i (.inr p)) with
  | inl f =>
    rw [e] at g2
    obtain ⟨rfl, g3, g4⟩ := g2
    exact Wp_ifp rfl (Wp_ret (bad f h2 f2 e g3 g4))
  | inr p2 =>
    rw [e] at g2
    obtain ⟨rfl, g3, g4⟩ := g2
    have n3 := n2 rfl
    exact Wp_ifn (by decide) (good p2 h2 f2 (f2.tx x) e g3 g4 n3.1 n3.2)
/-- a field of the house is written -/
theorem fldK {α : Type} {h : PH} {i : Nat} {i' : Int32} {v : Int32} {g : PH → Option (α × PH)} {Q : α → PH → Prop} (s : Shp h) (e : i' = iv i) (hi : i < 36) (ev : hI h 92 31 = v) (next : Wp (g (wI h 94 i v)) Q) : Wp ((hR h 92 10).bind fun a => ck ((hK h a).1 = 20) <| ck (inb i' (hK h a).2 = true) <| lt0 (wI h a (ix i') (hI h 92 31)) fun h2 => g h2) Q := by
  subst e
  refine Wp_bn (p92_10 s) (Wp_ck (by rw [k94 s]) (Wp_ck (by rw [k94 s]; exact inb_iv (by omega) (by omega) (by omega)) (Wp_lt ?_)))
  rw [ix_nat (by omega), ev]
  exact next
