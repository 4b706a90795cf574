/-! THE PURE PROOFS, 13: frames of whole calls; a Means is asked. -/
def FrH (S : Nat → Prop) (h h2 : PH) : Prop := (Shp h → Shp h2) ∧ hN h ≤ hN h2 ∧ hE h2 = hE h ∧ (∀ b, b < hN h → hK h2 b = hK h b) ∧ (∀ b, b < hN h → ¬ S b → hI h2 b = hI h b ∧ hR h2 b = hR h b ∧ hZ h2 b = hZ h b ∧ hJ h2 b = hJ h b)
theorem FrH.rf {S : Nat → Prop} {h : PH} : FrH S h h := ⟨id, Nat.le_refl _, rfl, fun _ _ => rfl, fun _ _ _ => ⟨rfl, rfl, rfl, rfl⟩⟩
theorem FrH.tr {S : Nat → Prop} {h h1 h2 : PH} (a : FrH S h h1) (b : FrH S h1 h2) : FrH S h h2 := ⟨fun s => b.1 (a.1 s), Nat.le_trans a.2.1 b.2.1, b.2.2.1.trans a.2.2.1, fun c hc => (b.2.2.2.1 c (Nat.lt_of_lt_of_le hc a.2.1)).trans (a.2.2.2.1 c hc), fun c hc hs => by
  have x := a.2.2.2.2 c hc hs
  have y := b.2.2.2.2 c (Nat.lt_of_lt_of_le hc a.2.1) hs
  exact ⟨y.1.trans x.1, y.2.1.trans x.2.1, y.2.2.1.trans x.2.2.1, y.2.2.2.trans x.2.2.2⟩⟩
theorem FrH.up {S T : Nat → Prop} {h h2 : PH} (a : FrH S h h2) (k : ∀ b, b < hN h → S b → T b) : FrH T h h2 := ⟨a.1, a.2.1, a.2.2.1, a.2.2.2.1, fun c hc hs => a.2.2.2.2 c hc (fun s => hs (k c hc s))⟩
theorem FrG.h {S : Nat → Prop} {h h2 : PH} (f : FrG S h h2) : FrH S h h2 := ⟨f.1, f.2.1, f.2.2.1, fun b hb => (f.2.2.2.1 b hb).1, fun b hb hs => ⟨(f.2.2.2.2 b hb hs).1, (f.2.2.2.2 b hb hs).2, (f.2.2.2.1 b hb).2.1, (f.2.2.2.1 b hb).2.2⟩⟩
theorem FrS.h {S : Nat → Prop} {h h2 : PH} (f : FrS S h h2) : FrH S h h2 := ⟨f.shp, Nat.le_of_eq (by unfold hN; rw [f.1]), by unfold hE; rw [f.1], fun b _ => by rw [f.2.1], fun b _ hs => ⟨(f.2.2.2 b hs).1, by rw [f.2.2.1], (f.2.2.2 b hs).2.2, (f.2.2.2 b hs).2.1⟩⟩
theorem FrI.h {S : Nat → Prop} {h h2 : PH} (f : FrI S h h2) : FrH S h h2 := f.s.h
theorem FrH.aR {S : Nat → Prop} {h0 h : PH} {a i : Nat} {v : Option Nat} (f : FrH S h0 h) (s : S a) (np : ∀ q ∈ PL, ¬ (q.1.1 = a ∧ q.1.2 = i)) : FrH S h0 (wR h a i v) := f.tr ⟨fun sh => ⟨sh.1, fun q hq => by rw [hR_wR, if_neg (np q hq)]; exact sh.2 q hq⟩, Nat.le_refl _, rfl, fun _ _ => rfl, fun b _ hb => ⟨rfl, u2_ne (fun e => hb (e ▸ s)), rfl, rfl⟩⟩
theorem FrH.I {S : Nat → Prop} {h h2 : PH} (f : FrH S h h2) {b : Nat} (l : b < hN h) (n : ¬ S b) : hI h2 b = hI h b := (f.2.2.2.2 b l n).1
theorem FrH.R {S : Nat → Prop} {h h2 : PH} (f : FrH S h h2) {b : Nat} (l : b < hN h) (n : ¬ S b) : hR h2 b = hR h b := (f.2.2.2.2 b l n).2.1
theorem FrH.Z {S : Nat → Prop} {h h2 : PH} (f : FrH S h h2) {b : Nat} (l : b < hN h) (n : ¬ S b) : hZ h2 b = hZ h b := (f.2.2.2.2 b l n).2.2.1
theorem FrH.J {S : Nat → Prop} {h h2 : PH} (f : FrH S h h2) {b : Nat} (l : b < hN h) (n : ¬ S b) : hJ h2 b = hJ h b := (f.2.2.2.2 b l n).2.2.2
theorem HsL.frH {b : Nat} {H C : Nat → Int} {h h2 : PH} {S : Nat → Prop} (x : HsL b H C h) (f : FrH S h h2) (l : b + 3 < hN h) (n0 : ¬ S b) (n1 : ¬ S (b + 1)) (n2 : ¬ S (b + 2)) (n3 : ¬ S (b + 3)) : HsL b H C h2 := by
  unfold HsL at x ⊢
  rw [f.I (by omega) n0, f.I (by omega) n1, f.I (by omega) n2, f.I (by omega) n3]
  exact x
theorem NtL.frH {a : Nat} {n : Nat → Int} {h h2 : PH} {S : Nat → Prop} (x : NtL a n h) (f : FrH S h h2) (l : a < hN h) (n0 : ¬ S a) : NtL a n h2 := by
  unfold NtL at x ⊢
  rw [f.I l n0, f.Z l n0]
  exact x
theorem HabL.frH {N : Nat} {H : Nat → Int} {E : Int → Int → Int → Int → Int → Int} {h h2 : PH} {S : Nat → Prop} (x : HabL N H E h) (f : FrH S h h2) (l : 15 < hN h) (n0 : ¬ S 10) (n1 : ¬ S 14) (n2 : ¬ S 15) : HabL N H E h2 := fun h1 s e0 e1 e2 => x h1 s (e0.trans (f.I (by omega) n0)) (e1.trans (f.I (by omega) n1)) (e2.trans (f.I (by omega) n2))
theorem VaP.frH {a0 g0 : Nat} {wet mute : Int} {H C : Nat → Int} {tb len : Nat} {ff : Int} {h h2 : PH} {S : Nat → Prop} (p : VaP a0 g0 wet mute H C tb len ff h) (f : FrH S h h2) (n0 : ¬ S a0) (n1 : ¬ S g0) (n2 : ¬ S tb) : VaP a0 g0 wet mute H C tb len ff h2 := by
  obtain ⟨⟨v1, v2, v3, v4, v5, v6, v7, v8, vr⟩, b, e5, hl, x, htb, hlen, ha0, hg0, hn⟩ := p
  have la : a0 < hN h := by omega
  have lg : g0 < hN h := by omega
  refine ⟨⟨?_, ?_, ?_, ?_, ?_, ?_, ?_, ?_, vr⟩, b, ?_, hl, ?_, Nat.lt_of_lt_of_le htb f.2.1, hlen, ha0, hg0, Nat.le_trans hn f.2.1⟩
  · rw [f.2.2.2.1 a0 la]; exact v1
  · rw [f.R la n0]; exact v2
  · rw [f.R la n0]; exact v3
  · rw [f.2.2.2.1 g0 lg]; exact v4
  · rw [f.R la n0]; exact v5
  · rw [f.2.2.2.1 tb htb]; exact v6
  · rw [f.Z la n0]; exact v7
  · rw [f.Z la n0]; exact v8
  · rw [f.I la n0]; exact e5
  · intro q t a w b0 b1 b2 b3 b4 b5 b6 b7
    rw [f.I htb n2]
    exact x q t a w b0 b1 b2 b3 b4 b5 b6 b7
theorem roomW {N tb len : Nat} {h : PH} {need : Int} (hk : hK h tb = (20, len)) (hl : len ≤ 75504) (hn : 0 ≤ need ∧ need ≤ 75504) (h127 : 127 ≤ hN h) (htb : tb < hN h) : Wp (Le_roomFor N (some tb) (iv need) h) (fun v h2 => ∃ tb2 len2, v = some tb2 ∧ hK h2 tb2 = (20, len2) ∧ need ≤ len2 ∧ len2 ≤ 75504 ∧ FrH (fun _ => False) h h2 ∧ hN h2 ≤ hN h + 1 ∧ tb2 < hN h2 ∧ hS h2 + phi len ≤ hS h + phi len2 ∧ ((tb2 = tb ∧ len2 = len) ∨ (tb2 = hN h ∧ ∀ p, hI h2 tb2 p = iv 0))) := by
  have r := roomL (N := N) hk hl hn
  by_cases c : need ≤ len
  · rw [if_pos c] at r
    exact ⟨_, _, r, tb, len, rfl, hk, c, hl, FrH.rf, Nat.le_succ _, htb, Nat.le_refl _, Or.inl ⟨rfl, rfl⟩⟩
  · rw [if_neg c] at r
    have nb := newL_b (len := len) (need := need) (by omega) (by omega)
    refine ⟨_, _, r, hN h, (newL need).toNat, rfl, ?_, by omega, by omega, ?_, Nat.le_refl _, Nat.lt_succ_self _, ?_, Or.inr ⟨rfl, fun p => ?_⟩⟩
    · rw [hK_nw, if_pos rfl]
    · refine ⟨fun s => ⟨fun q hq => ?_, fun q hq => ?_⟩, Nat.le_succ _, rfl, fun b hb => by rw [hK_nw, if_neg (by omega)], fun b hb _ => ⟨?_, ?_, ?_, ?_⟩⟩
      · have : ∀ q ∈ KL, q.1 < 127 := by decide +kernel
        have := this q hq
        rw [hK_nw, if_neg (by omega)]
        exact s.1 q hq
      · have : ∀ q ∈ PL, q.1.1 < 127 := by decide +kernel
        have := this q hq
        rw [hR_nw, if_neg (by omega)]
        exact s.2 q hq
      · funext j; rw [hI_nw, if_neg (by omega)]
      · funext j; rw [hR_nw, if_neg (by omega)]
      · funext j; rw [hZ_nw, if_neg (by omega)]
      · funext j; rw [hJ_nw, if_neg (by omega)]
    · show hS h + (newL need).toNat + phi len ≤ hS h + phi (newL need).toNat
      omega
    · rw [hI_nw, if_pos rfl, ← il0]
/-- a Means between its askings -/
def MeP (kn ro lk lr : Nat) (rd : Int) (h : PH) : Prop := hR h 45 5 = some kn ∧ hK h kn = (20, lk) ∧ hR h 45 6 = some ro ∧ hK h ro = (20, lr) ∧ hI h 45 7 = iv rd ∧ (0 ≤ rd ∧ rd < 2147483000) ∧ RLe ro lr rd h ∧ lk ≤ 75504 ∧ lr ≤ 75504 ∧ (kn < 10 ∨ 15 < kn) ∧ (ro < 10 ∨ 15 < ro) ∧ kn ≠ ro ∧ kn ≠ 45 ∧ kn ≠ 46 ∧ ro ≠ 45 ∧ ro ≠ 46 ∧ kn < hN h ∧ ro < hN h ∧ 127 ≤ hN h
theorem MeP.frH {kn ro lk lr : Nat} {rd : Int} {h h2 : PH} {S : Nat → Prop} (p : MeP kn ro lk lr rd h) (f : FrH S h h2) (n0 : ¬ S 45) (n1 : ¬ S kn) (n2 : ¬ S ro) : MeP kn ro lk lr rd h2 := by
  obtain ⟨r5, e5, r6, e6, i7, b, rl, l1, l2, d1, d2, d3, d4, d5, d6, d7, x1, x2, hn⟩ := p
  have l45 : 45 < hN h := by omega
  refine ⟨?_, ?_, ?_, ?_, ?_, b, ?_, l1, l2, d1, d2, d3, d4, d5, d6, d7, Nat.lt_of_lt_of_le x1 f.2.1, Nat.lt_of_lt_of_le x2 f.2.1, Nat.le_trans hn f.2.1⟩
  · rw [f.R l45 n0]; exact r5
  · rw [f.2.2.2.1 kn x1]; exact e5
  · rw [f.R l45 n0]; exact r6
  · rw [f.2.2.2.1 ro x2]; exact e6
  · rw [f.I l45 n0]; exact i7
  · intro p hp
    rw [f.I x2 n2]
    exact rl p hp
def S4 (kn ro : Nat) (b : Nat) : Prop := b = 45 ∨ b = 46 ∨ b = kn ∨ b = ro
/-- what an asking leaves -/
def MeStep (kn ro lk lr : Nat) (rd : Int) (h h2 : PH) : Prop := ∃ kn2 ro2 lk2 lr2, FrH (S4 kn ro) h h2 ∧ MeP kn2 ro2 lk2 lr2 (rd + 1) h2 ∧ (kn2 = kn ∨ hN h ≤ kn2) ∧ (ro2 = ro ∨ hN h ≤ ro2) ∧ hN h2 ≤ hN h + 2 ∧ hS h2 + phi lk + phi lr ≤ hS h + phi lk2 + phi lr2
theorem FrI.w1 {a : Nat} {h0 h : PH} {i : Nat} {v : Int32} (f : FrI (fun b => b = a) h0 h) : FrI (fun b => b = a) h0 (wI h a i v) := f.w rfl
theorem npPL {a i : Nat} (e : (a = 45 ∧ (i = 5 ∨ i = 6))) : ∀ q ∈ PL, ¬ (q.1.1 = a ∧ q.1.2 = i) := by
  have : ∀ q ∈ PL, ¬ (q.1.1 = 45 ∧ (q.1.2 = 5 ∨ q.1.2 = 6)) := by decide +kernel
  intro q hq hc
  have := this q hq
  omega
theorem askL {N an : Nat} {H C n : Nat → Int} {E : Int → Int → Int → Int → Int → Int} {hb lf u : Int} {kn ro lk lr : Nat} {rd : Int} {h : PH} (hN0 : 200 ≤ N) (s : Shp h) (ho : HOK H C) (eo : EOK E) (hs : HsL 10 H C h) (hl : HabL N H E h) (p : MeP kn ro lk lr rd h) (hrd : rd < 2147482000) (ka : hK h an = (3, 0)) (han : an < hN h ∧ an ≠ 45 ∧ an ≠ 46 ∧ an ≠ kn ∧ an ≠ ro) (nt : NtL an n h) (nk : NOK H n) (hhb : 0 ≤ hb ∧ hb < H 15) (hu : n 0 ≤ u ∧ u ≤ H 0) (hlf : lf = 0 ∨ lf = 1) (z4 : hZ h 45 4 = decide (lf = 1)) : Wp (Me_ask N 45 (iv hb) (iv u) (some an) h) (fun v h2 => v = iv (Fq H C E hb lf u (n 0) (n 1) (n 2) (n 7)) ∧ MeStep kn ro lk lr rd h h2) := by
  obtain ⟨r5, e5, r6, e6, i7, b, rl, l1, l2, d1, d2, d3, d4, d5, d6, d7, x1, x2, hn⟩ := p
  have sb := sz_b ho
  have h01 := ho.1
  have szE : ∀ h : PH, Shp h → HsL 10 H C h → Ho_size N 10 h = some (iv (szH H), h) := by
    intro h s hs
    unfold Ho_size szH
    rw [ck_p (by rw [k10 s]), hs.1, hs.2.1, hs.2.2.1]
    simp only [il1, il2, iv_add, iv_mul]
  unfold Me_ask
  refine Wp_ck (by rw [k45 s]) (Wp_bn (p45_0 s) (Wp_ck (by rw [k10 s]) (Wp_bde (szE h s hs) ?_)))
  rw [r5]
  refine Wp_bd2 (roomW e5 l1 (by omega) hn x1) ?_
  rintro - h1 ⟨kn2, lk2, rfl, e51, z1, z2, f1, n1, y1, s1l, cs1⟩
  refine Wp_ck (by rw [f1.2.2.2.1 45 (by omega), k45 s]) (Wp_lt ?_)
  have hN1 := f1.2.1
  have ktb2 : kn2 = kn ∨ hN h ≤ kn2 := by omega
  have f2 : FrH (S4 kn ro) h (wR h1 45 5 (some kn2)) := (f1.up (fun b _ e => e.elim)).aR (Or.inl rfl) (npPL ⟨rfl, Or.inl rfl⟩)
  have sh2 := f2.1 s
  have hs2 : HsL 10 H C (wR h1 45 5 (some kn2)) := hs.frH f2 (by omega) (by unfold S4; omega) (by unfold S4; omega) (by unfold S4; omega) (by unfold S4; omega)
  have r62 : hR (wR h1 45 5 (some kn2)) 45 6 = some ro := by rw [hR_wR, if_neg (by omega), f1.R (by omega) (fun e => e)]; exact r6
  have e62 : hK (wR h1 45 5 (some kn2)) ro = (20, lr) := by rw [hK_wR, f1.2.2.2.1 ro x2]; exact e6
  have r52 : hR (wR h1 45 5 (some kn2)) 45 5 = some kn2 := by rw [hR_wR, if_pos ⟨rfl, rfl⟩]
  have e52 : hK (wR h1 45 5 (some kn2)) kn2 = (20, lk2) := by rw [hK_wR]; exact e51
  have y2 : kn2 < hN (wR h1 45 5 (some kn2)) := y1
  have n2 : hN (wR h1 45 5 (some kn2)) ≤ hN h + 1 := n1
  have s2l : hS (wR h1 45 5 (some kn2)) + phi lk ≤ hS h + phi lk2 := s1l
  have i2 : hI (wR h1 45 5 (some kn2)) 45 = hI h 45 := f1.I (by omega) (fun e => e)
  have zz2 : hZ (wR h1 45 5 (some kn2)) 45 = hZ h 45 := f1.Z (by omega) (fun e => e)
  have w2 : hI (wR h1 45 5 (some kn2)) ro = hI h ro := f1.I x2 (fun e => e)
  generalize wR h1 45 5 (some kn2) = h2 at f2 sh2 hs2 r62 e62 r52 e52 y2 n2 s2l i2 zz2 w2 ⊢
  refine Wp_bn (p45_0 sh2) (Wp_ck (by rw [k10 sh2]) (Wp_bde (szE h2 sh2 hs2) ?_))
  rw [r62]
  have hN2 := f2.2.1
  refine Wp_bd2 (roomW e62 l2 (by omega) (by omega) (by omega)) ?_
  rintro - h3 ⟨ro2, lr2, rfl, e63, z3, z4', f3, n3, y3, s3l, cs3⟩
  have hN3 := f3.2.1
  have rtb2 : ro2 = ro ∨ hN h ≤ ro2 := by omega
  have dkr : kn2 ≠ ro2 := by omega
  refine Wp_ck (by rw [f3.2.2.2.1 45 (by omega), k45 sh2]) (Wp_lt ?_)
  have f4 : FrH (S4 kn ro) h (wR h3 45 6 (some ro2)) := f2.tr ((f3.up (fun b _ e => e.elim)).aR (Or.inl rfl) (npPL ⟨rfl, Or.inr rfl⟩))
  have r64 : hR (wR h3 45 6 (some ro2)) 45 6 = some ro2 := by rw [hR_wR, if_pos ⟨rfl, rfl⟩]
  have r54 : hR (wR h3 45 6 (some ro2)) 45 5 = some kn2 := by rw [hR_wR, if_neg (by omega), f3.R (by omega) (fun e => e)]; exact r52
  have e64 : hK (wR h3 45 6 (some ro2)) ro2 = (20, lr2) := e63
  have e54 : hK (wR h3 45 6 (some ro2)) kn2 = (20, lk2) := by rw [hK_wR, f3.2.2.2.1 kn2 y2]; exact e52
  have y4 : ro2 < hN (wR h3 45 6 (some ro2)) := y3
  have y5 : kn2 < hN (wR h3 45 6 (some ro2)) := Nat.lt_of_lt_of_le y2 hN3
  have i4 : hI (wR h3 45 6 (some ro2)) 45 = hI h 45 := (f3.I (by omega) (fun e => e)).trans i2
  have zz4 : hZ (wR h3 45 6 (some ro2)) 45 = hZ h 45 := (f3.Z (by omega) (fun e => e)).trans zz2
  have rl4 : RLe ro2 lr2 rd (wR h3 45 6 (some ro2)) := by
    intro p hp
    rcases cs3 with ⟨rfl, rfl⟩ | ⟨-, hz⟩
    · have e : hI (wR h3 45 6 (some ro2)) ro2 = hI h ro2 := (f3.I (by omega) (fun e => e)).trans w2
      rw [e]
      exact rl p hp
    · exact ⟨0, Int.le_refl _, b.1, hz p⟩
  have n4 : hN (wR h3 45 6 (some ro2)) ≤ hN h + 2 := by show hN h3 ≤ hN h + 2; omega
  have s4l : hS (wR h3 45 6 (some ro2)) + phi lk + phi lr ≤ hS h + phi lk2 + phi lr2 := by show hS h3 + phi lk + phi lr ≤ hS h + phi lk2 + phi lr2; omega
  generalize wR h3 45 6 (some ro2) = h4 at f4 r64 r54 e64 e54 y4 y5 i4 zz4 rl4 n4 s4l ⊢
  have hN4 := f4.2.1
  have g5 : FrI (fun b => b = 45) h4 (wI (wI (wI h4 45 7 (iv (rd + 1))) 45 2 (iv hb)) 45 3 (iv u)) := FrI.rf.w1.w1.w1
  have f5 : FrH (S4 kn ro) h (wI (wI (wI h4 45 7 (iv (rd + 1))) 45 2 (iv hb)) 45 3 (iv u)) := f4.tr (g5.h.up (fun b _ e => Or.inl e))
  refine Wp_lt (Wp_lt (Wp_lt ?_))
  rw [i4, i7, il1, iv_add]
  have sh5 := f5.1 s
  have hs5 : HsL 10 H C (wI (wI (wI h4 45 7 (iv (rd + 1))) 45 2 (iv hb)) 45 3 (iv u)) := hs.frH f5 (by omega) (by unfold S4; omega) (by unfold S4; omega) (by unfold S4; omega) (by unfold S4; omega)
  have hl5 : HabL N H E (wI (wI (wI h4 45 7 (iv (rd + 1))) 45 2 (iv hb)) 45 3 (iv u)) := hl.frH f5 (by omega) (by unfold S4; omega) (by unfold S4; omega) (by unfold S4; omega)
  have nt5 : NtL an n (wI (wI (wI h4 45 7 (iv (rd + 1))) 45 2 (iv hb)) 45 3 (iv u)) := nt.frH f5 han.1 (by unfold S4; omega)
  have ka5 : hK (wI (wI (wI h4 45 7 (iv (rd + 1))) 45 2 (iv hb)) 45 3 (iv u)) an = (3, 0) := (f5.2.2.2.1 an han.1).trans ka
  have i2' : hI (wI (wI (wI h4 45 7 (iv (rd + 1))) 45 2 (iv hb)) 45 3 (iv u)) 45 2 = iv hb := by simp [hI_wI]
  have i3' : hI (wI (wI (wI h4 45 7 (iv (rd + 1))) 45 2 (iv hb)) 45 3 (iv u)) 45 3 = iv u := by simp [hI_wI]
  have i7' : hI (wI (wI (wI h4 45 7 (iv (rd + 1))) 45 2 (iv hb)) 45 3 (iv u)) 45 7 = iv (rd + 1) := by simp [hI_wI]
  have z5 : hZ (wI (wI (wI h4 45 7 (iv (rd + 1))) 45 2 (iv hb)) 45 3 (iv u)) 45 4 = decide (lf = 1) := by rw [hZ_wI, hZ_wI, hZ_wI, zz4]; exact z4
  have r65 : hR (wI (wI (wI h4 45 7 (iv (rd + 1))) 45 2 (iv hb)) 45 3 (iv u)) 45 6 = some ro2 := r64
  have r55 : hR (wI (wI (wI h4 45 7 (iv (rd + 1))) 45 2 (iv hb)) 45 3 (iv u)) 45 5 = some kn2 := r54
  have e65 : hK (wI (wI (wI h4 45 7 (iv (rd + 1))) 45 2 (iv hb)) 45 3 (iv u)) ro2 = (20, lr2) := e64
  have e55 : hK (wI (wI (wI h4 45 7 (iv (rd + 1))) 45 2 (iv hb)) 45 3 (iv u)) kn2 = (20, lk2) := e54
  have rl5 : RLe ro2 lr2 rd (wI (wI (wI h4 45 7 (iv (rd + 1))) 45 2 (iv hb)) 45 3 (iv u)) := by
    intro p hp
    rw [g5.I (by omega)]
    exact rl4 p hp
  have n5 : hN (wI (wI (wI h4 45 7 (iv (rd + 1))) 45 2 (iv hb)) 45 3 (iv u)) = hN h4 := rfl
  have m5 : hS (wI (wI (wI h4 45 7 (iv (rd + 1))) 45 2 (iv hb)) 45 3 (iv u)) = hS h4 := rfl
  generalize wI (wI (wI h4 45 7 (iv (rd + 1))) 45 2 (iv hb)) 45 3 (iv u) = h5 at f5 sh5 hs5 hl5 nt5 ka5 i2' i3' i7' z5 r65 r55 e65 e55 rl5 n5 m5 ⊢
  refine Wp_bn rfl (Wp_ck (by rw [ka5]) ?_)
  obtain ⟨t0, t1, t2, t3, -, -, -, -, -, -, -, -, t7, -⟩ := nt5
  obtain ⟨⟨q1, q2⟩, q3, q4, -, -, -, -, i7n, -⟩ := nk
  rw [t0, t1, t2, t7, bI_w i7n]
  have mk : MeK H C hb lf u kn2 ro2 lk2 lr2 (rd + 1) := ⟨z1, z3, by omega, by omega, by omega, by omega, dkr, by omega, by omega, by omega, by omega, hhb, by omega, hlf, by omega⟩
  refine Wp_bd2 (fromL hN0 ho eo mk (u - n 0).toNat (n 0) (n 1) (n 2) (n 7) h5 (by omega) q1 q3 q4 i7n ⟨sh5, hs5, hl5, r55, e55, r65, e65, i2', i3', i7', z5⟩ ?_ ?_ 26 (by omega)) ?_
  · intro q t a w b0 b1 b2 b3 b4 b5 b6 b7
    have pb := pl_b (H := H) (q := q) (t := t) (a := a) (w := w) ⟨b0, by omega⟩ ⟨b2, b3⟩ ⟨b4, b5⟩ (by omega)
    obtain ⟨r, c1, c2, c3⟩ := rl5 (pl H q t a w).toNat (by omega)
    rw [c3, iv_eq (by omega) (by omega) (by omega) (by omega)] at b7
    omega
  · intro p hp
    obtain ⟨r, c1, c2, c3⟩ := rl5 p hp
    exact ⟨r, c1, by omega, c3⟩
  · rintro v h6 ⟨rfl, f6, -, rl6⟩
    refine Wp_ret ⟨rfl, kn2, ro2, lk2, lr2, ?_, ⟨?_, ?_, ?_, ?_, ?_, by omega, rl6, by omega, by omega, by omega, by omega, dkr, by omega, by omega, by omega, by omega, ?_, ?_, ?_⟩, ktb2, rtb2, ?_, ?_⟩
    · refine ⟨fun s => f6.shp (f5.1 s), Nat.le_trans f5.2.1 f6.h.2.1, f6.h.2.2.1.trans f5.2.2.1, fun b hb => (f6.h.2.2.2.1 b (Nat.lt_of_lt_of_le hb f5.2.1)).trans (f5.2.2.2.1 b hb), fun b hb hS => ?_⟩
      have y := f6.h.2.2.2.2 b (Nat.lt_of_lt_of_le hb f5.2.1) (by unfold S4 at hS; unfold SMe; omega)
      have x := f5.2.2.2.2 b hb hS
      exact ⟨y.1.trans x.1, y.2.1.trans x.2.1, y.2.2.1.trans x.2.2.1, y.2.2.2.trans x.2.2.2⟩
    · rw [f6.2.2.1]; exact r55
    · rw [f6.2.1]; exact e55
    · rw [f6.2.2.1]; exact r65
    · rw [f6.2.1]; exact e65
    · rw [f6.I (by unfold SMe; omega)]; exact i7'
    · have := f6.h.2.1; omega
    · have := f6.h.2.1; omega
    · have := f6.h.2.1; omega
    · unfold hN at n4 n5 ⊢; rw [f6.1]; omega
    · unfold hS at s4l m5 ⊢; rw [f6.1]; omega
theorem mworthL {N an : Nat} {H C n : Nat → Int} {E : Int → Int → Int → Int → Int → Int} {hb u : Int} {kn ro lk lr : Nat} {rd : Int} {h : PH} (hN0 : 200 ≤ N) (s : Shp h) (ho : HOK H C) (eo : EOK E) (hs : HsL 10 H C h) (hl : HabL N H E h) (p : MeP kn ro lk lr rd h) (hrd : rd < 2147482000) (ka : hK h an = (3, 0)) (han : an < hN h ∧ an ≠ 45 ∧ an ≠ 46 ∧ an ≠ kn ∧ an ≠ ro) (nt : NtL an n h) (nk : NOK H n) (hhb : 0 ≤ hb ∧ hb < H 15) (hu : n 0 ≤ u ∧ u ≤ H 0) : Wp (Me_worthOf N 45 (iv hb) (iv u) (some an) h) (fun v h2 => v = iv (Fq H C E hb 0 u (n 0) (n 1) (n 2) (n 7)) ∧ MeStep kn ro lk lr rd h h2) := by
  unfold Me_worthOf
  refine Wp_ck (by rw [k45 s]) (Wp_lt ?_)
  rw [tb_0]
  have g : FrS (fun b => b = 45) h (wZ h 45 4 false) := FrS.rf.z1
  have pz : MeP kn ro lk lr rd (wZ h 45 4 false) := p
  have hlen : 127 ≤ hN h := by obtain ⟨-, -, -, -, -, -, -, -, -, -, -, -, -, -, -, -, -, -, hn⟩ := p; exact hn
  refine Wp_bd2 (askL (lf := 0) hN0 (g.shp s) ho eo (hs.fr g (by omega) (by omega) (by omega) (by omega)) (hl.frH g.h (by omega) (by omega) (by omega) (by omega)) pz hrd (by rw [g.2.1]; exact ka) han (nt.fr g (by omega)) nk hhb hu (Or.inl rfl) (by simp [hZ_wZ])) ?_
  rintro v h2 ⟨rfl, kn2, ro2, lk2, lr2, f, q⟩
  exact Wp_ret ⟨rfl, kn2, ro2, lk2, lr2, (g.h.up (fun b _ e => Or.inl e)).tr f, q⟩
theorem mleftL {N an : Nat} {H C n : Nat → Int} {E : Int → Int → Int → Int → Int → Int} {hb : Int} {kn ro lk lr : Nat} {rd : Int} {h : PH} (hN0 : 200 ≤ N) (s : Shp h) (ho : HOK H C) (eo : EOK E) (hs : HsL 10 H C h) (hl : HabL N H E h) (p : MeP kn ro lk lr rd h) (hrd : rd < 2147482000) (ka : hK h an = (3, 0)) (han : an < hN h ∧ an ≠ 45 ∧ an ≠ 46 ∧ an ≠ kn ∧ an ≠ ro) (nt : NtL an n h) (nk : NOK H n) (hhb : 0 ≤ hb ∧ hb < H 15) : Wp (Me_leftBy N 45 (iv hb) (some an) h) (fun v h2 => v = iv (Fq H C E hb 1 (H 0) (n 0) (n 1) (n 2) (n 7)) ∧ MeStep kn ro lk lr rd h h2) := by
  unfold Me_leftBy
  refine Wp_ck (by rw [k45 s]) (Wp_lt ?_)
  rw [tb_1]
  have g : FrS (fun b => b = 45) h (wZ h 45 4 true) := FrS.rf.z1
  have pz : MeP kn ro lk lr rd (wZ h 45 4 true) := p
  have s1 := g.shp s
  have hs1 : HsL 10 H C (wZ h 45 4 true) := hs.fr g (by omega) (by omega) (by omega) (by omega)
  have hlen : 127 ≤ hN h := by obtain ⟨-, -, -, -, -, -, -, -, -, -, -, -, -, -, -, -, -, -, hn⟩ := p; exact hn
  refine Wp_bn (p45_0 s1) (Wp_ck (by rw [k10 s1]) ?_)
  rw [hs1.1]
  refine Wp_bd2 (askL (lf := 1) hN0 s1 ho eo hs1 (hl.frH g.h (by omega) (by omega) (by omega) (by omega)) pz hrd (by rw [g.2.1]; exact ka) han (nt.fr g (by omega)) nk hhb ⟨nk.1.2, Int.le_refl _⟩ (Or.inr rfl) (by simp [hZ_wZ])) ?_
  rintro v h2 ⟨rfl, kn2, ro2, lk2, lr2, f, q⟩
  exact Wp_ret ⟨rfl, kn2, ro2, lk2, lr2, (g.h.up (fun b _ e => Or.inl e)).tr f, q⟩
