/-! THE PURE PROOFS, 47: the reference reads how much a guest gets: nots left, brackets opened. -/
/-- the depth that is left standing behind an operand: nots are left -/
def pdn (o : Nat → Int32) : Nat → Nat
  | 0 => 0
  | d + 1 => if o (d + 1) = 1 then pdn o d else d + 1
theorem pdn_le (o : Nat → Int32) : ∀ d, pdn o d ≤ d
  | 0 => Nat.le_refl _
  | d + 1 => by
    have := pdn_le o d
    rw [pdn]
    split <;> omega
theorem pdn_ext {o o2 : Nat → Int32} : ∀ d, (∀ i, i ≤ d → o2 i = o i) → pdn o2 d = pdn o d
  | 0, _ => rfl
  | d + 1, h => by rw [pdn, pdn, h (d + 1) (by omega), pdn_ext d (fun i hi => h i (by omega))]
/-- the next token, and on -/
theorem onM {N d fuel : Nat} {T : Nat → Int} {L p : Nat} {x2 : Int32} {h : PH} {Q : Bool → PH → Prop} (hN : 1100 ≤ N) (x : TxM T L h) (l : LexM T L p h) (hp : p ≤ L) (k : ∀ h2, FrY h h2 → LexM T L (tE T L p) h2 → hI h2 101 = hI h 101 → hI h2 92 31 = hI h 92 31 → Wp (Mo_reads_b11 N fuel 92 (iv d) x2 h2) Q) : Wp (Mo_reads_b172 N (Mo_reads_b11 N fuel) 92 (iv d) x2 h) Q ∧ Wp (Mo_reads_b424 N (Mo_reads_b11 N fuel) 92 (iv d) x2 h) Q := by
  have go : Wp (bd (Mo_nextToken N 92 h) fun _ h3 => Mo_reads_b11 N fuel 92 (iv d) x2 h3) Q := by
    refine Wp_bd2 (nextR hN x l hp) ?_
    rintro - h2 ⟨f2, l2⟩
    exact k h2 f2.y l2 (f2.1.2.2.2 101 (by omega)).1 (f2.2.2.1 31 (by omega) (by omega) (by omega) (by omega))
  refine ⟨?_, ?_⟩
  · unfold Mo_reads_b172
    exact Wp_ck (by rw [k92 x.1]) go
  · unfold Mo_reads_b424
    exact Wp_ck (by rw [k92 x.1]) go
theorem popM {N fuel : Nat} {T : Nat → Int} {L p : Nat} {x2 : Int32} {h : PH} {Q : Bool → PH → Prop} (hN : 1100 ≤ N) (x : TxM T L h) (l : LexM T L p h) (hp : p ≤ L) : ∀ d fl : Nat, d < fl → d < 7 → (∀ h2, FrY h h2 → LexM T L (tE T L p) h2 → hI h2 101 = hI h 101 → Wp (Mo_reads_b11 N fuel 92 (iv (pdn (hI h 101) d : Nat)) x2 h2) Q) → Wp (Mo_reads_b152 N (Mo_reads_b11 N fuel) fl 92 (iv d) x2 h) Q ∧ Wp (Mo_reads_b379 N (Mo_reads_b11 N fuel) fl 92 (iv d) x2 h) Q := by
  intro d
  induction d with
  | zero =>
    intro fl hf _ k
    obtain ⟨fu, rfl⟩ : ∃ g, fl = g + 1 := ⟨fl - 1, by omega⟩
    have r := onM (d := 0) (x2 := x2) (Q := Q) hN x l hp (fun h2 f2 l2 e2 _ => k h2 f2 l2 e2)
    rw [Mo_reads_b152, Mo_reads_b379]
    exact ⟨Wp_ifp (by decide) r.1, Wp_ifp (by decide) r.2⟩
  | succ d ih =>
    intro fl hf hd k
    obtain ⟨fu, rfl⟩ : ∃ g, fl = g + 1 := ⟨fl - 1, by omega⟩
    have s := x.1
    have ed : iv ((d + 1 : Nat) : Int) + (-1) = iv (d : Nat) := by rw [show (-1 : Int32) = iv (-1) from by decide, iv_add]; congr 1; omega
    have pos : ¬ iv ((d + 1 : Nat) : Int) ≤ (0 : Int32) := by rw [il0, iv_le (by omega) (by omega) (by omega) (by omega)]; omega
    rw [Mo_reads_b152, Mo_reads_b379]
    by_cases c : hI h 101 (d + 1) = 1
    · rw [pdn, if_pos c] at k
      have r := ih fu (by omega) (by omega) k
      refine ⟨Wp_ifn pos (Wp_ck (by rw [k92 s]) (Wp_bn (p92_19 s) (Wp_ck (by rw [k101 s]) (Wp_ck (by rw [k101 s]; exact inb_iv (by omega) (by omega) (by omega)) ?_)))), Wp_ifn pos (Wp_ck (by rw [k92 s]) (Wp_bn (p92_19 s) (Wp_ck (by rw [k101 s]) (Wp_ck (by rw [k101 s]; exact inb_iv (by omega) (by omega) (by omega)) ?_))))⟩
      · rw [ix_nat (by omega), ed]
        exact Wp_ifp c r.1
      · rw [ix_nat (by omega), ed]
        exact Wp_ifp c r.2
    · rw [pdn, if_neg c] at k
      have r := onM (d := d + 1) (x2 := x2) (Q := Q) hN x l hp (fun h2 f2 l2 e2 _ => k h2 f2 l2 e2)
      refine ⟨Wp_ifn pos (Wp_ck (by rw [k92 s]) (Wp_bn (p92_19 s) (Wp_ck (by rw [k101 s]) (Wp_ck (by rw [k101 s]; exact inb_iv (by omega) (by omega) (by omega)) ?_)))), Wp_ifn pos (Wp_ck (by rw [k92 s]) (Wp_bn (p92_19 s) (Wp_ck (by rw [k101 s]) (Wp_ck (by rw [k101 s]; exact inb_iv (by omega) (by omega) (by omega)) ?_))))⟩
      · rw [ix_nat (by omega)]
        exact Wp_ifn c r.1
      · rw [ix_nat (by omega)]
        exact Wp_ifn c r.2
/-- a bracket or a not: its code, and one deeper -/
theorem openR {N d fuel : Nat} {T : Nat → Int} {L p : Nat} {cs : List Int} {x4 : Int32} {h : PH} {Q : Bool → PH → Prop} (hN : 1100 ≤ N) (x : TxM T L h) (l : LexM T L p h) (hp : p ≤ L) (cd : CdM cs h) (hc : cs.length < 1000) (hd : d + 1 < 7) (k : ∀ h2, FrN h h2 → TxM T L h2 → LexM T L (tE T L p) h2 → CdM (cs ++ [if x4 = 0 then 28 else 30]) h2 → hI h2 101 (d + 1) = (if x4 = 0 then 2 else 1) → hZ h2 102 (d + 1) = false → (∀ i, i ≤ d → hI h2 101 i = hI h 101 i ∧ hZ h2 102 i = hZ h 102 i) → Wp (Mo_reads_b11 N fuel 92 (iv ((d + 1 : Nat) : Int)) 1 h2) Q) : Wp (Mo_reads_b86 N (Mo_reads_b11 N fuel) 92 (iv d) 1 x4 h) Q := by
  have ed : iv (d : Int) + 1 = iv ((d + 1 : Nat) : Int) := by rw [il1, iv_add]; rfl
  have b120 : ∀ (h1 : PH) (z : Int32), FrN h h1 → LexM T L p h1 → CdM (cs ++ [if x4 = 0 then 28 else 30]) h1 → hI h1 101 = hI h 101 → hZ h1 = hZ h → z = (if x4 = 0 then 2 else 1) → Wp (Mo_reads_b120 N (Mo_reads_b11 N fuel) (some 101) (iv ((d + 1 : Nat) : Int)) z 92 (iv ((d + 1 : Nat) : Int)) 1 h1) Q := by
    intro h1 z f1 l1 c1 e1 z1 ez
    have s1 := (f1.tx x).1
    unfold Mo_reads_b120
    refine Wp_bn rfl (Wp_ck (by rw [k101 s1]) (Wp_ck (by rw [k101 s1]; exact inb_iv (by omega) (by omega) (by omega)) (Wp_lt ?_)))
    rw [ix_nat (by omega)]
    have f2 : FrN h (wI h1 101 (d + 1) z) := f1.w (by omega)
    have s2 := (f2.tx x).1
    refine Wp_ck (by rw [k92 s2]) (Wp_bn (p92_20 s2) (Wp_ck (by rw [k102 s2]) (Wp_ck (by rw [k102 s2]; exact inb_iv (by omega) (by omega) (by omega)) (Wp_lt ?_))))
    have f3 : FrN h (wZ (wI h1 101 (d + 1) z) 102 (d + 1) (tb 0)) := f2.tr ⟨FrS.rf.tr ⟨rfl, rfl, rfl, fun b hb => ⟨rfl, rfl, u2_ne (fun e => hb (Or.inr (Or.inr (Or.inr e))))⟩⟩, fun a ha => u2_ne ha, fun _ _ _ _ _ _ _ _ => rfl, fun _ _ => rfl, fun _ _ => rfl⟩
    have l3 : LexM T L p (wZ (wI h1 101 (d + 1) z) 102 (d + 1) (tb 0)) := (show LexM T L p (wI h1 101 (d + 1) z) from l1.w (by omega))
    have c3 : CdM (cs ++ [if x4 = 0 then 28 else 30]) (wZ (wI h1 101 (d + 1) z) 102 (d + 1) (tb 0)) := ⟨by rw [hI_wZ, hI_wI, if_neg (by omega)]; exact c1.1, fun i hi => by rw [hI_wZ, hI_wI, if_neg (by omega)]; exact c1.2 i hi⟩
    refine (onM (d := d + 1) hN (f3.tx x) l3 hp ?_).1
    intro h4 f4 l4 e4 _
    refine k h4 (f3.tr f4.n) (f4.tx (f3.tx x)) l4 (c3.y f4) ?_ ?_ (fun i hi => ⟨?_, ?_⟩)
    · rw [e4, hI_wZ, hI_wI, if_pos ⟨rfl, rfl⟩, ez]
    · rw [f4.2.1, hZ_wZ, if_pos ⟨rfl, rfl⟩]; rfl
    · rw [e4, hI_wZ, hI_wI, if_neg (by omega), e1]
    · rw [f4.2.1, hZ_wZ, if_neg (by omega), hZ_wI, z1]
  have b99 : ∀ v : Int, v = (if x4 = 0 then 28 else 30) → Wp (Mo_reads_b99 N (Mo_reads_b11 N fuel) 92 (iv v) 92 (iv d) 1 x4 h) Q := by
    rintro v ev
    unfold Mo_reads_b99
    refine Wp_ck (by rw [k92 x.1]) (Wp_bd2 (putsM x.1 l cd hc) ?_)
    rintro - h1 ⟨f1, l1, c1, e1, z1⟩
    have s1 := (f1.tx x).1
    rw [ev] at c1
    refine Wp_ck (by rw [k92 s1]) ?_
    rw [p92_19 s1, ed]
    refine Wp_if (fun c => ?_) (fun c => ?_)
    · exact b120 h1 2 f1 l1 c1 e1 z1 (by rw [if_pos c])
    · exact b120 h1 1 f1 l1 c1 e1 z1 (by rw [if_neg c])
  unfold Mo_reads_b86
  refine Wp_if (fun c => ?_) (fun c => ?_)
  · exact b99 28 (by rw [if_pos c])
  · exact b99 30 (by rw [if_neg c])
