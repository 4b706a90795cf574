/-! THE PURE PROOFS, 57: a house, as it is read. H fields, C chances, K called, D told, P where the names stand, E how much guests get. -/
def Sta : Type := (Nat → Int) × (Nat → Int) × (Nat → Int) × (Nat → Int) × (Nat → Nat) × (Nat → Ex)
def sH (S : Sta) : Nat → Int := S.1
def sC (S : Sta) : Nat → Int := S.2.1
def sK (S : Sta) : Nat → Int := S.2.2.1
def sD (S : Sta) : Nat → Int := S.2.2.2.1
def sPl (S : Sta) : Nat → Nat := S.2.2.2.2.1
def sE (S : Sta) : Nat → Ex := S.2.2.2.2.2
def mkS (H C K D : Nat → Int) (P : Nat → Nat) (E : Nat → Ex) : Sta := (H, C, K, D, P, E)
def upN {α : Type} (f : Nat → α) (k : Nat) (v : α) : Nat → α := fun j => if j = k then v else f j
def catP (E : Nat → Ex) : Nat → List Int
  | 0 => []
  | n + 1 => catP E n ++ post (E n)
def catI (E : Nat → Ex) : Nat → List Int
  | 0 => []
  | n + 1 => catI E n ++ infx (E n)
theorem catP_up {E : Nat → Ex} {e : Ex} {n : Nat} : ∀ m, m ≤ n → catP (upN E n e) m = catP E m
  | 0, _ => rfl
  | m + 1, h => by
    rw [catP, catP, catP_up m (by omega)]
    unfold upN
    rw [if_neg (by omega)]
theorem catI_up {E : Nat → Ex} {e : Ex} {n : Nat} : ∀ m, m ≤ n → catI (upN E n e) m = catI E m
  | 0, _ => rfl
  | m + 1, h => by
    rw [catI, catI, catI_up m (by omega)]
    unfold upN
    rw [if_neg (by omega)]
theorem catP_mono {E : Nat → Ex} : ∀ n m, n ≤ m → ∃ l, catP E m = catP E n ++ l := by
  intro n m
  induction m with
  | zero => intro h; exact ⟨[], by rw [show n = 0 from by omega]; rfl⟩
  | succ m ih =>
    intro h
    by_cases c : n = m + 1
    · exact ⟨[], by rw [c, List.append_nil]⟩
    · obtain ⟨l, e⟩ := ih (by omega)
      exact ⟨l ++ post (E m), by rw [catP, e, List.append_assoc]⟩
theorem catI_mono {E : Nat → Ex} : ∀ n m, n ≤ m → ∃ l, catI E m = catI E n ++ l := by
  intro n m
  induction m with
  | zero => intro h; exact ⟨[], by rw [show n = 0 from by omega]; rfl⟩
  | succ m ih =>
    intro h
    by_cases c : n = m + 1
    · exact ⟨[], by rw [c, List.append_nil]⟩
    · obtain ⟨l, e⟩ := ih (by omega)
      exact ⟨l ++ infx (E m), by rw [catI, e, List.append_assoc]⟩
/-- is one from a on below m called -/
def anK (K : Nat → Int) (a : Int) : Nat → Bool
  | 0 => false
  | m + 1 => anK K a m || decide (a ≤ m ∧ K m = 1)
theorem anK_iff {K : Nat → Int} {a : Int} : ∀ m, anK K a m = true ↔ ∃ j : Nat, j < m ∧ a ≤ j ∧ K j = 1
  | 0 => ⟨fun h => (by cases h), fun ⟨j, h, _⟩ => by omega⟩
  | m + 1 => by
    rw [anK, Bool.or_eq_true, anK_iff m, decide_eq_true_iff]
    constructor
    · rintro (⟨j, h1, h2, h3⟩ | ⟨h1, h2⟩)
      · exact ⟨j, by omega, h2, h3⟩
      · exact ⟨m, by omega, h1, h2⟩
    · rintro ⟨j, h1, h2, h3⟩
      by_cases c : j = m
      · exact Or.inr ⟨c ▸ h2, c ▸ h3⟩
      · exact Or.inl ⟨j, by omega, h2, h3⟩
section
variable (T : Nat → Int) (L : Nat)
def nmK (P : Nat → Nat) (q : Nat) : Nat → Bool
  | 0 => false
  | n + 1 => nmK P q n || decide (tW 32 T L (P n) = tW 32 T L q)
def oneR (lo hi : Int) (r : Int ⊕ Nat) : Int ⊕ Nat := sgnR T L 59 (numP T L lo hi r)
def oneH (k : Nat) (lo hi : Int) (H : Nat → Int) (r : Int ⊕ Nat) : Nat → Int := up H k (numZ T L lo hi r)
def apR (r : Int ⊕ Nat) : Int ⊕ Nat := sgnR T L 59 (numP T L 0 99 (keyR T L 13 (numP T L 0 12 r)))
def apH (H : Nat → Int) (r : Int ⊕ Nat) : Nat → Int := up (up H 2 (numZ T L 0 12 r)) 3 (numZ T L 0 99 (keyR T L 13 (numP T L 0 12 r)))
def egR (q : Int) (r : Int ⊕ Nat) : Int ⊕ Nat := sgnR T L 59 (numP T L 0 (q - 1) (keyR T L 14 (numP T L 0 99 r)))
def egH (H : Nat → Int) (r : Int ⊕ Nat) : Nat → Int := up (up (up H 9 (numZ T L 0 99 r)) 10 (numZ T L 0 (H 0 - 1) (keyR T L 14 (numP T L 0 99 r)))) 16 1
def wo1 (r : Int ⊕ Nat) : Int := numZ T L 0 99 r
def wo2 (r : Int ⊕ Nat) : Int := numZ T L 0 (wo1 T L r) (numP T L 0 99 r)
def wo3 (r : Int ⊕ Nat) : Int := numZ T L 0 (wo2 T L r) (numP T L 0 (wo1 T L r) (numP T L 0 99 r))
def woR (r : Int ⊕ Nat) : Int ⊕ Nat := sgnR T L 59 (numP T L 0 (wo2 T L r) (numP T L 0 (wo1 T L r) (numP T L 0 99 r)))
def woH (H : Nat → Int) (r : Int ⊕ Nat) : Nat → Int := up (up (up H 4 (wo1 T L r)) 5 (wo2 T L r)) 6 (wo3 T L r)
/-- calls: the quarters -/
def caA (q : Int) (r : Int ⊕ Nat) : Int := numZ T L 0 (q - 1) r
def caX (K : Nat → Int) (q a : Int) (r : Int ⊕ Nat) : Int ⊕ Nat := match r with
  | .inl f => .inl f
  | .inr p => if tKd T L p = 1 ∧ a ≤ tNm T L p ∧ tNm T L p ≤ q - 1 ∧ anK K a (tNm T L p + 1).toNat = true then .inl (3 + 16 * (tB T L p : Nat)) else .inr p
def caP (K : Nat → Int) (q : Int) (r : Int ⊕ Nat) : Int ⊕ Nat := caX T L K q (caA T L q r) (keyR T L 15 (numP T L 0 (q - 1) r))
def caB (K : Nat → Int) (q : Int) (r : Int ⊕ Nat) : Int := numZ T L (caA T L q r) (q - 1) (caP T L K q r)
def caQ (K : Nat → Int) (q : Int) (r : Int ⊕ Nat) : Int ⊕ Nat := numP T L (caA T L q r) (q - 1) (caP T L K q r)
/-- the four chances -/
def cc0 (r : Int ⊕ Nat) : Int := numZ T L 0 10 r
def cc1 (r : Int ⊕ Nat) : Int := numZ T L 0 10 (numP T L 0 10 r)
def cc2 (r : Int ⊕ Nat) : Int := numZ T L 0 10 (numP T L 0 10 (numP T L 0 10 r))
def ccs (r : Int ⊕ Nat) : Int := cc0 T L r + cc1 T L r + cc2 T L r
def ccr (r : Int ⊕ Nat) : Int ⊕ Nat := numP T L 0 10 (numP T L 0 10 (numP T L 0 10 r))
def cc3 (r : Int ⊕ Nat) : Int := numZ T L (10 - ccs T L r) (10 - ccs T L r) (ccr T L r)
def ccR (r : Int ⊕ Nat) : Int ⊕ Nat := sgnR T L 59 (numP T L (10 - ccs T L r) (10 - ccs T L r) (ccr T L r))
def ccv (r : Int ⊕ Nat) (k : Nat) : Int := if k = 0 then cc0 T L r else if k = 1 then cc1 T L r else if k = 2 then cc2 T L r else cc3 T L r
end
/-- chances of so many set from quarter a to b -/
def setC (C : Nat → Int) (a b : Int) (k : Nat) (v : Int) : Nat → Int := fun j => if a ≤ ((j / 4 : Nat) : Int) ∧ ((j / 4 : Nat) : Int) ≤ b ∧ j % 4 = k then v else C j
def setK (K : Nat → Int) (a b : Int) : Nat → Int := fun j => if a ≤ (j : Int) ∧ (j : Int) ≤ b then 1 else K j
section
variable (T : Nat → Int) (L : Nat)
def caC (C K : Nat → Int) (q : Int) (r : Int ⊕ Nat) : Nat → Int := setC (setC (setC (setC C (caA T L q r) (caB T L K q r) 0 (cc0 T L (caQ T L K q r))) (caA T L q r) (caB T L K q r) 1 (cc1 T L (caQ T L K q r))) (caA T L q r) (caB T L K q r) 2 (cc2 T L (caQ T L K q r))) (caA T L q r) (caB T L K q r) 3 (cc3 T L (caQ T L K q r))
def haR (H : Nat → Int) (P : Nat → Nat) (p : Nat) : Int ⊕ (Nat × Ex) :=
  if H 15 = 4 then .inl (5 + 16 * (tB T L p : Nat))
  else if ¬ (tKd T L (tE T L p) = 2 ∧ (tWx T L (tE T L p) = -1 ∨ 23 ≤ tWx T L (tE T L p))) then .inl (1 + 16 * (tB T L (tE T L p) : Nat))
  else if nmK T L P (tE T L p) (H 15).toNat = true then .inl (3 + 16 * (tB T L (tE T L p) : Nat))
  else habR T L (tE T L (tE T L p))
def lnF (r : Int ⊕ (Nat × Ex)) : Int ⊕ Nat := match r with
  | .inl f => .inl f
  | .inr (p, _) => .inr p
def lnE (r : Int ⊕ (Nat × Ex)) : Ex := match r with
  | .inl _ => xnum 0
  | .inr (_, e) => e
/-- the words of one number: the field, the least, the most -/
def oK (w : Int) : Nat := if w = 1 then 1 else if w = 4 then 7 else if w = 5 then 8 else if w = 7 then 11 else if w = 8 then 12 else if w = 9 then 13 else 14
def oLo (w : Int) : Int := if w = 7 then 1 else 0
def oHi (w : Int) : Int := if w = 1 then 120 else if w = 7 then 3 else if w = 9 ∨ w = 10 then 10 else 99
/-- behind a line's first word -/
def plR (H : Nat → Int) (w : Int) (r : Int ⊕ Nat) : Int ⊕ Nat := if w = 2 then apR T L r else if w = 3 then woR T L r else if w = 6 then egR T L (H 0) r else oneR T L (oLo w) (oHi w) r
def plH (H : Nat → Int) (w : Int) (r : Int ⊕ Nat) : Nat → Int := if w = 2 then apH T L H r else if w = 3 then woH T L H r else if w = 6 then egH T L H r else oneH T L (oK w) (oLo w) (oHi w) H r
/-- a line -/
def hlR (S : Sta) (p : Nat) : Int ⊕ Nat :=
  if tWx T L p = 11 then (if sH S 17 = 8 then .inl (5 + 16 * (tB T L p : Nat)) else ccR T L (caQ T L (sK S) (sH S 0) (.inr (tE T L p))))
  else if tWx T L p = 12 then lnF (haR T L (sH S) (sPl S) p)
  else if tWx T L p < 1 ∨ 10 < tWx T L p then .inl (1 + 16 * (tB T L p : Nat))
  else if sD S (tWx T L p).toNat = 1 then .inl (3 + 16 * (tB T L p : Nat))
  else plR T L (sH S) (tWx T L p) (.inr (tE T L p))
def hlS (S : Sta) (p : Nat) : Sta :=
  if tWx T L p = 11 then mkS (up (sH S) 17 (sH S 17 + 1)) (caC T L (sC S) (sK S) (sH S 0) (.inr (tE T L p))) (setK (sK S) (caA T L (sH S 0) (.inr (tE T L p))) (caB T L (sK S) (sH S 0) (.inr (tE T L p)))) (sD S) (sPl S) (sE S)
  else if tWx T L p = 12 then mkS (up (sH S) 15 (sH S 15 + 1)) (sC S) (sK S) (sD S) (upN (sPl S) (sH S 15).toNat (tE T L p)) (upN (sE S) (sH S 15).toNat (lnE (haR T L (sH S) (sPl S) p)))
  else mkS (plH T L (sH S) (tWx T L p) (.inr (tE T L p))) (sC S) (sK S) (up (sD S) (tWx T L p).toNat 1) (sPl S) (sE S)
def hoL : Nat → Sta → Nat → Int ⊕ Sta
  | 0, S, _ => .inr S
  | m + 1, S, p => if tKd T L p = 3 then .inr S else match hlR T L S p with
    | .inl f => .inl f
    | .inr p2 => hoL m (hlS T L S p) p2
end
/-- house 1 -/
def H1 : Nat → Int := fun k => if k = 0 then 1 else if k = 4 then 3 else if k = 5 then 2 else if k = 6 then 1 else 0
def C1 : Nat → Int := fun k => if k % 4 = 0 then 10 else 0
def S1 (n : Int) : Sta := mkS (up H1 0 n) C1 (fun _ => 0) (fun _ => 0) (fun _ => 0) (fun _ => xnum 0)
def hoR0 (T : Nat → Int) (L : Nat) : Int ⊕ Nat := keyR T L 0 (.inr 0)
def hoR (T : Nat → Int) (L : Nat) : Int ⊕ Sta := match sgnR T L 59 (numP T L 1 24 (hoR0 T L)) with
  | .inl f => .inl f
  | .inr p => hoL T L 1001 (S1 (numZ T L 1 24 (hoR0 T L))) p
/-! ### places only grow -/
def gE (L n : Nat) (r : Int ⊕ Nat) : Prop := match r with
  | .inl _ => True
  | .inr p => n ≤ p ∧ p ≤ L
theorem gE.num {T : Nat → Int} {L n : Nat} {r : Int ⊕ Nat} (g : gE L n r) (lo hi : Int) : gE L n (numP T L lo hi r) := by
  cases r with
  | inl f => exact True.intro
  | inr p =>
    have b := tB_le (T := T) g.2
    have e := tE_le (T := T) g.2
    unfold numP
    dsimp only
    split
    · split
      · exact ⟨by have : tB T L p ≤ tE T L p := by (unfold tE; omega)
                  have := g.1
                  omega, e⟩
      · exact True.intro
    · exact True.intro
theorem gE.key {T : Nat → Int} {L n : Nat} {r : Int ⊕ Nat} (g : gE L n r) (w : Int) : gE L n (keyR T L w r) := by
  cases r with
  | inl f => exact True.intro
  | inr p =>
    have b := tB_le (T := T) g.2
    have e := tE_le (T := T) g.2
    unfold keyR
    dsimp only
    split
    · exact ⟨by have : tB T L p ≤ tE T L p := by (unfold tE; omega)
                have := g.1
                omega, e⟩
    · exact True.intro
theorem gE.sgn {T : Nat → Int} {L n : Nat} {r : Int ⊕ Nat} (g : gE L n r) (w : Int) : gE L n (sgnR T L w r) := by
  cases r with
  | inl f => exact True.intro
  | inr p =>
    have b := tB_le (T := T) g.2
    have e := tE_le (T := T) g.2
    unfold sgnR
    dsimp only
    split
    · exact ⟨by have : tB T L p ≤ tE T L p := by (unfold tE; omega)
                have := g.1
                omega, e⟩
    · exact True.intro
theorem gE.cax {T : Nat → Int} {L n : Nat} {r : Int ⊕ Nat} (g : gE L n r) (K : Nat → Int) (q a : Int) : gE L n (caX T L K q a r) := by
  cases r with
  | inl f => exact True.intro
  | inr p =>
    unfold caX
    dsimp only
    split
    · exact True.intro
    · exact g
theorem numZ_b {T : Nat → Int} {L : Nat} {r : Int ⊕ Nat} {lo hi : Int} : numZ T L lo hi r = 0 ∨ (lo ≤ numZ T L lo hi r ∧ numZ T L lo hi r ≤ hi) := by
  cases r with
  | inl f => exact Or.inl rfl
  | inr p =>
    unfold numZ
    dsimp only
    split
    · next c => exact Or.inr ⟨c.2.1, c.2.2⟩
    · exact Or.inl rfl
theorem numZ_in {T : Nat → Int} {L p : Nat} {r : Int ⊕ Nat} {lo hi : Int} (h : numP T L lo hi r = .inr p) : lo ≤ numZ T L lo hi r ∧ numZ T L lo hi r ≤ hi := by
  cases r with
  | inl f => cases h
  | inr p2 =>
    unfold numP at h
    dsimp only at h
    split at h
    · split at h
      · next c d =>
        unfold numZ
        dsimp only
        rw [if_pos ⟨c, d.1, d.2⟩]
        exact d
      · cases h
    · cases h
theorem sgnR_in {T : Nat → Int} {L p : Nat} {r : Int ⊕ Nat} {c : Int} (h : sgnR T L c r = .inr p) : ∃ p2, r = .inr p2 := by
  cases r with
  | inl f => cases h
  | inr p2 => exact ⟨p2, rfl⟩
theorem keyR_in {T : Nat → Int} {L p : Nat} {r : Int ⊕ Nat} {c : Int} (h : keyR T L c r = .inr p) : ∃ p2, r = .inr p2 := by
  cases r with
  | inl f => cases h
  | inr p2 => exact ⟨p2, rfl⟩
theorem numP_in {T : Nat → Int} {L p : Nat} {r : Int ⊕ Nat} {lo hi : Int} (h : numP T L lo hi r = .inr p) : ∃ p2, r = .inr p2 := by
  cases r with
  | inl f => cases h
  | inr p2 => exact ⟨p2, rfl⟩
theorem caX_in {T : Nat → Int} {L p : Nat} {K : Nat → Int} {q a : Int} {r : Int ⊕ Nat} (h : caX T L K q a r = .inr p) : r = .inr p ∧ ¬ (tKd T L p = 1 ∧ a ≤ tNm T L p ∧ tNm T L p ≤ q - 1 ∧ anK K a (tNm T L p + 1).toNat = true) := by
  cases r with
  | inl f => cases h
  | inr p2 =>
    unfold caX at h
    dsimp only at h
    split at h
    · cases h
    · next c =>
      cases h
      exact ⟨rfl, c⟩
