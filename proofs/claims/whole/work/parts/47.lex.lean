/-! THE PURE PROOFS, 25: tokens. A text: T its signs, L how many. -/
def Lt (c : Int) : Prop := 97 ≤ c ∧ c ≤ 122
def Dg (c : Int) : Prop := 48 ≤ c ∧ c ≤ 57
def Bl (c : Int) : Prop := c = 10 ∨ c = 32
def Sg (c : Int) : Prop := (40 ≤ c ∧ c ≤ 43) ∨ c = 45 ∨ (59 ≤ c ∧ c ≤ 61)
def isLt (c : Int) : Bool := decide (97 ≤ c ∧ c ≤ 122)
def isDg (c : Int) : Bool := decide (48 ≤ c ∧ c ≤ 57)
def isBl (c : Int) : Bool := decide (c = 10 ∨ c = 32)
def isSg (c : Int) : Bool := decide ((40 ≤ c ∧ c ≤ 43) ∨ c = 45 ∨ (59 ≤ c ∧ c ≤ 61))
/-- how many from p on are so -/
def rn (P : Int → Bool) (T : Nat → Int) (L : Nat) : Nat → Nat → Nat
  | 0, _ => 0
  | m + 1, p => if p < L ∧ P (T p) = true then rn P T L m (p + 1) + 1 else 0
def rnL (P : Int → Bool) (T : Nat → Int) (L p : Nat) : Nat := rn P T L (L - p) p
theorem rn_big (P : Int → Bool) (T : Nat → Int) (L : Nat) : ∀ m p, L ≤ p + m → rn P T L m p = rnL P T L p
  | 0, p, h => by
    unfold rnL
    rw [show L - p = 0 from by omega]
  | m + 1, p, h => by
    unfold rnL
    by_cases c : p < L
    · rw [show L - p = (L - (p + 1)) + 1 from by omega, rn, rn, rn_big P T L m (p + 1) (by omega)]
      rfl
    · rw [show L - p = 0 from by omega]
      show (if p < L ∧ P (T p) = true then rn P T L m (p + 1) + 1 else 0) = 0
      rw [if_neg (by omega)]
theorem rnL_stop {P : Int → Bool} {T : Nat → Int} {L p : Nat} (h : ¬ (p < L ∧ P (T p) = true)) : rnL P T L p = 0 := by
  rw [← rn_big P T L (L + 1) p (by omega), rn, if_neg h]
theorem rnL_go {P : Int → Bool} {T : Nat → Int} {L p : Nat} (h : p < L ∧ P (T p) = true) : rnL P T L p = rnL P T L (p + 1) + 1 := by
  rw [← rn_big P T L (L + 1) p (by omega), rn, if_pos h, rn_big P T L L (p + 1) (by omega)]
theorem rnL_le (P : Int → Bool) (T : Nat → Int) (L : Nat) : ∀ m p, L ≤ p + m → p ≤ L → p + rnL P T L p ≤ L
  | 0, p, h, h2 => by rw [rnL_stop (by omega)]; omega
  | m + 1, p, h, h2 => by
    by_cases c : p < L ∧ P (T p) = true
    · have := rnL_le P T L m (p + 1) (by omega) (by omega)
      rw [rnL_go c]
      omega
    · rw [rnL_stop c]
      omega
theorem rnL_all (P : Int → Bool) (T : Nat → Int) (L : Nat) : ∀ m p, L ≤ p + m → ∀ i, i < rnL P T L p → P (T (p + i)) = true
  | 0, p, h, i, hi => by rw [rnL_stop (by omega)] at hi; omega
  | m + 1, p, h, i, hi => by
    by_cases c : p < L ∧ P (T p) = true
    · rw [rnL_go c] at hi
      by_cases ci : i = 0
      · rw [ci]; exact c.2
      · have := rnL_all P T L m (p + 1) (by omega) (i - 1) (by omega)
        rwa [show p + 1 + (i - 1) = p + i from by omega] at this
    · rw [rnL_stop c] at hi; omega
/-- where the token that is read from p on begins -/
def tB (T : Nat → Int) (L p : Nat) : Nat := p + rnL isBl T L p
def tSz (T : Nat → Int) (L p : Nat) : Nat := if L ≤ tB T L p then 0 else if isLt (T (tB T L p)) = true then rnL isLt T L (tB T L p) else if isDg (T (tB T L p)) = true then rnL isDg T L (tB T L p) else 1
def tKd (T : Nat → Int) (L p : Nat) : Int := if L ≤ tB T L p then 3 else if isLt (T (tB T L p)) = true then (if tSz T L p ≤ 8 then 2 else 0) else if isDg (T (tB T L p)) = true then (if tSz T L p ≤ 4 then 1 else 0) else if isSg (T (tB T L p)) = true then T (tB T L p) else 0
/-- the position behind it -/
def tE (T : Nat → Int) (L p : Nat) : Nat := tB T L p + tSz T L p
theorem tB_le {T : Nat → Int} {L p : Nat} (h : p ≤ L) : p ≤ tB T L p ∧ tB T L p ≤ L := by
  have := rnL_le isBl T L L p (by omega) h
  unfold tB
  omega
theorem tE_le {T : Nat → Int} {L p : Nat} (h : p ≤ L) : tE T L p ≤ L := by
  have b := tB_le (T := T) h
  unfold tE tSz
  split
  · omega
  · split
    · exact rnL_le isLt T L L _ (by omega) b.2
    · split
      · exact rnL_le isDg T L L _ (by omega) b.2
      · omega
theorem tSz_pos {T : Nat → Int} {L p : Nat} (h : tB T L p < L) : 0 < tSz T L p := by
  unfold tSz
  rw [if_neg (by omega)]
  split
  · next c => rw [rnL_go ⟨h, c⟩]; omega
  · split
    · next c => rw [rnL_go ⟨h, c⟩]; omega
    · omega
/-- n letters (or digits) as one number -/
def en (b : Int) (f : Nat → Int) : Nat → Int
  | 0 => 0
  | n + 1 => en b f n * b + f n
def dgt (f : Nat → Int) (n : Nat) : Prop := ∀ i, i < n → 1 ≤ f i ∧ f i ≤ 26
theorem en_pos {b : Int} (hb : 27 ≤ b) {f : Nat → Int} : ∀ n, dgt f n → 0 ≤ en b f n ∧ (0 < n → 0 < en b f n)
  | 0, _ => ⟨Int.le_refl _, fun h => by omega⟩
  | n + 1, d => by
    have ih := en_pos hb n (fun i hi => d i (by omega))
    have dn := d n (by omega)
    have m : 0 ≤ en b f n * b := Int.mul_nonneg ih.1 (by omega)
    rw [en]
    omega
theorem en_inj {b : Int} (hb : 27 ≤ b) {f g : Nat → Int} : ∀ n m, dgt f n → dgt g m → en b f n = en b g m → n = m ∧ ∀ i, i < n → f i = g i
  | 0, 0, _, _, _ => ⟨rfl, fun i hi => by omega⟩
  | 0, m + 1, _, d, e => by
    have := (en_pos hb (m + 1) d).2 (by omega)
    rw [en] at e
    omega
  | n + 1, 0, d, _, e => by
    have := (en_pos hb (n + 1) d).2 (by omega)
    rw [en.eq_def b g 0] at e
    dsimp only at e
    omega
  | n + 1, m + 1, d, d2, e => by
    rw [en, en] at e
    have dn := d n (by omega)
    have dm := d2 m (by omega)
    obtain ⟨e1, e2⟩ := mix_inj (x := en b f n) (y := en b g m) (m := b) (r := f n) (s := g m) (by omega) (by omega) e
    obtain ⟨i1, i2⟩ := en_inj hb n m (fun i hi => d i (by omega)) (fun i hi => d2 i (by omega)) e1
    refine ⟨by omega, fun i hi => ?_⟩
    by_cases c : i = n
    · rw [c, e2, i1]
    · exact i2 i (by omega)
theorem en_ext {b : Int} {f g : Nat → Int} : ∀ n, (∀ i, i < n → f i = g i) → en b f n = en b g n
  | 0, _ => rfl
  | n + 1, h => by rw [en, en, en_ext n (fun i hi => h i (by omega)), h n (by omega)]
/-- two words are one in the one way if they are in the other -/
theorem en_iff {f g : Nat → Int} {n m : Nat} (d : dgt f n) (d2 : dgt g m) : en 32 f n = en 32 g m ↔ en 27 f n = en 27 g m := by
  constructor
  · intro e
    obtain ⟨rfl, h⟩ := en_inj (by omega) n m d d2 e
    exact en_ext n h
  · intro e
    obtain ⟨rfl, h⟩ := en_inj (by omega) n m d d2 e
    exact en_ext n h
theorem en_b {b : Int} (hb : 27 ≤ b ∧ b ≤ 32) {f : Nat → Int} : ∀ n, n ≤ 8 → dgt f n → 0 ≤ en b f n ∧ en b f n < 1099511627776 := by
  intro n hn d
  have key : ∀ n, n ≤ 8 → dgt f n → en b f n < (32 : Int) ^ n := by
    intro n
    induction n with
    | zero => intro _ _; show (0 : Int) < 1; omega
    | succ n ih =>
      intro h d
      have i := ih (by omega) (fun i hi => d i (by omega))
      have p := (en_pos (b := b) (by omega) n (fun i hi => d i (by omega))).1
      have dn := d n (by omega)
      have m : en b f n * b ≤ (32 ^ n - 1) * 32 := Int.mul_le_mul (by omega) hb.2 (by omega) (by omega)
      rw [en, Int.pow_succ]
      omega
  have k := key n hn d
  have p := (en_pos (b := b) (by omega) n d).1
  have w : (32 : Int) ^ n ≤ 1099511627776 := by
    have c : n = 0 ∨ n = 1 ∨ n = 2 ∨ n = 3 ∨ n = 4 ∨ n = 5 ∨ n = 6 ∨ n = 7 ∨ n = 8 := by omega
    rcases c with rfl | rfl | rfl | rfl | rfl | rfl | rfl | rfl | rfl <;> decide
  omega
/-- the letters of the token read from p on -/
def tLf (T : Nat → Int) (L p : Nat) : Nat → Int := fun i => T (tB T L p + i) - 96
def tW (b : Int) (T : Nat → Int) (L p : Nat) : Int := en b (tLf T L p) (tSz T L p)
def dv (f : Nat → Int) : Nat → Int
  | 0 => 0
  | n + 1 => dv f n * 10 + f n - 48
def tNm (T : Nat → Int) (L p : Nat) : Int := dv (fun i => T (tB T L p + i)) (tSz T L p)
theorem tLf_dgt {T : Nat → Int} {L p : Nat} (hl : tB T L p < L) (hc : isLt (T (tB T L p)) = true) : dgt (tLf T L p) (tSz T L p) := by
  intro i hi
  unfold tSz at hi
  rw [if_neg (by omega), if_pos hc] at hi
  have a := rnL_all isLt T L L (tB T L p) (by omega) i hi
  unfold isLt at a
  unfold tLf
  simp at a
  omega
/-- the language's words -/
def WL : List (List Int) := [[8, 15, 21, 19, 5], [2, 15, 23, 12], [1, 16, 16, 12, 5, 19], [23, 15, 18, 20, 8, 19], [12, 5, 6, 20], [23, 9, 20, 8, 15, 21, 20], [5, 7, 7, 19], [23, 15, 18, 4], [4, 1, 18, 11], [18, 1, 9, 14], [20, 23, 9, 3, 5], [3, 1, 12, 12, 19], [8, 1, 2, 9, 20], [23, 15, 18, 20, 8], [6, 18, 15, 13], [20, 15], [3, 15, 13, 5], [7, 9, 22, 5], [17, 21, 1, 18, 20, 5, 18], [15, 6, 6], [14, 15, 20], [1, 14, 4], [15, 18], [20, 15, 6, 6, 5, 5, 19], [18, 5, 19, 5, 18, 22, 5], [20, 9, 13, 5], [18, 5, 19, 20], [8, 5, 18, 5]]
def wf (i : Nat) : Nat → Int := fun j => (WL.getD i []).getD j 0
def wn (i : Nat) : Nat := (WL.getD i []).length
def K32 (i : Nat) : Int := en 32 (wf i) (wn i)
def K27 (i : Nat) : Int := en 27 (wf i) (wn i)
theorem wf_dgt : ∀ i, i < 28 → dgt (wf i) (wn i) := by
  have : ∀ i, i < 28 → ∀ j, j < wn i → 1 ≤ wf i j ∧ wf i j ≤ 26 := by decide +kernel
  exact this
theorem K32_ne : ∀ i j, i < 28 → j < 28 → K32 i = K32 j → i = j := by
  have : ∀ i, i < 28 → ∀ j, j < 28 → K32 i = K32 j → i = j := by decide +kernel
  exact fun i j hi hj => this i hi j hj
theorem K27_lits : K27 0 = 4562600 ∧ K27 1 = 50934 ∧ K27 2 = 23175793 ∧ K27 3 = 338365585 ∧ K27 4 = 240023 ∧ K27 5 = 9050609216 ∧ K27 6 = 103726 ∧ K27 7 = 464134 ∧ K27 8 = 79958 ∧ K27 9 = 355280 ∧ K27 10 = 11088176 ∧ K27 11 = 1623097 ∧ K27 12 = 4272932 ∧ K27 13 = 12532058 ∧ K27 14 = 131638 ∧ K27 15 = 555 ∧ K27 16 = 70340 ∧ K27 17 = 144941 ∧ K27 18 = 6888375828 ∧ K27 19 = 11103 ∧ K27 20 = 10631 ∧ K27 21 = 1111 ∧ K27 22 = 423 ∧ K27 23 = 7966953928 ∧ K27 24 = 7055522852 ∧ K27 25 = 400577 ∧ K27 26 = 358472 ∧ K27 27 = 161600 := by decide +kernel
/-- which word it is, from the first n of them; -1: another one -/
def wix (e : Int) : Nat → Int
  | 0 => -1
  | n + 1 => if K32 n = e then (n : Int) else wix e n
theorem wix_b (e : Int) : ∀ n, -1 ≤ wix e n ∧ wix e n < n
  | 0 => ⟨Int.le_refl _, by show (-1 : Int) < 0; omega⟩
  | n + 1 => by
    have := wix_b e n
    rw [wix]
    split <;> omega
theorem wix_iff {e : Int} : ∀ n, n ≤ 28 → ∀ i, i < n → (wix e n = i ↔ K32 i = e)
  | 0, _, i, hi => by omega
  | n + 1, hn, i, hi => by
    rw [wix]
    by_cases c : K32 n = e
    · rw [if_pos c]
      constructor
      · intro h
        rw [show i = n from by omega]
        exact c
      · intro h
        rw [K32_ne i n (by omega) (by omega) (h.trans c.symm)]
    · rw [if_neg c]
      by_cases ci : i = n
      · subst ci
        have := (wix_b e i).2
        exact ⟨fun h => by omega, fun h => absurd h c⟩
      · exact wix_iff n (by omega) i (by omega)
/-- the word that the token is: its number, or -1 -/
def tWx (T : Nat → Int) (L p : Nat) : Int := if tKd T L p = 2 then wix (tW 32 T L p) 28 else -1
theorem tKd_2 {T : Nat → Int} {L p : Nat} : tKd T L p = 2 ↔ tB T L p < L ∧ isLt (T (tB T L p)) = true ∧ tSz T L p ≤ 8 := by
  unfold tKd
  by_cases c : L ≤ tB T L p
  · rw [if_pos c]; constructor <;> intro h <;> omega
  · rw [if_neg c]
    by_cases c1 : isLt (T (tB T L p)) = true
    · rw [if_pos c1]
      by_cases c2 : tSz T L p ≤ 8
      · rw [if_pos c2]; exact ⟨fun _ => ⟨by omega, c1, c2⟩, fun _ => rfl⟩
      · rw [if_neg c2]; constructor <;> intro h <;> omega
    · rw [if_neg c1]
      constructor
      · intro h
        exfalso
        split at h
        · split at h <;> omega
        · split at h
          · next c3 =>
            unfold isSg at c3
            rw [decide_eq_true_iff] at c3
            omega
          · omega
      · intro h
        exact absurd h.2.1 c1
/-- it is word i, in the reference's way -/
theorem tWx_iff {T : Nat → Int} {L p i : Nat} (hi : i < 28) : tWx T L p = i ↔ (tKd T L p = 2 ∧ tW 27 T L p = K27 i) := by
  unfold tWx
  by_cases c : tKd T L p = 2
  · rw [if_pos c, wix_iff 28 (Nat.le_refl _) i hi]
    have k := tKd_2.mp c
    have d := tLf_dgt k.1 k.2.1
    have e := en_iff (wf_dgt i hi) d
    unfold K32 K27 tW
    constructor
    · intro h
      exact ⟨c, (e.mp h).symm⟩
    · rintro ⟨-, h⟩
      exact e.mpr h.symm
  · rw [if_neg c]
    constructor
    · intro h; omega
    · intro h; exact absurd h.1 c
