/-! THE PURE PROOFS, 74: the class's tables, made and grown (printed in part). -/
def Dyn (b : Nat) : Prop := b = 38 ∨ b = 41 ∨ b = 44 ∨ b = 47 ∨ b = 48 ∨ b = 50 ∨ b = 51 ∨ 127 ≤ b
def DyP (H C : Nat → Int) (d len : Nat → Nat) (ff : Nat → Int) (rd : Int) (h : PH) : Prop := VaP 36 37 0 0 H C (d 0) (len 0) (ff 0) h ∧ VaP 39 40 1 0 H C (d 1) (len 1) (ff 1) h ∧ VaP 42 43 0 1 H C (d 2) (len 2) (ff 2) h ∧ MeP (d 3) (d 4) (len 3) (len 4) rd h ∧ RdP (d 5) (d 6) (len 5) (len 6) h ∧ ShP h ∧ (∀ i, i < 7 → Dyn (d i) ∧ d i < hN h) ∧ ∀ i j, i < 7 → j < 7 → d i = d j → i = j
def sph (len : Nat → Nat) : Nat := phi (len 0) + phi (len 1) + phi (len 2) + phi (len 3) + phi (len 4) + phi (len 5) + phi (len 6)
def DyR (c : Nat) (len : Nat → Nat) (rd : Int) (h : PH) : Prop := hN h + hE h ≤ 1000 + 2 * c ∧ rd ≤ c ∧ hS h ≤ 200000 + 6 * c + sph len
def DyL (c : Nat) (H C : Nat → Int) (h : PH) : Prop := 127 ≤ hN h ∧ ∃ d len ff rd, DyP H C d len ff rd h ∧ DyR c len rd h
theorem DyL.mono {c c2 : Nat} {H C : Nat → Int} {h : PH} (x : DyL c H C h) (k : c ≤ c2) : DyL c2 H C h := by
  obtain ⟨n, d, len, ff, rd, p, a, b, e⟩ := x
  exact ⟨n, d, len, ff, rd, p, by omega, by omega, by omega⟩
theorem ShP.frH {h h2 : PH} {S : Nat → Prop} (x : ShP h) (f : FrH S h h2) (hn : 127 ≤ hN h) (n0 : ¬ S 52) : ShP h2 := by
  obtain ⟨nw, nx, a, b, c, d⟩ := x
  exact ⟨nw, nx, f.1 a, by rw [f.R (by omega) n0]; exact b, by rw [f.R (by omega) n0]; exact c, d⟩
theorem upN_s {α : Type} (f : Nat → α) (k : Nat) (v : α) : upN f k v k = v := if_pos rfl
theorem upN_n {α : Type} (f : Nat → α) (k j : Nat) (v : α) (h : j ≠ k) : upN f k v j = f j := if_neg h
theorem dyn_lt {d : Nat → Nat} {h : PH} (a : ∀ i, i < 7 → Dyn (d i) ∧ d i < hN h) {i : Nat} (hi : i < 7) : Dyn (d i) := (a i hi).1
/-- one pointer is changed, or stays -/
theorem dynUp {d : Nat → Nat} {h h2 : PH} {k x : Nat} (hn : 127 ≤ hN h) (a : ∀ i, i < 7 → Dyn (d i) ∧ d i < hN h) (b : ∀ i j, i < 7 → j < 7 → d i = d j → i = j) (hk : k < 7) (hx : x = d k ∨ hN h ≤ x) (x2 : x < hN h2) (nn : hN h ≤ hN h2) : (∀ i, i < 7 → Dyn (upN d k x i) ∧ upN d k x i < hN h2) ∧ ∀ i j, i < 7 → j < 7 → upN d k x i = upN d k x j → i = j := by
  refine ⟨fun i hi => ?_, fun i j hi hj e => ?_⟩
  · unfold upN
    by_cases c : i = k
    · rw [if_pos c]
      refine ⟨?_, x2⟩
      rcases hx with z | z
      · rw [z]; exact (a k hk).1
      · unfold Dyn; omega
    · rw [if_neg c]
      exact ⟨(a i hi).1, by have := (a i hi).2; omega⟩
  · unfold upN at e
    have ai := (a i hi).2
    have aj := (a j hj).2
    by_cases ci : i = k
    · by_cases cj : j = k
      · omega
      · rw [if_pos ci, if_neg cj] at e
        rcases hx with z | z
        · exact absurd (b k j hk hj (by omega)) (by omega)
        · omega
    · by_cases cj : j = k
      · rw [if_neg ci, if_pos cj] at e
        rcases hx with z | z
        · exact absurd (b i k hi hk (by omega)) (by omega)
        · omega
      · rw [if_neg ci, if_neg cj] at e
        exact b i j hi hj e
/-- two pointers are changed, or stay, or change places -/
theorem dynUp2 {d : Nat → Nat} {h h2 : PH} {k l x y : Nat} (hn : 127 ≤ hN h) (a : ∀ i, i < 7 → Dyn (d i) ∧ d i < hN h) (b : ∀ i j, i < 7 → j < 7 → d i = d j → i = j) (hk : k < 7) (hl : l < 7) (kl : k ≠ l) (hx : x = d k ∨ x = d l ∨ hN h ≤ x) (hy : y = d k ∨ y = d l ∨ hN h ≤ y) (xy : x ≠ y) (x2 : x < hN h2) (y2 : y < hN h2) (nn : hN h ≤ hN h2) : (∀ i, i < 7 → Dyn (upN (upN d k x) l y i) ∧ upN (upN d k x) l y i < hN h2) ∧ ∀ i j, i < 7 → j < 7 → upN (upN d k x) l y i = upN (upN d k x) l y j → i = j := by
  have out : ∀ z, (z = d k ∨ z = d l ∨ hN h ≤ z) → Dyn z := by
    intro z hz
    rcases hz with e | e | e
    · rw [e]; exact (a k hk).1
    · rw [e]; exact (a l hl).1
    · unfold Dyn; omega
  have ne : ∀ z j, (z = d k ∨ z = d l ∨ hN h ≤ z) → j < 7 → j ≠ k → j ≠ l → z ≠ d j := by
    intro z j hz hj jk jl e
    have aj := (a j hj).2
    rcases hz with q | q | q
    · exact jk (b j k hj hk (by omega))
    · exact jl (b j l hj hl (by omega))
    · omega
  have val : ∀ i, (i = l ∧ upN (upN d k x) l y i = y) ∨ (i ≠ l ∧ i = k ∧ upN (upN d k x) l y i = x) ∨ (i ≠ l ∧ i ≠ k ∧ upN (upN d k x) l y i = d i) := by
    intro i
    unfold upN
    by_cases c : i = l
    · rw [if_pos c]; exact Or.inl ⟨c, rfl⟩
    · rw [if_neg c]
      by_cases e : i = k
      · rw [if_pos e]; exact Or.inr (Or.inl ⟨c, e, rfl⟩)
      · rw [if_neg e]; exact Or.inr (Or.inr ⟨c, e, rfl⟩)
  refine ⟨fun i hi => ?_, fun i j hi hj e => ?_⟩
  · rcases val i with ⟨-, v⟩ | ⟨-, -, v⟩ | ⟨-, -, v⟩
    · rw [v]; exact ⟨out y hy, y2⟩
    · rw [v]; exact ⟨out x hx, x2⟩
    · rw [v]; exact ⟨(a i hi).1, by have := (a i hi).2; omega⟩
  · rcases val i with ⟨p, v⟩ | ⟨p, q, v⟩ | ⟨p, q, v⟩ <;> rcases val j with ⟨p2, w⟩ | ⟨p2, q2, w⟩ | ⟨p2, q2, w⟩
    · omega
    · exact absurd (v.symm.trans (e.trans w)) (Ne.symm xy)
    · exact absurd (v.symm.trans (e.trans w)) (ne y j hy hj q2 p2)
    · exact absurd (v.symm.trans (e.trans w)) xy
    · omega
    · exact absurd (v.symm.trans (e.trans w)) (ne x j hx hj q2 p2)
    · exact absurd (w.symm.trans (e.symm.trans v)) (ne y i hy hi q p)
    · exact absurd (w.symm.trans (e.symm.trans v)) (ne x i hx hi q p)
    · exact b i j hi hj (v.symm.trans (e.trans w))
/-- what a step of the class's tables leaves as it was -/
def CFr (h h2 : PH) : Prop := (Shp h → Shp h2) ∧ hN h ≤ hN h2 ∧ (∀ b, b < hN h → hK h2 b = hK h b) ∧ ∀ b, b < 6 ∨ (92 ≤ b ∧ b ≤ 126) → hI h2 b = hI h b ∧ hR h2 b = hR h b ∧ hZ h2 b = hZ h b ∧ hJ h2 b = hJ h b
theorem CFr.rf {h : PH} : CFr h h := ⟨id, Nat.le_refl _, fun _ _ => rfl, fun _ _ => ⟨rfl, rfl, rfl, rfl⟩⟩
theorem CFr.tr {h h1 h2 : PH} (a : CFr h h1) (b : CFr h1 h2) : CFr h h2 := ⟨fun s => b.1 (a.1 s), Nat.le_trans a.2.1 b.2.1, fun c hc => (b.2.2.1 c (Nat.lt_of_lt_of_le hc a.2.1)).trans (a.2.2.1 c hc), fun c hc => ⟨(b.2.2.2 c hc).1.trans (a.2.2.2 c hc).1, (b.2.2.2 c hc).2.1.trans (a.2.2.2 c hc).2.1, (b.2.2.2 c hc).2.2.1.trans (a.2.2.2 c hc).2.2.1, (b.2.2.2 c hc).2.2.2.trans (a.2.2.2 c hc).2.2.2⟩⟩
theorem FrH.cf {S : Nat → Prop} {h h2 : PH} (f : FrH S h h2) (hn : 127 ≤ hN h) (n : ∀ b, S b → b < hN h → (6 ≤ b ∧ b ≤ 91) ∨ 127 ≤ b) : CFr h h2 := ⟨f.1, f.2.1, f.2.2.2.1, fun b hb => f.2.2.2.2 b (by omega) (fun s => by have := n b s (by omega); omega)⟩
theorem FrS.cf {S : Nat → Prop} {h h2 : PH} (f : FrS S h h2) (hn : 127 ≤ hN h) (n : ∀ b, S b → (6 ≤ b ∧ b ≤ 91) ∨ 127 ≤ b) : CFr h h2 := f.h.cf hn (fun b s _ => n b s)
theorem RestM.cf {g : Gs} {h h2 : PH} (x : RestM g h) (f : CFr h h2) : RestM g h2 := x.cg (f.1 x.1.1) (fun b hb => ⟨(f.2.2.2 b (by unfold LowM at hb; omega)).1, (f.2.2.2 b (by unfold LowM at hb; omega)).2.2.1⟩) (by rw [(f.2.2.2 92 (by omega)).1]) (by rw [(f.2.2.2 92 (by omega)).1])
/-- the class, whole -/
def LeI (c : Nat) (g : Gs) (h : PH) : Prop := RestL g h ∧ DyL c (gsH g) (gsC g) h
theorem LeI.mono {c c2 : Nat} {g : Gs} {h : PH} (x : LeI c g h) (k : c ≤ c2) : LeI c2 g h := ⟨x.1, x.2.mono k⟩
/-- frames of the reference touch nothing of the class -/
theorem DyL.frS {c : Nat} {H C : Nat → Int} {S : Nat → Prop} {h h2 : PH} (x : DyL c H C h) (f : FrS S h h2) (n : ∀ b, S b → b < 36 ∨ (56 ≤ b ∧ b ≤ 126)) : DyL c H C h2 := by
  obtain ⟨hn, d, len, ff, rd, ⟨v0, v1, v2, m, r, s, a, b⟩, r1, r2, r3⟩ := x
  have eN : hN h2 = hN h := by unfold hN; rw [f.1]
  have eS : hS h2 = hS h := by unfold hS; rw [f.1]
  have eE : hE h2 = hE h := by unfold hE; rw [f.1]
  have nd : ∀ i, i < 7 → ¬ S (d i) := fun i hi z => by
    have y := n _ z
    have w := (a i hi).1
    unfold Dyn at w
    omega
  have ns : ∀ b, 36 ≤ b → b ≤ 55 → ¬ S b := fun b p q z => by have := n _ z; omega
  exact ⟨by omega, d, len, ff, rd, ⟨v0.frH f.h (ns _ (by omega) (by omega)) (ns _ (by omega) (by omega)) (nd 0 (by omega)), v1.frH f.h (ns _ (by omega) (by omega)) (ns _ (by omega) (by omega)) (nd 1 (by omega)), v2.frH f.h (ns _ (by omega) (by omega)) (ns _ (by omega) (by omega)) (nd 2 (by omega)), m.frH f.h (ns _ (by omega) (by omega)) (nd 3 (by omega)) (nd 4 (by omega)), r.frH f.h (ns _ (by omega) (by omega)), s.frH f.h hn (ns _ (by omega) (by omega)), fun i hi => ⟨(a i hi).1, by rw [eN]; exact (a i hi).2⟩, b⟩, by rw [eN, eE]; exact r1, r2, by rw [eS]; exact r3⟩
theorem LeI.frS {c : Nat} {g : Gs} {S : Nat → Prop} {h h2 : PH} (x : LeI c g h) (f : FrS S h h2) (n : ∀ b, S b → 92 ≤ b ∧ b ≤ 126) : LeI c g h2 := ⟨x.1.frS f (fun b hb z => by have := n b z; unfold LowL at hb; omega), x.2.frS f (fun b z => by have := n b z; omega)⟩
theorem LeI.va0 {c : Nat} {g : Gs} {h : PH} {d len : Nat → Nat} {ff : Nat → Int} {rd : Int} (x : RestL g h) (hn : 127 ≤ hN h) (p : DyP (gsH g) (gsC g) d len ff rd h) (q : DyR c len rd h) {h2 : PH} (st : VaStep 36 37 0 0 (gsH g) (gsC g) (d 0) (len 0) h h2) : LeI (c + 1) g h2 ∧ CFr h h2 := by
  obtain ⟨tb2, len2, ff2, f, -, v, et, en, es⟩ := st
  obtain ⟨v0, v1, v2, m, r, s, a, b⟩ := p
  obtain ⟨r1, r2, r3⟩ := q
  have F := f.h
  have dd : ∀ i, i < 7 → Dyn (d i) := fun i hi => (a i hi).1
  have nS : ∀ b, S3 36 37 (d 0) b → (36 ≤ b ∧ b ≤ 55) ∨ 127 ≤ b := by
    intro b z
    have w := dd 0 (by omega)
    unfold S3 at z
    unfold Dyn at w
    omega
  have nd : ∀ i, i < 7 → i ≠ 0 → ¬ S3 36 37 (d 0) (d i) := by
    intro i hi ne z
    have w := dd i hi
    unfold S3 at z
    unfold Dyn at w
    rcases z with z | z | z
    · omega
    · omega
    · exact ne (b i 0 hi (by omega) z)
  have nf : ∀ y, y < 56 → y ≠ 36 → y ≠ 37 → ¬ (y = 38 ∨ y = 41 ∨ y = 44 ∨ y = 47 ∨ y = 48 ∨ y = 50 ∨ y = 51) → ¬ S3 36 37 (d 0) y := by
    intro y y1 y2 y3 y4 z
    have w := dd 0 (by omega)
    unfold S3 at z
    unfold Dyn at w
    omega
  have tl : tb2 < hN h2 := v.2.2.2.2.2.1
  have nn : hN h ≤ hN h2 := F.2.1
  obtain ⟨a2, b2⟩ := dynUp (k := 0) (h2 := h2) hn a b (by omega) et tl nn
  have eE : hE h2 = hE h := F.2.2.1
  refine ⟨⟨x.frH F hn (fun b hb z => by have := nS b z; unfold LowL at hb; omega), by omega, upN d 0 tb2, upN len 0 len2, upN ff 0 ff2, rd, ⟨?_, ?_, ?_, ?_, ?_, ?_, a2, b2⟩, by omega, by omega, ?_⟩, F.cf hn (fun b z _ => by have := nS b z; omega)⟩
  · rw [upN_s, upN_s, upN_s]; exact v
  · rw [upN_n _ _ _ _ (by omega), upN_n _ _ _ _ (by omega), upN_n _ _ _ _ (by omega)]; exact v1.frH F (nf _ (by omega) (by omega) (by omega) (by omega)) (nf _ (by omega) (by omega) (by omega) (by omega)) (nd 1 (by omega) (by omega))
  · rw [upN_n _ _ _ _ (by omega), upN_n _ _ _ _ (by omega), upN_n _ _ _ _ (by omega)]; exact v2.frH F (nf _ (by omega) (by omega) (by omega) (by omega)) (nf _ (by omega) (by omega) (by omega) (by omega)) (nd 2 (by omega) (by omega))
  · rw [upN_n _ _ _ _ (by omega), upN_n _ _ _ _ (by omega), upN_n _ _ _ _ (by omega), upN_n _ _ _ _ (by omega)]; exact m.frH F (nf _ (by omega) (by omega) (by omega) (by omega)) (nd 3 (by omega) (by omega)) (nd 4 (by omega) (by omega))
  · rw [upN_n _ _ _ _ (by omega), upN_n _ _ _ _ (by omega), upN_n _ _ _ _ (by omega), upN_n _ _ _ _ (by omega)]; exact r.frH F (nf _ (by omega) (by omega) (by omega) (by omega))
  · exact s.frH F hn (nf _ (by omega) (by omega) (by omega) (by omega))
  · have e : sph (upN len 0 len2) + phi (len 0) = sph len + phi len2 := by
      unfold sph
      simp only [upN, Nat.reduceEqDiff, if_true, if_false, ite_true, ite_false, reduceIte]
      omega
    omega
theorem LeI.va1 {c : Nat} {g : Gs} {h : PH} {d len : Nat → Nat} {ff : Nat → Int} {rd : Int} (x : RestL g h) (hn : 127 ≤ hN h) (p : DyP (gsH g) (gsC g) d len ff rd h) (q : DyR c len rd h) {h2 : PH} (st : VaStep 39 40 1 0 (gsH g) (gsC g) (d 1) (len 1) h h2) : LeI (c + 1) g h2 ∧ CFr h h2 := by
  obtain ⟨tb2, len2, ff2, f, -, v, et, en, es⟩ := st
  obtain ⟨v0, v1, v2, m, r, s, a, b⟩ := p
  obtain ⟨r1, r2, r3⟩ := q
  have F := f.h
  have dd : ∀ i, i < 7 → Dyn (d i) := fun i hi => (a i hi).1
  have nS : ∀ b, S3 39 40 (d 1) b → (36 ≤ b ∧ b ≤ 55) ∨ 127 ≤ b := by
    intro b z
    have w := dd 1 (by omega)
    unfold S3 at z
    unfold Dyn at w
    omega
  have nd : ∀ i, i < 7 → i ≠ 1 → ¬ S3 39 40 (d 1) (d i) := by
    intro i hi ne z
    have w := dd i hi
    unfold S3 at z
    unfold Dyn at w
    rcases z with z | z | z
    · omega
    · omega
    · exact ne (b i 1 hi (by omega) z)
  have nf : ∀ y, y < 56 → y ≠ 39 → y ≠ 40 → ¬ (y = 38 ∨ y = 41 ∨ y = 44 ∨ y = 47 ∨ y = 48 ∨ y = 50 ∨ y = 51) → ¬ S3 39 40 (d 1) y := by
    intro y y1 y2 y3 y4 z
    have w := dd 1 (by omega)
    unfold S3 at z
    unfold Dyn at w
    omega
  have tl : tb2 < hN h2 := v.2.2.2.2.2.1
  have nn : hN h ≤ hN h2 := F.2.1
  obtain ⟨a2, b2⟩ := dynUp (k := 1) (h2 := h2) hn a b (by omega) et tl nn
  have eE : hE h2 = hE h := F.2.2.1
  refine ⟨⟨x.frH F hn (fun b hb z => by have := nS b z; unfold LowL at hb; omega), by omega, upN d 1 tb2, upN len 1 len2, upN ff 1 ff2, rd, ⟨?_, ?_, ?_, ?_, ?_, ?_, a2, b2⟩, by omega, by omega, ?_⟩, F.cf hn (fun b z _ => by have := nS b z; omega)⟩
  · rw [upN_n _ _ _ _ (by omega), upN_n _ _ _ _ (by omega), upN_n _ _ _ _ (by omega)]; exact v0.frH F (nf _ (by omega) (by omega) (by omega) (by omega)) (nf _ (by omega) (by omega) (by omega) (by omega)) (nd 0 (by omega) (by omega))
  · rw [upN_s, upN_s, upN_s]; exact v
  · rw [upN_n _ _ _ _ (by omega), upN_n _ _ _ _ (by omega), upN_n _ _ _ _ (by omega)]; exact v2.frH F (nf _ (by omega) (by omega) (by omega) (by omega)) (nf _ (by omega) (by omega) (by omega) (by omega)) (nd 2 (by omega) (by omega))
  · rw [upN_n _ _ _ _ (by omega), upN_n _ _ _ _ (by omega), upN_n _ _ _ _ (by omega), upN_n _ _ _ _ (by omega)]; exact m.frH F (nf _ (by omega) (by omega) (by omega) (by omega)) (nd 3 (by omega) (by omega)) (nd 4 (by omega) (by omega))
  · rw [upN_n _ _ _ _ (by omega), upN_n _ _ _ _ (by omega), upN_n _ _ _ _ (by omega), upN_n _ _ _ _ (by omega)]; exact r.frH F (nf _ (by omega) (by omega) (by omega) (by omega))
  · exact s.frH F hn (nf _ (by omega) (by omega) (by omega) (by omega))
  · have e : sph (upN len 1 len2) + phi (len 1) = sph len + phi len2 := by
      unfold sph
      simp only [upN, Nat.reduceEqDiff, if_true, if_false, ite_true, ite_false, reduceIte]
      omega
    omega
theorem LeI.va2 {c : Nat} {g : Gs} {h : PH} {d len : Nat → Nat} {ff : Nat → Int} {rd : Int} (x : RestL g h) (hn : 127 ≤ hN h) (p : DyP (gsH g) (gsC g) d len ff rd h) (q : DyR c len rd h) {h2 : PH} (st : VaStep 42 43 0 1 (gsH g) (gsC g) (d 2) (len 2) h h2) : LeI (c + 1) g h2 ∧ CFr h h2 := by
  obtain ⟨tb2, len2, ff2, f, -, v, et, en, es⟩ := st
  obtain ⟨v0, v1, v2, m, r, s, a, b⟩ := p
  obtain ⟨r1, r2, r3⟩ := q
  have F := f.h
  have dd : ∀ i, i < 7 → Dyn (d i) := fun i hi => (a i hi).1
  have nS : ∀ b, S3 42 43 (d 2) b → (36 ≤ b ∧ b ≤ 55) ∨ 127 ≤ b := by
    intro b z
    have w := dd 2 (by omega)
    unfold S3 at z
    unfold Dyn at w
    omega
  have nd : ∀ i, i < 7 → i ≠ 2 → ¬ S3 42 43 (d 2) (d i) := by
    intro i hi ne z
    have w := dd i hi
    unfold S3 at z
    unfold Dyn at w
    rcases z with z | z | z
    · omega
    · omega
    · exact ne (b i 2 hi (by omega) z)
  have nf : ∀ y, y < 56 → y ≠ 42 → y ≠ 43 → ¬ (y = 38 ∨ y = 41 ∨ y = 44 ∨ y = 47 ∨ y = 48 ∨ y = 50 ∨ y = 51) → ¬ S3 42 43 (d 2) y := by
    intro y y1 y2 y3 y4 z
    have w := dd 2 (by omega)
    unfold S3 at z
    unfold Dyn at w
    omega
  have tl : tb2 < hN h2 := v.2.2.2.2.2.1
  have nn : hN h ≤ hN h2 := F.2.1
  obtain ⟨a2, b2⟩ := dynUp (k := 2) (h2 := h2) hn a b (by omega) et tl nn
  have eE : hE h2 = hE h := F.2.2.1
  refine ⟨⟨x.frH F hn (fun b hb z => by have := nS b z; unfold LowL at hb; omega), by omega, upN d 2 tb2, upN len 2 len2, upN ff 2 ff2, rd, ⟨?_, ?_, ?_, ?_, ?_, ?_, a2, b2⟩, by omega, by omega, ?_⟩, F.cf hn (fun b z _ => by have := nS b z; omega)⟩
  · rw [upN_n _ _ _ _ (by omega), upN_n _ _ _ _ (by omega), upN_n _ _ _ _ (by omega)]; exact v0.frH F (nf _ (by omega) (by omega) (by omega) (by omega)) (nf _ (by omega) (by omega) (by omega) (by omega)) (nd 0 (by omega) (by omega))
  · rw [upN_n _ _ _ _ (by omega), upN_n _ _ _ _ (by omega), upN_n _ _ _ _ (by omega)]; exact v1.frH F (nf _ (by omega) (by omega) (by omega) (by omega)) (nf _ (by omega) (by omega) (by omega) (by omega)) (nd 1 (by omega) (by omega))
  · rw [upN_s, upN_s, upN_s]; exact v
  · rw [upN_n _ _ _ _ (by omega), upN_n _ _ _ _ (by omega), upN_n _ _ _ _ (by omega), upN_n _ _ _ _ (by omega)]; exact m.frH F (nf _ (by omega) (by omega) (by omega) (by omega)) (nd 3 (by omega) (by omega)) (nd 4 (by omega) (by omega))
  · rw [upN_n _ _ _ _ (by omega), upN_n _ _ _ _ (by omega), upN_n _ _ _ _ (by omega), upN_n _ _ _ _ (by omega)]; exact r.frH F (nf _ (by omega) (by omega) (by omega) (by omega))
  · exact s.frH F hn (nf _ (by omega) (by omega) (by omega) (by omega))
  · have e : sph (upN len 2 len2) + phi (len 2) = sph len + phi len2 := by
      unfold sph
      simp only [upN, Nat.reduceEqDiff, if_true, if_false, ite_true, ite_false, reduceIte]
      omega
    omega
theorem LeI.me {c : Nat} {g : Gs} {h : PH} {d len : Nat → Nat} {ff : Nat → Int} {rd : Int} (x : RestL g h) (hn : 127 ≤ hN h) (p : DyP (gsH g) (gsC g) d len ff rd h) (q : DyR c len rd h) {h2 : PH} (st : MeStep (d 3) (d 4) (len 3) (len 4) rd h h2) : LeI (c + 1) g h2 ∧ CFr h h2 := by
  obtain ⟨x2, y2, lx, ly, F, v, ex, ey, en, es⟩ := st
  obtain ⟨v0, v1, v2, m, r, s, a, b⟩ := p
  obtain ⟨r1, r2, r3⟩ := q
  have dd : ∀ i, i < 7 → Dyn (d i) := fun i hi => (a i hi).1
  have nS : ∀ b, S4 (d 3) (d 4) b → (36 ≤ b ∧ b ≤ 55) ∨ 127 ≤ b := by
    intro b z
    have w := dd 3 (by omega)
    have w2 := dd 4 (by omega)
    unfold S4 at z
    unfold Dyn at w w2
    omega
  have nd : ∀ i, i < 7 → i ≠ 3 → i ≠ 4 → ¬ S4 (d 3) (d 4) (d i) := by
    intro i hi ne ne2 z
    have w := dd i hi
    unfold S4 at z
    unfold Dyn at w
    rcases z with z | z | z | z
    · omega
    · omega
    · exact ne (b i 3 hi (by omega) z)
    · exact ne2 (b i 4 hi (by omega) z)
  have nf : ∀ y, y < 56 → y ≠ 45 → y ≠ 46 → ¬ (y = 38 ∨ y = 41 ∨ y = 44 ∨ y = 47 ∨ y = 48 ∨ y = 50 ∨ y = 51) → ¬ S4 (d 3) (d 4) y := by
    intro y y1 y2 y3 y4 z
    have w := dd 3 (by omega)
    have w2 := dd 4 (by omega)
    unfold S4 at z
    unfold Dyn at w w2
    omega
  have nn : hN h ≤ hN h2 := F.2.1
  have eE : hE h2 = hE h := F.2.2.1
  obtain ⟨a2, b2⟩ := dynUp2 (k := 3) (l := 4) (x := x2) (y := y2) (h2 := h2) hn a b (by omega) (by omega) (by omega) (by omega) (by omega) v.2.2.2.2.2.2.2.2.2.2.2.1 v.2.2.2.2.2.2.2.2.2.2.2.2.2.2.2.2.1 v.2.2.2.2.2.2.2.2.2.2.2.2.2.2.2.2.2.1 nn
  refine ⟨⟨x.frH F hn (fun b hb z => by have := nS b z; unfold LowL at hb; omega), by omega, upN (upN d 3 x2) 4 y2, upN (upN len 3 lx) 4 ly, ff, rd + 1, ⟨?_, ?_, ?_, ?_, ?_, ?_, a2, b2⟩, by omega, by omega, ?_⟩, F.cf hn (fun b z _ => by have := nS b z; omega)⟩
  · rw [upN_n _ _ _ _ (by omega), upN_n _ _ _ _ (by omega), upN_n _ _ _ _ (by omega), upN_n _ _ _ _ (by omega)]; exact v0.frH F (nf _ (by omega) (by omega) (by omega) (by omega)) (nf _ (by omega) (by omega) (by omega) (by omega)) (nd 0 (by omega) (by omega) (by omega))
  · rw [upN_n _ _ _ _ (by omega), upN_n _ _ _ _ (by omega), upN_n _ _ _ _ (by omega), upN_n _ _ _ _ (by omega)]; exact v1.frH F (nf _ (by omega) (by omega) (by omega) (by omega)) (nf _ (by omega) (by omega) (by omega) (by omega)) (nd 1 (by omega) (by omega) (by omega))
  · rw [upN_n _ _ _ _ (by omega), upN_n _ _ _ _ (by omega), upN_n _ _ _ _ (by omega), upN_n _ _ _ _ (by omega)]; exact v2.frH F (nf _ (by omega) (by omega) (by omega) (by omega)) (nf _ (by omega) (by omega) (by omega) (by omega)) (nd 2 (by omega) (by omega) (by omega))
  · simp only [upN, Nat.reduceEqDiff, if_true, if_false, ite_true, ite_false, reduceIte]; exact v
  · rw [upN_n _ _ _ _ (by omega), upN_n _ _ _ _ (by omega), upN_n _ _ _ _ (by omega), upN_n _ _ _ _ (by omega), upN_n _ _ _ _ (by omega), upN_n _ _ _ _ (by omega), upN_n _ _ _ _ (by omega), upN_n _ _ _ _ (by omega)]; exact r.frH F (nf _ (by omega) (by omega) (by omega) (by omega))
  · exact s.frH F hn (nf _ (by omega) (by omega) (by omega) (by omega))
  · have e : sph (upN (upN len 3 lx) 4 ly) + phi (len 3) + phi (len 4) = sph len + phi lx + phi ly := by
      unfold sph
      simp only [upN, Nat.reduceEqDiff, if_true, if_false, ite_true, ite_false, reduceIte]
      omega
    omega
theorem LeI.rd {c : Nat} {g : Gs} {h : PH} {d len : Nat → Nat} {ff : Nat → Int} {rd : Int} (x : RestL g h) (hn : 127 ≤ hN h) (p : DyP (gsH g) (gsC g) d len ff rd h) (q : DyR c len rd h) {h2 : PH} (st : RdStep (d 5) (d 6) (len 5) (len 6) h h2) : LeI (c + 1) g h2 ∧ CFr h h2 := by
  obtain ⟨x2, y2, lx, ly, F, v, ex, ey, en, es⟩ := st
  obtain ⟨v0, v1, v2, m, r, s, a, b⟩ := p
  obtain ⟨r1, r2, r3⟩ := q
  have dd : ∀ i, i < 7 → Dyn (d i) := fun i hi => (a i hi).1
  have nS : ∀ b, S49 (d 5) (d 6) b → (36 ≤ b ∧ b ≤ 55) ∨ 127 ≤ b := by
    intro b z
    have w := dd 5 (by omega)
    have w2 := dd 6 (by omega)
    unfold S49 at z
    unfold Dyn at w w2
    omega
  have nd : ∀ i, i < 7 → i ≠ 5 → i ≠ 6 → ¬ S49 (d 5) (d 6) (d i) := by
    intro i hi ne ne2 z
    have w := dd i hi
    unfold S49 at z
    unfold Dyn at w
    rcases z with z | z | z | z
    · omega
    · omega
    · exact ne (b i 5 hi (by omega) z)
    · exact ne2 (b i 6 hi (by omega) z)
  have nf : ∀ y, y < 56 → y ≠ 46 → y ≠ 49 → ¬ (y = 38 ∨ y = 41 ∨ y = 44 ∨ y = 47 ∨ y = 48 ∨ y = 50 ∨ y = 51) → ¬ S49 (d 5) (d 6) y := by
    intro y y1 y2 y3 y4 z
    have w := dd 5 (by omega)
    have w2 := dd 6 (by omega)
    unfold S49 at z
    unfold Dyn at w w2
    omega
  have nn : hN h ≤ hN h2 := F.2.1
  have eE : hE h2 = hE h := F.2.2.1
  obtain ⟨a2, b2⟩ := dynUp2 (k := 5) (l := 6) (x := x2) (y := y2) (h2 := h2) hn a b (by omega) (by omega) (by omega) ex ey v.2.2.2.2.2.2.2.2.1 v.2.2.2.2.2.2.2.2.2.2.2.2.2.2.2.1 v.2.2.2.2.2.2.2.2.2.2.2.2.2.2.2.2.1 nn
  refine ⟨⟨x.frH F hn (fun b hb z => by have := nS b z; unfold LowL at hb; omega), by omega, upN (upN d 5 x2) 6 y2, upN (upN len 5 lx) 6 ly, ff, rd, ⟨?_, ?_, ?_, ?_, ?_, ?_, a2, b2⟩, by omega, by omega, ?_⟩, F.cf hn (fun b z _ => by have := nS b z; omega)⟩
  · rw [upN_n _ _ _ _ (by omega), upN_n _ _ _ _ (by omega), upN_n _ _ _ _ (by omega), upN_n _ _ _ _ (by omega)]; exact v0.frH F (nf _ (by omega) (by omega) (by omega) (by omega)) (nf _ (by omega) (by omega) (by omega) (by omega)) (nd 0 (by omega) (by omega) (by omega))
  · rw [upN_n _ _ _ _ (by omega), upN_n _ _ _ _ (by omega), upN_n _ _ _ _ (by omega), upN_n _ _ _ _ (by omega)]; exact v1.frH F (nf _ (by omega) (by omega) (by omega) (by omega)) (nf _ (by omega) (by omega) (by omega) (by omega)) (nd 1 (by omega) (by omega) (by omega))
  · rw [upN_n _ _ _ _ (by omega), upN_n _ _ _ _ (by omega), upN_n _ _ _ _ (by omega), upN_n _ _ _ _ (by omega)]; exact v2.frH F (nf _ (by omega) (by omega) (by omega) (by omega)) (nf _ (by omega) (by omega) (by omega) (by omega)) (nd 2 (by omega) (by omega) (by omega))
  · rw [upN_n _ _ _ _ (by omega), upN_n _ _ _ _ (by omega), upN_n _ _ _ _ (by omega), upN_n _ _ _ _ (by omega), upN_n _ _ _ _ (by omega), upN_n _ _ _ _ (by omega), upN_n _ _ _ _ (by omega), upN_n _ _ _ _ (by omega)]; exact m.frH F (nf _ (by omega) (by omega) (by omega) (by omega)) (nd 3 (by omega) (by omega) (by omega)) (nd 4 (by omega) (by omega) (by omega))
  · simp only [upN, Nat.reduceEqDiff, if_true, if_false, ite_true, ite_false, reduceIte]; exact v
  · exact s.frH F hn (nf _ (by omega) (by omega) (by omega) (by omega))
  · have e : sph (upN (upN len 5 lx) 6 ly) + phi (len 5) + phi (len 6) = sph len + phi lx + phi ly := by
      unfold sph
      simp only [upN, Nat.reduceEqDiff, if_true, if_false, ite_true, ite_false, reduceIte]
      omega
    omega
theorem LeI.sh {c : Nat} {g : Gs} {h : PH} (x : LeI c g h) {h2 : PH} (F : FrH SSh h h2) (en : hN h2 = hN h) (es : hS h2 = hS h) (sp : ShP h2) : LeI c g h2 ∧ CFr h h2 := by
  obtain ⟨x, hn, d, len, ff, rd, ⟨v0, v1, v2, m, r, s, a, b⟩, r1, r2, r3⟩ := x
  have dd : ∀ i, i < 7 → Dyn (d i) := fun i hi => (a i hi).1
  have nd : ∀ i, i < 7 → ¬ SSh (d i) := by
    intro i hi z
    have w := dd i hi
    unfold SSh at z
    unfold Dyn at w
    omega
  have eE : hE h2 = hE h := F.2.2.1
  exact ⟨⟨x.frH F hn (fun b hb z => by unfold LowL at hb; unfold SSh at z; omega), by omega, d, len, ff, rd, ⟨v0.frH F (by unfold SSh; omega) (by unfold SSh; omega) (nd 0 (by omega)), v1.frH F (by unfold SSh; omega) (by unfold SSh; omega) (nd 1 (by omega)), v2.frH F (by unfold SSh; omega) (by unfold SSh; omega) (nd 2 (by omega)), m.frH F (by unfold SSh; omega) (nd 3 (by omega)) (nd 4 (by omega)), r.frH F (by unfold SSh; omega), sp, fun i hi => ⟨(a i hi).1, by rw [en]; exact (a i hi).2⟩, b⟩, by omega, r2, by omega⟩, F.cf hn (fun b z _ => by unfold SSh at z; omega)⟩
/-- an exception is made -/
theorem LeI.thr {c : Nat} {g : Gs} {h : PH} (x : LeI c g h) : LeI (c + 1) g (tw h) ∧ CFr h (tw h) := by
  obtain ⟨x, hn, d, len, ff, rd, p, r1, r2, r3⟩ := x
  have hn2 : hN (tw h) = hN h := rfl
  have he2 : hE (tw h) = hE h + 1 := rfl
  have hs2 : hS (tw h) = hS h + 6 := rfl
  refine ⟨⟨x.cg x.1.1 rfl rfl rfl (fun b _ => ⟨rfl, rfl, rfl⟩), hn, d, len, ff, rd, p, by omega, by omega, by omega⟩, id, Nat.le_refl _, fun _ _ => rfl, fun _ _ => ⟨rfl, rfl, rfl, rfl⟩⟩
