/-! THE JOINT: what the Statement gives of the start, as the run's constants. -/
theorem lt1 (i : Nat) {w : Cond} (h : tables_1_1[i]? = some w) : w ∈ lw_tbl := tm w (List.mem_append_left _ (List.mem_of_getElem? h))
theorem lt2 (i : Nat) {w : Cond} (h : tables_1_2[i]? = some w) : w ∈ lw_tbl := tm w (List.mem_append_right _ (List.mem_append_left _ (List.mem_of_getElem? h)))
theorem lt3 (i : Nat) {w : Cond} (h : tables_1_3[i]? = some w) : w ∈ lw_tbl := tm w (List.mem_append_right _ (List.mem_append_right _ (List.mem_append_left _ (List.mem_of_getElem? h))))
theorem lt5 (i : Nat) {w : Cond} (h : tables_1_5[i]? = some w) : w ∈ lw_tbl := tm w (List.mem_append_right _ (List.mem_append_right _ (List.mem_append_right _ (List.mem_append_right _ (List.mem_append_left _ (List.mem_of_getElem? h))))))
theorem lt6 (i : Nat) {w : Cond} (h : tables_1_6[i]? = some w) : w ∈ lw_tbl := tm w (List.mem_append_right _ (List.mem_append_right _ (List.mem_append_right _ (List.mem_append_right _ (List.mem_append_right _ (List.mem_append_left _ (List.mem_of_getElem? h)))))))
theorem in_X : ∀ (ci : Nat) (q : vw_C), vwCl[ci]? = some q → Cond.instantiable q.1 q.2.2 ∈ lw_tbl := by
  intro ci q h
  match ci, h with
  | 0, h => cases h; exact lt1 130 rfl
  | 1, h => cases h; exact lt2 221 rfl
  | 2, h => cases h; exact lt2 150 rfl
  | 3, h => cases h; exact lt2 54 rfl
  | 4, h => cases h; exact lt2 25 rfl
  | 5, h => cases h; exact lt2 181 rfl
  | 6, h => cases h; exact lt2 5 rfl
  | 7, h => cases h; exact lt2 203 rfl
  | 8, h => cases h; exact lt1 32 rfl
  | 9, h => cases h; exact lt2 125 rfl
  | 10, h => cases h; exact lt1 24 rfl
  | 11, h => cases h; exact lt6 94 rfl
  | n + 12, h => simp [vwCl] at h
/-- the words of the start, one behind the other -/
def nF : List Cond := flatC narrow_1
def tTx (k : Nat) : Term := .string RX8 k
def tBy (k : Nat) : Term := .field (tTx k) "java/lang/String" "value" "[B"
def wEl (k : Nat) (l : List Int32) (j : Nat) : Cond := .eq (.elem (tBy k) (.int (Int32.ofNat j))) (.int (l.getD j 0))
set_option maxRecDepth 100000 in
theorem nF_words : (nF.drop 25).take 154 = (List.range 154).map (wEl 45 sWords) := rfl
set_option maxRecDepth 100000 in
theorem nF_signs : (nF.drop 183).take 8 = (List.range 8).map (wEl 85 sSigns) := rfl
section
variable {s : State} {args : Array Value}
theorem nF_of (h : (Cond.and given_1 narrow_1).before args s = true) : ∀ w ∈ nF, w.before args s = true := fun w hw => flat_of_before _ h w (List.mem_append_right _ hw)
theorem nF_at (h : ∀ w ∈ nF, w.before args s = true) (i : Nat) {w : Cond} (e : nF[i]? = some w) : w.before args s = true := h w (List.mem_of_getElem? e)
theorem nF_el {k n a : Nat} {l : List Int32} (h : ∀ w ∈ nF, w.before args s = true) (e : (nF.drop a).take n = (List.range n).map (wEl k l)) {j : Nat} (hj : j < n) : (wEl k l j).before args s = true := by
  refine h _ (List.mem_of_mem_drop (List.mem_of_mem_take (i := n) (l := nF.drop a) ?_))
  rw [e]
  exact List.mem_map.mpr ⟨j, List.mem_range.mpr hj, rfl⟩
def tmS (i : Nat) : Term := match i with
  | 0 => tTx 45
  | _ => tTx 85
set_option maxRecDepth 100000 in
theorem textsOf (h : ∀ w ∈ nF, w.before args s = true) : ∃ adK adV : Nat → Nat, vk_S 2 sLen sByt adK adV (fun q : Nat => s.heap.size ≤ q) s s.heap ∧ ∀ i : Nat, i < 2 → (tmS i).eval args s none [] s = some (.ref (adK i)) := by
  have two : ∀ {P : Nat → Prop}, P 0 → P 1 → ∀ i, i < 2 → P i := fun a b i hi => by
    rcases (show i = 0 ∨ i = 1 by omega) with rfl | rfl
    · exact a
    · exact b
  refine vk_Sof (tm := tmS) (two (by decide) (by decide)) (two (nF_at h 21 rfl) (nF_at h 179 rfl)) (two (nF_at h 22 rfl) (nF_at h 180 rfl)) (two (nF_at h 23 rfl) (nF_at h 181 rfl)) (two (nF_at h 24 rfl) (nF_at h 182 rfl)) (two (fun j hj => ?_) (fun j hj => ?_)) ?_ (fun a ha => Nat.not_le.mpr ha)
  · exact nF_el h nF_words hj
  · exact nF_el h nF_signs hj
  · intro i j hi hj hij
    rcases (show (i = 0 ∧ j = 1) ∨ (i = 1 ∧ j = 0) by omega) with ⟨rfl, rfl⟩ | ⟨rfl, rfl⟩
    · exact Or.inl (nF_at h 191 rfl)
    · exact Or.inr (nF_at h 191 rfl)
theorem arrOf {kd : Nat} (k1 : 20 ≤ kd) (k2 : kd < 26) (hts : ∀ w ∈ lw_tbl, w.before args s = true) : ∃ cA : ClassId, ArrOfT s cA (aty kd) ∧ va_RA s cA (aty kd) := by
  have prim : ∀ ty : FieldType, (Cond.arrayClass ty).before args s = true → ∃ (c : ClassId) (k : Class) (comp : ClassId), s.vm.findClass ("[" ++ ty.toString) = some c ∧ s.vm.classes[c]? = some k ∧ k.kind = .array comp ty := fun ty h => Cond.arrayClass_spec (args := args) (first := s) (s := s) (o := none) (idx := []) h
  have obj : ∀ C : String, (Cond.arrayOver (.object C)).before args s = true → ∃ cA : ClassId, ArrOfT s cA (.object C) ∧ va_RA s cA (.object C) := fun C h => by
    obtain ⟨comp, c, k, h1, h2, h3, h4, h5⟩ := Cond.arrayOver_spec (args := args) (first := s) (s := s) (o := none) (idx := []) h
    exact ⟨c, fun N z => ⟨(fun k h => by cases h), k, h3, comp, h4⟩, k, comp, h3, h4, h1, h5⟩
  rcases (show kd = 20 ∨ kd = 21 ∨ kd = 22 ∨ kd = 23 ∨ kd = 24 ∨ kd = 25 by omega) with rfl | rfl | rfl | rfl | rfl | rfl
  · obtain ⟨c, k, comp, h1, h2, h3⟩ := prim .int (hts _ (lt2 3 rfl))
    exact ⟨c, fun N z => ⟨(fun k h => by cases h), k, h2, comp, h3⟩, h1⟩
  · obtain ⟨c, k, comp, h1, h2, h3⟩ := prim .boolean (hts _ (lt2 52 rfl))
    exact ⟨c, fun N z => ⟨(fun k h => by cases h), k, h2, comp, h3⟩, h1⟩
  · obtain ⟨c, k, comp, h1, h2, h3⟩ := prim .byte (hts _ (lt1 127 rfl))
    exact ⟨c, fun N z => ⟨(fun k h => by cases h), k, h2, comp, h3⟩, h1⟩
  · obtain ⟨c, k, comp, h1, h2, h3⟩ := prim .long (hts _ (lt1 128 rfl))
    exact ⟨c, fun N z => ⟨(fun k h => by cases h), k, h2, comp, h3⟩, h1⟩
  · exact obj RX3 (hts _ (lt2 121 rfl))
  · exact obj RX1 (hts _ (lt2 123 rfl))
theorem xws_in : ∀ w ∈ XWs, w.onTables = true ∧ w ∈ lw_tbl := by
  unfold XWs
  refine List.forall_mem_cons.mpr ⟨⟨rfl, lt5 177 rfl⟩, List.forall_mem_cons.mpr ⟨⟨rfl, lt5 178 rfl⟩, List.forall_mem_cons.mpr ⟨⟨rfl, lt5 180 rfl⟩, List.forall_mem_cons.mpr ⟨⟨rfl, lt5 182 rfl⟩, fun _ h => absurd h List.not_mem_nil⟩⟩⟩⟩
/-- the run's constants, and the old cells -/
theorem constsOf (l : Launch) {b L : Nat} {xs : Nat → Int32} (hts : ∀ w ∈ lw_tbl, w.before args s = true) (hX : va_X b L xs s s.heap) (hbl : b < s.heap.size) (hgv : (Cond.and given_1 narrow_1).before args s = true) :
    ∃ g : GT, gl g = l ∧ gB g = s.heap.size ∧ gO g 0 = b ∧ gL g = L ∧ gX g = xs ∧ va_K (gC g, gF g) vwCl (tysOf g) s ∧ Old g s s.heap := by
  have hn := nF_of hgv
  have hA : ∀ a : Nat, a < s.heap.size → ¬ (fun q : Nat => s.heap.size ≤ q) a := fun a ha => Nat.not_le.mpr ha
  have kn : ∀ ci : Nat, ∃ q : ClassId × (Nat → Nat), ∀ r, vwCl[ci]? = some r → u_Kn s r.1 r.2.1 r.2.2 q.1 q.2 := by
    intro ci
    cases e : vwCl[ci]? with
    | none => exact ⟨(⟨0, fun _ => 0⟩), fun r h => by cases h⟩
    | some r =>
      obtain ⟨C, T, N⟩ := r
      obtain ⟨c, iS, h⟩ := u_known (ws := lw_tbl) (C := C) (T := T) (N := N) hts (fun w hw => GW_in w ((GWcls ci C T N e).1 w hw)) (hts _ (in_X ci _ e))
      exact ⟨(c, iS), fun r hr => by cases hr; exact h⟩
  have ar : ∀ kd : Nat, ∃ cA : ClassId, 20 ≤ kd → kd < 26 → ArrOfT s cA (aty kd) ∧ va_RA s cA (aty kd) := by
    intro kd
    by_cases h : 20 ≤ kd ∧ kd < 26
    · obtain ⟨cA, h1⟩ := arrOf h.1 h.2 hts
      exact ⟨cA, fun _ _ => h1⟩
    · exact ⟨0, fun a b => absurd ⟨a, b⟩ h⟩
  obtain ⟨kq, hkq⟩ := Classical.axiomOfChoice kn
  obtain ⟨aq, haq⟩ := Classical.axiomOfChoice ar
  obtain ⟨adK, adV, hS, hev⟩ := textsOf hn
  have hz := va_Zqof (A := fun q : Nat => s.heap.size ≤ q) (hts (.laysStatic "jdk/internal/util/Preconditions" "SIOOBE_FORMATTER" "Ljava/util/function/BiFunction;") (lt1 63 rfl)) (hts (.initialized "jdk/internal/util/Preconditions") (lt1 5 rfl)) (nF_at hn 3 rfl) hA
  obtain ⟨gv, t, ok, hz⟩ : ∃ (gv : Option Nat) (t : Nat), (gv = none ∨ gv = some 5) ∧ va_Z "jdk/internal/util/Preconditions" "SIOOBE_FORMATTER" "Ljava/util/function/BiFunction;" (va_rf (gv.map fun _ => t)) (fun q : Nat => s.heap.size ≤ q) s s.heap := by
    rcases hz with h | ⟨t, h⟩
    · exact ⟨none, 0, Or.inl rfl, h⟩
    · exact ⟨some 5, t, Or.inr rfl, h⟩
  let g : GT := (l, (fun c => (kq c).1), (fun c => (kq c).2), aq, s.heap.size, (fun k => match k with | 0 => b | 1 => adK 0 | 2 => adV 0 | 3 => adK 1 | 4 => adV 1 | _ => t), gv, L, xs)
  refine ⟨g, rfl, rfl, rfl, rfl, rfl, ⟨fun c q hq => hkq c q hq, ?_⟩, ?_⟩
  · intro k q hk
    match k, hk with
    | 0, hk => cases hk; exact haq 20 (by omega) (by omega)
    | 1, hk => cases hk; exact haq 21 (by omega) (by omega)
    | 2, hk => cases hk; exact haq 22 (by omega) (by omega)
    | 3, hk => cases hk; exact haq 23 (by omega) (by omega)
    | 4, hk => cases hk; exact haq 24 (by omega) (by omega)
    | 5, hk => cases hk; exact haq 25 (by omega) (by omega)
    | n + 6, hk => simp [tysOf] at hk
  · refine ⟨hX, ⟨hbl, ?_, Nat.le_refl _⟩, ⟨?_, ?_⟩, vk_R.of (hts _ (lt1 37 rfl)) (hev 0 (by decide)), vk_R.of (hts _ (lt3 130 rfl)) (hev 1 (by decide)), va_Zof (hts _ (lt1 47 rfl)) (hts _ (lt1 3 rfl)) (va_eqi (nF_at hn 2 rfl)) hA, ?_, vx_Zqof (hts _ (lt5 202 rfl)) (hts _ (lt1 19 rfl)) (nF_at hn 7 rfl) hA, vx_Zqof (hts _ (lt5 204 rfl)) (hts _ (lt1 19 rfl)) (nF_at hn 8 rfl) hA, fun w hw => va_Nw.of (xws_in w hw).1 (hts w (xws_in w hw).2), va_AO.of (hts _ (lt2 121 rfl)), va_AO.of (hts _ (lt2 123 rfl))⟩
    · show okv 6 (va_rf gv)
      rcases ok with rfl | rfl
      · trivial
      · show 5 < 6
        decide
    · intro i hi
      rcases (show i = 0 ∨ i = 1 by omega) with rfl | rfl
      · exact hS.1 0 hi
      · exact hS.1 1 hi
    · intro i j hi hj e
      rcases (show i = 0 ∨ i = 1 by omega) with rfl | rfl <;> rcases (show j = 0 ∨ j = 1 by omega) with rfl | rfl
      · rfl
      · exact hS.2 0 1 hi hj e
      · exact hS.2 1 0 hi hj e
      · rfl
    · have e : sv (gO g) (gW g) = va_rf (gv.map fun _ => t) := by
        show sv (gO g) (va_rf gv) = _
        rcases ok with rfl | rfl
        · rfl
        · rfl
      rw [e]
      exact hz
end
/-! the pure heap at the start -/
def kxAt (b : Nat) : Nat × Nat := ((KX.find? fun q => Nat.beq q.1 b).map fun q => q.2).getD (30, 0)
theorem kxAt_ok : ∀ q ∈ KX, 6 ≤ q.1 ∧ kxAt q.1 = q.2 := by decide +kernel
def k00 (L b : Nat) : Nat × Nat := match b with
  | 0 => (26, L)
  | 1 => (28, 0)
  | 2 => (27, 154)
  | 3 => (28, 0)
  | 4 => (27, 8)
  | 5 => (30, 0)
  | n + 6 => kxAt (n + 6)
def i00 (xs : Nat → Int32) (b j : Nat) : Int32 := match b with
  | 0 => xs j
  | 2 => sWords.getD j 0
  | 4 => sSigns.getD j 0
  | _ => 0
def r00 (b j : Nat) : Option Nat := match b, j with
  | 1, 0 => some 2
  | 3, 0 => some 4
  | _, _ => none
def h00 (L : Nat) (xs : Nat → Int32) : PH := ((6, 0, 0), k00 L, i00 xs, fun _ _ => 0, fun _ _ => false, r00)
theorem r00_lt (b j r : Nat) (h : r00 b j = some r) : r < 6 := by
  unfold r00 at h
  split at h
  · cases h; decide
  · cases h; decide
  · cases h
theorem h00_kx {L : Nat} {xs : Nat → Int32} : ∀ q ∈ KX, hK (h00 L xs) q.1 = q.2 := by
  intro q hq
  obtain ⟨h1, h2⟩ := kxAt_ok q hq
  obtain ⟨n, e⟩ : ∃ n, q.1 = n + 6 := ⟨q.1 - 6, by omega⟩
  rw [← h2, e]
  rfl
theorem h00_tx {L : Nat} {xs : Nat → Int32} : TxW (h00 L xs) := ⟨rfl, rfl, rfl, rfl, fun _ => rfl⟩
theorem h00_tf {L : Nat} {xs : Nat → Int32} : TextF (h00 L xs) := ⟨rfl, rfl, rfl, rfl, show (40 : Int32) = iv 40 from iv_lit _, show (41 : Int32) = iv 41 from iv_lit _, show (60 : Int32) = iv 60 from iv_lit _, show (61 : Int32) = iv 61 from iv_lit _, show (43 : Int32) = iv 43 from iv_lit _, show (45 : Int32) = iv 45 from iv_lit _, show (42 : Int32) = iv 42 from iv_lit _, show (59 : Int32) = iv 59 from iv_lit _⟩
theorem h00_rep {g : GT} {H : Heap} : Rep g (gO g) (h00 (gL g) (gX g)) H := ⟨fun a h1 h2 => absurd h2 (Nat.not_lt.mpr h1), fun a b h1 h2 => absurd h2 (Nat.not_lt.mpr h1), fun _ _ => rfl, Nat.le_refl _, fun a j r h => r00_lt a j r h, rfl, fun _ => rfl, rfl, rfl, rfl, rfl, fun _ => rfl, rfl, rfl, rfl, rfl, fun _ => rfl, rfl⟩
