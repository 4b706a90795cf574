/-- a call with more left on the pile than eight words: there is room for sixteen -/
theorem vw_runV {p : Program} {l : Launch} {e : Env} {R : Room} {s : State} {m : MethodId} {args : Array Value} {below : List Frame} {meth : Method} {c : Code} {H : Heap} {locs : List Loc} {cells slots : Nat}
    {y : MethodName} {bytes cc : ByteArray} {maxL nL mc ms n index : Nat} {ret : Option FieldType} {ws : List Cond} {rm : Room} {Pc : Array Value → State → Prop} {Qc : Array Value → State → Outcome → State → Prop} {free : Addr → Prop} {Ts : List Cond} {own C : String} {b : Addr} {As rest : List Value} {g : JFrame}
    (S : CallFix p m c cc nL s args Ts own) (hM : Met l y ws rm Pc Qc mc ms free) (cw : CallW R s args own C index y bytes maxL ret ws rm mc ms n) (hlo16 : 16 + (maxL + 11) + rm.locals ≤ R.locals) (hp : PreV s H C b Pc As)
    (hg : g.method = m) (hn : As.length = n) (hsize : g.locals.size = nL) (hstack : g.stack = As.reverse ++ .ref b :: rest) (hW : 2 * g.monitorRoom + (rest.map fun v => v.category).sum ≤ 16) (hdg : decode cc g.pc = .ok (.invokevirtual index, 3)) (hf : cells + mc ≤ R.cells ∧ slots + ms ≤ R.slots) :
    va_Run p l e R s m args below meth c H locs cells slots mc ms g rest (Qc (Value.ref b :: As).toArray) (free) := by
  have hK : Back l R p e below s args y 3 16 (PreOf R mc ms Pc) (PostOf Qc mc ms free) := by
    obtain ⟨hrc, hrs, hfr, -, hws, hcw, -, hini, -⟩ := cw.1
    exact back_of (bytes := bytes) (maxL := maxL) (ret := ret) hM hp.1 hrc hrs hfr hlo16 hws hcw (fun a' U hW => word_at hW (Or.inl (by first | rfl | simp [Cond.onTables, Cond.keeps, Cond.steady])) hini)
  obtain ⟨⟨-, -, -, -, -, -, hcode, -, hy, hlen, hl⟩, hin, hse⟩ := cw
  obtain ⟨hx, hb, hml, ho, -⟩ := S
  obtain ⟨-, ⟨cellB, hcB, hoB, hclB⟩, hPc⟩ := hp
  intro T hT X
  obtain ⟨v, vm₁, ⟨U', l2, c2, s2⟩, hW₁, X', ⟨g', mk, t, L, e1, e2, hq, h1, hL, h2, h3⟩, st⟩ := callV X hx (C := C) (bytes := bytes) (maxL := maxL) (ret := ret) ho hl hin hse hcode hy hK (by rw [hT]; exact hcB) hoB hclB hg (hsize.trans hml.symm) (argsL := As) (rest := rest) (fun sig h => hn.trans (hlen sig h)) hstack hW (by rw [hb]; exact hdg)
    (fun vm₁ hW₁ => ⟨hf.1, hf.2, hPc (T.setVm vm₁) hT hW₁⟩)
  dsimp only [Pt.U, Pt.locs, Pt.cells, Pt.slots] at X' e1 e2 h1 h2 h3 st
  subst h1; subst h2; subst h3
  exact ⟨v, (T.setVm vm₁).calling g' mk (Value.ref b :: As).toArray, t, U', L, hT, X', hL, e1, e2, hq, st⟩
theorem vw_room {m : MethodId} {pc : Nat} {ls : Array Slot} {rest st : List Value} (h : (st.map fun v => v.category).sum ≤ 16) : 2 * (F0 m pc ls rest).monitorRoom + (st.map fun v => v.category).sum ≤ 16 := by
  show 2 * 0 + _ ≤ 16
  omega
theorem r_callW1 {g : GT} {M : PM} {d pc : Nat} {ls : List (Nat × Value)} {rest : List Value} {h : PH} {r : Res} {h' : PH} {M2 : PM} {idx n a : Nat} {as : List Value} {st : List Value} {w : Value} {h1 : PH} (hd : cd M pc = some (.invokevirtual idx, 3)) (hp : PlainM M2 n) (hl : Cond.methodLink (mY M).cls idx (mY M2) ∈ GW) (hi : Cond.instanceMethod (mY M2) ∈ GW) (hs : Cond.selects (mY M2).cls (mY M2) (mY M2) ∈ GW)
    {t : Option Nat} (ht : t = some a) (hst : st = as.reverse ++ va_rf t :: rest) (hn : as.length = n) (hrc : rcls (hK h a).1 = some (mY M2).cls) (hcat : (rest.map fun v => v.category).sum ≤ 16) (hc : Calls g d M2 (va_rf (some a) :: as) h (some w) h1) (kk : Run g M (d + 1) (pc + 3) ls (w :: rest) h1 r h') : Run g M (d + 1) pc ls st h r h' := by
  subst hst
  try subst ht
  refine ⟨hc.1.tr kk.1, ?_⟩
  intro p e R s m args below meth c QQ n0 s0 C hR' RO ad H lsA locs cells slots S
  have hts := C.2.2.2.2.2.2.2.2.1
  obtain ⟨p1, p2, p3, p4, p5, p6⟩ := hp
  have S2 := okL_app.mp S.2.1
  have hM := hc.2 ad ⟨S2.2.1, okL_rev.mp S2.1⟩
  obtain ⟨⟨S6, S6'⟩, ⟨S7, S7'⟩, S8, S9⟩ := S.2.2.2.2.2
  obtain ⟨q1, q2, q5⟩ := hc.1
  obtain ⟨q3, q4, q6⟩ := kk.1
  refine of_run (v := some w) (M2 := M2) (d2 := d) (a := (sL ad (va_rf (some a) :: as)).toArray) kk C hR' RO S S2.2.2 hc.1 ?_
  refine vw_runV (As := sL ad as) (n := n) ⟨C.1, C.2.1, C.2.2.2.2.2.1, C.2.2.2.2.2.2.1, hts⟩ hM (cwV n hts (goodIn_cons hl (goodIn_cons hi (goodIn_cons hs (goodIn_cons p6 (goodIn_wsM p5))))) rfl rfl rfl ⟨rfl, p1, p2, p3⟩ ⟨by show d + 1 ≤ R.frames; exact hR'.1, by show 8 + (mL M2 + 11) + 64 * d ≤ R.locals; have := hR'.2.1; omega⟩) (by show 16 + (mL M2 + 11) + 64 * d ≤ R.locals; have := hR'.2.1; omega) ⟨pre_blind, recv_at C S S2.2.1 hrc, pre_at C S⟩ rfl (by rw [sL_len]; exact hn) S.2.2.2.1.1 (by rw [sL_app, sL_rev]; rfl) (vw_room (by rw [sL_cat]; exact hcat)) (C.2.2.1.dec hd) ⟨?_, ?_⟩
  · have := hR'.2.2.1; omega
  · have := hR'.2.2.2; omega
def Mo_plain_b118 (N : Nat) (self_69 : Nat → Int32 → Int32 → PH → Option (Unit × PH)) (self_89 : Nat → Int32 → Int32 → Int32 → PH → Option (Unit × PH)) (s0 : Option Nat) (s1 : Int32) (s2 : Int32) (a0 : Nat) (x1 : Int32) (x2 : Int32) (x3 : Int32) (h : PH) : Option (Unit × PH) :=
  (s0).bind fun a_1 =>
  ck ((hK h a_1).1 = 20) <|
  ck (inb s1 (hK h a_1).2 = true) <|
  lt0 (wI h a_1 (ix s1) s2) fun h5 =>
  self_89 a0 x1 x2 (x3 + 1) h5
set_option maxRecDepth 20000 in
theorem Mo_plain_b118_ok (g : GT) (N : Nat) (D : Nat) (hD : 0 ≤ D) (self_69 : Nat → Int32 → Int32 → PH → Option (Unit × PH)) (hself_69 : ∀ (a0 : Nat) (x1 : Int32) (x2 : Int32) (h : PH) (v : Unit) (h' : PH), self_69 a0 x1 x2 h = some (v, h') → Run g pMo_plain D 69 [(0, va_rf (some a0)), (1, .int x1), (2, .int x2)] [] h (rV v) h') (self_89 : Nat → Int32 → Int32 → Int32 → PH → Option (Unit × PH)) (hself_89 : ∀ (a0 : Nat) (x1 : Int32) (x2 : Int32) (x3 : Int32) (h : PH) (v : Unit) (h' : PH), self_89 a0 x1 x2 x3 h = some (v, h') → Run g pMo_plain D 89 [(0, va_rf (some a0)), (1, .int x1), (2, .int x2), (3, .int x3)] [] h (rV v) h') : ∀ (s0 : Option Nat) (s1 : Int32) (s2 : Int32) (a0 : Nat) (x1 : Int32) (x2 : Int32) (x3 : Int32) (h : PH) (v : Unit) (h' : PH), Mo_plain_b118 N self_69 self_89 s0 s1 s2 a0 x1 x2 x3 h = some (v, h') → Run g pMo_plain D 118 [(0, va_rf (some a0)), (1, .int x1), (2, .int x2), (3, .int x3)] [.int s2, .int s1, va_rf s0] h (rV v) h' := by
  intro s0 s1 s2 a0 x1 x2 x3 h v h' hE
  unfold Mo_plain_b118 at hE
  obtain ⟨a_1, ha2, hE⟩ := bnE hE
  obtain ⟨hk3, hE⟩ := ckE hE
  obtain ⟨hi4, hE⟩ := ckE hE
  obtain ⟨h5, he6, hE⟩ := ltE hE
  refine r_iast rfl ha2 hk3 hi4 he6 ?_
  refine r_iinc _ rfl rfl (congrArg _ ci_1) (by decide) ?_
  refine r_goto (tgt := 89) rfl (by decide) ?_
  first | exact r_sb (hself_89 _ _ _ _ _ _ _ hE) ⟨rfl, rfl, rfl, rfl, trivial⟩ | exact r_sb (hself_89 _ _ _ _ _ _ _ hE) (by simp only [su1, su2, dr1_rf, dr1_in, dr1_lo, dr2_rf, dr2_in, dr2_lo]; exact ⟨rfl, rfl, rfl, rfl, trivial⟩)
def Mo_plain_b89 (N : Nat) (self_69 : Nat → Int32 → Int32 → PH → Option (Unit × PH)) : Nat → Nat → Int32 → Int32 → Int32 → PH → Option (Unit × PH)
  | 0 => fun _ _ _ _ _ => none
  | n + 1 => fun a0 x1 x2 x3 h =>
    if 4 ≤ x3 then
      self_69 a0 x1 (x2 + 1) h
    else
      ck ((hK h a0).1 = 11) <|
      if x3 = 0 then
        Mo_plain_b118 N self_69 (Mo_plain_b89 N self_69 n)  (hR h a0 11) (((96 * x1) + (4 * x2)) + x3) 10 a0 x1 x2 x3 h
      else
        Mo_plain_b118 N self_69 (Mo_plain_b89 N self_69 n)  (hR h a0 11) (((96 * x1) + (4 * x2)) + x3) 0 a0 x1 x2 x3 h
set_option maxRecDepth 20000 in
theorem Mo_plain_b89_ok (g : GT) (N : Nat) (D : Nat) (hD : 0 ≤ D) (self_69 : Nat → Int32 → Int32 → PH → Option (Unit × PH)) (hself_69 : ∀ (a0 : Nat) (x1 : Int32) (x2 : Int32) (h : PH) (v : Unit) (h' : PH), self_69 a0 x1 x2 h = some (v, h') → Run g pMo_plain D 69 [(0, va_rf (some a0)), (1, .int x1), (2, .int x2)] [] h (rV v) h') : ∀ (n : Nat) (a0 : Nat) (x1 : Int32) (x2 : Int32) (x3 : Int32) (h : PH) (v : Unit) (h' : PH), Mo_plain_b89 N self_69 n a0 x1 x2 x3 h = some (v, h') → Run g pMo_plain D 89 [(0, va_rf (some a0)), (1, .int x1), (2, .int x2), (3, .int x3)] [] h (rV v) h' := by
  intro n
  induction n with
  | zero => exact fun _ _ _ _ _ _ _ hE => nomatch (show none = some _ from hE)
  | succ n ih =>
    intro a0 x1 x2 x3 h v h' hE
    unfold Mo_plain_b89 at hE
    refine r_iload_n 3 rfl rfl rfl ?_
    refine r_iconst 4 rfl ci_4 ?_
    refine r_icmp_ge (tgt := 125) rfl (by decide) (fun hc1 => ?_) (fun hc1 => ?_)
    · have hE := ifP hc1 hE
      refine r_iinc _ rfl rfl (congrArg _ ci_1) (by decide) ?_
      refine r_goto (tgt := 69) rfl (by decide) ?_
      first | exact r_sb (hself_69 _ _ _ _ _ _ hE) ⟨rfl, rfl, rfl, trivial⟩ | exact r_sb (hself_69 _ _ _ _ _ _ hE) (by simp only [su1, su2, dr1_rf, dr1_in, dr1_lo, dr2_rf, dr2_in, dr2_lo]; exact ⟨rfl, rfl, rfl, trivial⟩)
    · have hE := ifN hc1 hE
      refine r_aload_n (t := some a0) 0 rfl rfl rfl ?_
      obtain ⟨hk2, hE⟩ := ckE hE
      refine r_getR rfl (fl_11_16 rfl) (Or.inr ⟨_, rfl⟩) rfl hk2 ?_
      refine r_bipush 96 rfl cb_96 ?_
      refine r_iload_n 1 rfl rfl rfl ?_
      refine r_imul rfl ?_
      refine r_iconst 4 rfl ci_4 ?_
      refine r_iload_n 2 rfl rfl rfl ?_
      refine r_imul rfl ?_
      refine r_iadd rfl ?_
      refine r_iload_n 3 rfl rfl rfl ?_
      refine r_iadd rfl ?_
      refine r_iload_n 3 rfl rfl rfl ?_
      refine r_if_ne (tgt := 117) rfl (by decide) (fun hc3 => ?_) (fun hc3 => ?_)
      · have hE := ifP hc3 hE
        refine r_bipush 10 rfl cb_10 ?_
        refine r_goto (tgt := 118) rfl (by decide) ?_
        first | exact r_sb (Mo_plain_b118_ok g N _ hD _ hself_69 _ ih  _ _ _ _ _ _ _ _ _ _ hE) ⟨rfl, rfl, rfl, rfl, trivial⟩ | exact r_sb (Mo_plain_b118_ok g N _ hD _ hself_69 _ ih  _ _ _ _ _ _ _ _ _ _ hE) (by simp only [su1, su2, dr1_rf, dr1_in, dr1_lo, dr2_rf, dr2_in, dr2_lo]; exact ⟨rfl, rfl, rfl, rfl, trivial⟩)
      · have hE := ifN hc3 hE
        refine r_iconst 0 rfl ci_0 ?_
        first | exact r_sb (Mo_plain_b118_ok g N _ hD _ hself_69 _ ih  _ _ _ _ _ _ _ _ _ _ hE) ⟨rfl, rfl, rfl, rfl, trivial⟩ | exact r_sb (Mo_plain_b118_ok g N _ hD _ hself_69 _ ih  _ _ _ _ _ _ _ _ _ _ hE) (by simp only [su1, su2, dr1_rf, dr1_in, dr1_lo, dr2_rf, dr2_in, dr2_lo]; exact ⟨rfl, rfl, rfl, rfl, trivial⟩)
def Mo_plain_b69 (N : Nat) : Nat → Nat → Int32 → Int32 → PH → Option (Unit × PH)
  | 0 => fun _ _ _ _ => none
  | n + 1 => fun a0 x1 x2 h =>
    if 24 ≤ x2 then
      some ((), h)
    else
      ck ((hK h a0).1 = 11) <|
      ((hR h a0 12)).bind fun a_3 =>
      ck ((hK h a_3).1 = 21) <|
      ck (inb ((24 * x1) + x2) (hK h a_3).2 = true) <|
      lt0 (wZ h a_3 (ix ((24 * x1) + x2)) (tb 0)) fun h7 =>
      Mo_plain_b89 N (Mo_plain_b69 N n) N a0 x1 x2 0 h7
set_option maxRecDepth 20000 in
theorem Mo_plain_b69_ok (g : GT) (N : Nat) (D : Nat) (hD : 0 ≤ D) : ∀ (n : Nat) (a0 : Nat) (x1 : Int32) (x2 : Int32) (h : PH) (v : Unit) (h' : PH), Mo_plain_b69 N n a0 x1 x2 h = some (v, h') → Run g pMo_plain D 69 [(0, va_rf (some a0)), (1, .int x1), (2, .int x2)] [] h (rV v) h' := by
  intro n
  induction n with
  | zero => exact fun _ _ _ _ _ _ hE => nomatch (show none = some _ from hE)
  | succ n ih =>
    intro a0 x1 x2 h v h' hE
    unfold Mo_plain_b69 at hE
    refine r_iload_n 2 rfl rfl rfl ?_
    refine r_bipush 24 rfl cb_24 ?_
    refine r_icmp_ge (tgt := 131) rfl (by decide) (fun hc1 => ?_) (fun hc1 => ?_)
    · have hE := ifP hc1 hE
      cases hE
      exact r_ret rfl (Or.inr (Or.inr (Or.inr ⟨rfl, rfl, rfl, rfl⟩)))
    · have hE := ifN hc1 hE
      refine r_aload_n (t := some a0) 0 rfl rfl rfl ?_
      obtain ⟨hk2, hE⟩ := ckE hE
      refine r_getR rfl (fl_11_19 rfl) (Or.inr ⟨_, rfl⟩) rfl hk2 ?_
      refine r_bipush 24 rfl cb_24 ?_
      refine r_iload_n 1 rfl rfl rfl ?_
      refine r_imul rfl ?_
      refine r_iload_n 2 rfl rfl rfl ?_
      refine r_iadd rfl ?_
      refine r_iconst 0 rfl ci_0 ?_
      obtain ⟨a_3, ha4, hE⟩ := bnE hE
      obtain ⟨hk5, hE⟩ := ckE hE
      obtain ⟨hi6, hE⟩ := ckE hE
      obtain ⟨h7, he8, hE⟩ := ltE hE
      refine r_zast rfl ha4 hk5 hi6 rfl he8 ?_
      refine r_iconst 0 rfl ci_0 ?_
      refine r_istore_n 3 rfl rfl (by decide) ?_
      first | exact r_sb (Mo_plain_b89_ok g N _ hD _ ih N _ _ _ _ _ _ _ hE) ⟨rfl, rfl, rfl, rfl, trivial⟩ | exact r_sb (Mo_plain_b89_ok g N _ hD _ ih N _ _ _ _ _ _ _ hE) (by simp only [su1, su2, dr1_rf, dr1_in, dr1_lo, dr2_rf, dr2_in, dr2_lo]; exact ⟨rfl, rfl, rfl, rfl, trivial⟩)
def Mo_plain_b40 (N : Nat) : Nat → Nat → Int32 → Int32 → PH → Option (Unit × PH)
  | 0 => fun _ _ _ _ => none
  | n + 1 => fun a0 x1 x2 h =>
    if 3 ≤ x2 then
      Mo_plain_b69 N N a0 x1 0 h
    else
      ck ((hK h a0).1 = 11) <|
      ((hR h a0 10)).bind fun a_3 =>
      ck ((hK h a_3).1 = 20) <|
      ck (inb (((18 * x1) + 4) + x2) (hK h a_3).2 = true) <|
      lt0 (wI h a_3 (ix (((18 * x1) + 4) + x2)) (3 - x2)) fun h7 =>
      (Mo_plain_b40 N n) a0 x1 (x2 + 1) h7
set_option maxRecDepth 20000 in
theorem Mo_plain_b40_ok (g : GT) (N : Nat) (D : Nat) (hD : 0 ≤ D) : ∀ (n : Nat) (a0 : Nat) (x1 : Int32) (x2 : Int32) (h : PH) (v : Unit) (h' : PH), Mo_plain_b40 N n a0 x1 x2 h = some (v, h') → Run g pMo_plain D 40 [(0, va_rf (some a0)), (1, .int x1), (2, .int x2)] [] h (rV v) h' := by
  intro n
  induction n with
  | zero => exact fun _ _ _ _ _ _ hE => nomatch (show none = some _ from hE)
  | succ n ih =>
    intro a0 x1 x2 h v h' hE
    unfold Mo_plain_b40 at hE
    refine r_iload_n 2 rfl rfl rfl ?_
    refine r_iconst 3 rfl ci_3 ?_
    refine r_icmp_ge (tgt := 67) rfl (by decide) (fun hc1 => ?_) (fun hc1 => ?_)
    · have hE := ifP hc1 hE
      refine r_iconst 0 rfl ci_0 ?_
      refine r_istore_n 2 rfl rfl (by decide) ?_
      first | exact r_sb (Mo_plain_b69_ok g N _ hD  N _ _ _ _ _ _ hE) ⟨rfl, rfl, rfl, trivial⟩ | exact r_sb (Mo_plain_b69_ok g N _ hD  N _ _ _ _ _ _ hE) (by simp only [su1, su2, dr1_rf, dr1_in, dr1_lo, dr2_rf, dr2_in, dr2_lo]; exact ⟨rfl, rfl, rfl, trivial⟩)
    · have hE := ifN hc1 hE
      refine r_aload_n (t := some a0) 0 rfl rfl rfl ?_
      obtain ⟨hk2, hE⟩ := ckE hE
      refine r_getR rfl (fl_11_13 rfl) (Or.inr ⟨_, rfl⟩) rfl hk2 ?_
      refine r_bipush 18 rfl cb_18 ?_
      refine r_iload_n 1 rfl rfl rfl ?_
      refine r_imul rfl ?_
      refine r_iconst 4 rfl ci_4 ?_
      refine r_iadd rfl ?_
      refine r_iload_n 2 rfl rfl rfl ?_
      refine r_iadd rfl ?_
      refine r_iconst 3 rfl ci_3 ?_
      refine r_iload_n 2 rfl rfl rfl ?_
      refine r_isub rfl ?_
      obtain ⟨a_3, ha4, hE⟩ := bnE hE
      obtain ⟨hk5, hE⟩ := ckE hE
      obtain ⟨hi6, hE⟩ := ckE hE
      obtain ⟨h7, he8, hE⟩ := ltE hE
      refine r_iast rfl ha4 hk5 hi6 he8 ?_
      refine r_iinc _ rfl rfl (congrArg _ ci_1) (by decide) ?_
      refine r_goto (tgt := 40) rfl (by decide) ?_
      first | exact r_sb (ih _ _ _ _ _ _ hE) ⟨rfl, rfl, rfl, trivial⟩ | exact r_sb (ih _ _ _ _ _ _ hE) (by simp only [su1, su2, dr1_rf, dr1_in, dr1_lo, dr2_rf, dr2_in, dr2_lo]; exact ⟨rfl, rfl, rfl, trivial⟩)
def Mo_plain_b2 (N : Nat) : Nat → Nat → Int32 → Int32 → PH → Option (Unit × PH)
  | 0 => fun _ _ _ _ => none
  | n + 1 => fun a0 x1 x2 h =>
    if 18 ≤ x2 then
      ck ((hK h a0).1 = 11) <|
      ((hR h a0 10)).bind fun a_3 =>
      ck ((hK h a_3).1 = 20) <|
      ck (inb ((18 * x1) + 0) (hK h a_3).2 = true) <|
      lt0 (wI h a_3 (ix ((18 * x1) + 0)) 1) fun h7 =>
      Mo_plain_b40 N N a0 x1 0 h7
    else
      ck ((hK h a0).1 = 11) <|
      ((hR h a0 10)).bind fun a_10 =>
      ck ((hK h a_10).1 = 20) <|
      ck (inb ((18 * x1) + x2) (hK h a_10).2 = true) <|
      lt0 (wI h a_10 (ix ((18 * x1) + x2)) 0) fun h14 =>
      (Mo_plain_b2 N n) a0 x1 (x2 + 1) h14
set_option maxRecDepth 20000 in
theorem Mo_plain_b2_ok (g : GT) (N : Nat) (D : Nat) (hD : 0 ≤ D) : ∀ (n : Nat) (a0 : Nat) (x1 : Int32) (x2 : Int32) (h : PH) (v : Unit) (h' : PH), Mo_plain_b2 N n a0 x1 x2 h = some (v, h') → Run g pMo_plain D 2 [(0, va_rf (some a0)), (1, .int x1), (2, .int x2)] [] h (rV v) h' := by
  intro n
  induction n with
  | zero => exact fun _ _ _ _ _ _ hE => nomatch (show none = some _ from hE)
  | succ n ih =>
    intro a0 x1 x2 h v h' hE
    unfold Mo_plain_b2 at hE
    refine r_iload_n 2 rfl rfl rfl ?_
    refine r_bipush 18 rfl cb_18 ?_
    refine r_icmp_ge (tgt := 26) rfl (by decide) (fun hc1 => ?_) (fun hc1 => ?_)
    · have hE := ifP hc1 hE
      refine r_aload_n (t := some a0) 0 rfl rfl rfl ?_
      obtain ⟨hk2, hE⟩ := ckE hE
      refine r_getR rfl (fl_11_13 rfl) (Or.inr ⟨_, rfl⟩) rfl hk2 ?_
      refine r_bipush 18 rfl cb_18 ?_
      refine r_iload_n 1 rfl rfl rfl ?_
      refine r_imul rfl ?_
      refine r_iconst 0 rfl ci_0 ?_
      refine r_iadd rfl ?_
      refine r_iconst 1 rfl ci_1 ?_
      obtain ⟨a_3, ha4, hE⟩ := bnE hE
      obtain ⟨hk5, hE⟩ := ckE hE
      obtain ⟨hi6, hE⟩ := ckE hE
      obtain ⟨h7, he8, hE⟩ := ltE hE
      refine r_iast rfl ha4 hk5 hi6 he8 ?_
      refine r_iconst 0 rfl ci_0 ?_
      refine r_istore_n 2 rfl rfl (by decide) ?_
      first | exact r_sb (Mo_plain_b40_ok g N _ hD  N _ _ _ _ _ _ hE) ⟨rfl, rfl, rfl, trivial⟩ | exact r_sb (Mo_plain_b40_ok g N _ hD  N _ _ _ _ _ _ hE) (by simp only [su1, su2, dr1_rf, dr1_in, dr1_lo, dr2_rf, dr2_in, dr2_lo]; exact ⟨rfl, rfl, rfl, trivial⟩)
    · have hE := ifN hc1 hE
      refine r_aload_n (t := some a0) 0 rfl rfl rfl ?_
      obtain ⟨hk9, hE⟩ := ckE hE
      refine r_getR rfl (fl_11_13 rfl) (Or.inr ⟨_, rfl⟩) rfl hk9 ?_
      refine r_bipush 18 rfl cb_18 ?_
      refine r_iload_n 1 rfl rfl rfl ?_
      refine r_imul rfl ?_
      refine r_iload_n 2 rfl rfl rfl ?_
      refine r_iadd rfl ?_
      refine r_iconst 0 rfl ci_0 ?_
      obtain ⟨a_10, ha11, hE⟩ := bnE hE
      obtain ⟨hk12, hE⟩ := ckE hE
      obtain ⟨hi13, hE⟩ := ckE hE
      obtain ⟨h14, he15, hE⟩ := ltE hE
      refine r_iast rfl ha11 hk12 hi13 he15 ?_
      refine r_iinc _ rfl rfl (congrArg _ ci_1) (by decide) ?_
      refine r_goto (tgt := 2) rfl (by decide) ?_
      first | exact r_sb (ih _ _ _ _ _ _ hE) ⟨rfl, rfl, rfl, trivial⟩ | exact r_sb (ih _ _ _ _ _ _ hE) (by simp only [su1, su2, dr1_rf, dr1_in, dr1_lo, dr2_rf, dr2_in, dr2_lo]; exact ⟨rfl, rfl, rfl, trivial⟩)
def Mo_plain (N : Nat) (a0 : Nat) (x1 : Int32) (h : PH) : Option (Unit × PH) :=
  Mo_plain_b2 N N a0 x1 0 h
set_option maxRecDepth 20000 in
theorem Mo_plain_ok (g : GT) (N : Nat) (a0 : Nat) (x1 : Int32) (h : PH) (v : Unit) (h' : PH) (hE : Mo_plain N a0 x1 h = some (v, h')) (D : Nat) (hD : 0 ≤ D) : Calls g D pMo_plain [va_rf (some a0), .int x1] h (oV v) h' := by
  refine Calls.of cok_Mo_plain ht_Mo_plain pl_Mo_plain (fun ad => by rw [lg_len, sL_cat]; simp only [List.map_cons, List.map_nil, rf_cat, cat_i, cat_l, List.sum_cons, List.sum_nil]; decide) ?_
  rw [show lv_args 0 [va_rf (some a0), .int x1] = [(0, va_rf (some a0)), (1, .int x1)] from (by simp only [lv_args, rf_cat, cat_i, cat_l]; try rfl)]
  unfold Mo_plain at hE
  refine r_iconst 0 rfl ci_0 ?_
  refine r_istore_n 2 rfl rfl (by decide) ?_
  first | exact r_sb (Mo_plain_b2_ok g N _ hD  N _ _ _ _ _ _ hE) ⟨rfl, rfl, rfl, trivial⟩ | exact r_sb (Mo_plain_b2_ok g N _ hD  N _ _ _ _ _ _ hE) (by simp only [su1, su2, dr1_rf, dr1_in, dr1_lo, dr2_rf, dr2_in, dr2_lo]; exact ⟨rfl, rfl, rfl, trivial⟩)
def Mo_fresh_b2 (N : Nat) : Nat → Nat → Int32 → PH → Option (Unit × PH)
  | 0 => fun _ _ _ => none
  | n + 1 => fun a0 x1 h =>
    if 14 ≤ x1 then
      ck ((hK h a0).1 = 11) <|
      ((hR h a0 10)).bind fun a_3 =>
      ck ((hK h a_3).1 = 20) <|
      ck (inb 1 (hK h a_3).2 = true) <|
      ((hR h a0 35)).bind fun a_7 =>
      ck ((hK h a_7).1 = 20) <|
      ck (inb 1 (hK h a_7).2 = true) <|
      lt0 (wI h a_7 (ix 1) (hI h a_3 (ix 1))) fun h11 =>
      ((hR h11 a0 10)).bind fun a_13 =>
      ck ((hK h11 a_13).1 = 20) <|
      ck (inb 2 (hK h11 a_13).2 = true) <|
      ((hR h11 a0 35)).bind fun a_17 =>
      ck ((hK h11 a_17).1 = 20) <|
      ck (inb 2 (hK h11 a_17).2 = true) <|
      lt0 (wI h11 a_17 (ix 2) (hI h11 a_13 (ix 2))) fun h21 =>
      ((hR h21 a0 10)).bind fun a_23 =>
      ck ((hK h21 a_23).1 = 20) <|
      ck (inb 13 (hK h21 a_23).2 = true) <|
      ((hR h21 a0 35)).bind fun a_27 =>
      ck ((hK h21 a_27).1 = 20) <|
      ck (inb 13 (hK h21 a_27).2 = true) <|
      lt0 (wI h21 a_27 (ix 13) ((hI h21 a_23 (ix 13)) * 100000)) fun h31 =>
      some ((), h31)
    else
      ck ((hK h a0).1 = 11) <|
      ((hR h a0 35)).bind fun a_34 =>
      ck ((hK h a_34).1 = 20) <|
      ck (inb x1 (hK h a_34).2 = true) <|
      lt0 (wI h a_34 (ix x1) 0) fun h38 =>
      (Mo_fresh_b2 N n) a0 (x1 + 1) h38
set_option maxRecDepth 20000 in
theorem Mo_fresh_b2_ok (g : GT) (N : Nat) (D : Nat) (hD : 0 ≤ D) : ∀ (n : Nat) (a0 : Nat) (x1 : Int32) (h : PH) (v : Unit) (h' : PH), Mo_fresh_b2 N n a0 x1 h = some (v, h') → Run g pMo_fresh D 2 [(0, va_rf (some a0)), (1, .int x1)] [] h (rV v) h' := by
  intro n
  induction n with
  | zero => exact fun _ _ _ _ _ hE => nomatch (show none = some _ from hE)
  | succ n ih =>
    intro a0 x1 h v h' hE
    unfold Mo_fresh_b2 at hE
    refine r_iload_n 1 rfl rfl rfl ?_
    refine r_bipush 14 rfl cb_14 ?_
    refine r_icmp_ge (tgt := 21) rfl (by decide) (fun hc1 => ?_) (fun hc1 => ?_)
    · have hE := ifP hc1 hE
      refine r_aload_n (t := some a0) 0 rfl rfl rfl ?_
      obtain ⟨hk2, hE⟩ := ckE hE
      refine r_getR rfl (fl_11_81 rfl) (Or.inr ⟨_, rfl⟩) rfl hk2 ?_
      refine r_iconst 1 rfl ci_1 ?_
      refine r_aload_n (t := some a0) 0 rfl rfl rfl ?_
      refine r_getR rfl (fl_11_13 rfl) (Or.inr ⟨_, rfl⟩) rfl hk2 ?_
      refine r_iconst 1 rfl ci_1 ?_
      obtain ⟨a_3, ha4, hE⟩ := bnE hE
      obtain ⟨hk5, hE⟩ := ckE hE
      obtain ⟨hi6, hE⟩ := ckE hE
      refine r_iald rfl ha4 hk5 hi6 ?_
      obtain ⟨a_7, ha8, hE⟩ := bnE hE
      obtain ⟨hk9, hE⟩ := ckE hE
      obtain ⟨hi10, hE⟩ := ckE hE
      obtain ⟨h11, he12, hE⟩ := ltE hE
      refine r_iast rfl ha8 hk9 hi10 he12 ?_
      refine r_aload_n (t := some a0) 0 rfl rfl rfl ?_
      refine r_getR rfl (fl_11_81 rfl) (Or.inr ⟨_, rfl⟩) rfl (kwI he12 hk2) ?_
      refine r_iconst 2 rfl ci_2 ?_
      refine r_aload_n (t := some a0) 0 rfl rfl rfl ?_
      refine r_getR rfl (fl_11_13 rfl) (Or.inr ⟨_, rfl⟩) rfl (kwI he12 hk2) ?_
      refine r_iconst 2 rfl ci_2 ?_
      obtain ⟨a_13, ha14, hE⟩ := bnE hE
      obtain ⟨hk15, hE⟩ := ckE hE
      obtain ⟨hi16, hE⟩ := ckE hE
      refine r_iald rfl ha14 hk15 hi16 ?_
      obtain ⟨a_17, ha18, hE⟩ := bnE hE
      obtain ⟨hk19, hE⟩ := ckE hE
      obtain ⟨hi20, hE⟩ := ckE hE
      obtain ⟨h21, he22, hE⟩ := ltE hE
      refine r_iast rfl ha18 hk19 hi20 he22 ?_
      refine r_aload_n (t := some a0) 0 rfl rfl rfl ?_
      refine r_getR rfl (fl_11_81 rfl) (Or.inr ⟨_, rfl⟩) rfl (kwI he22 (kwI he12 hk2)) ?_
      refine r_bipush 13 rfl cb_13 ?_
      refine r_aload_n (t := some a0) 0 rfl rfl rfl ?_
      refine r_getR rfl (fl_11_13 rfl) (Or.inr ⟨_, rfl⟩) rfl (kwI he22 (kwI he12 hk2)) ?_
      refine r_bipush 13 rfl cb_13 ?_
      obtain ⟨a_23, ha24, hE⟩ := bnE hE
      obtain ⟨hk25, hE⟩ := ckE hE
      obtain ⟨hi26, hE⟩ := ckE hE
      refine r_iald rfl ha24 hk25 hi26 ?_
      refine r_ldcw rfl kc_11_302 ?_
      refine r_imul rfl ?_
      obtain ⟨a_27, ha28, hE⟩ := bnE hE
      obtain ⟨hk29, hE⟩ := ckE hE
      obtain ⟨hi30, hE⟩ := ckE hE
      obtain ⟨h31, he32, hE⟩ := ltE hE
      refine r_iast rfl ha28 hk29 hi30 he32 ?_
      cases hE
      exact r_ret rfl (Or.inr (Or.inr (Or.inr ⟨rfl, rfl, rfl, rfl⟩)))
    · have hE := ifN hc1 hE
      refine r_aload_n (t := some a0) 0 rfl rfl rfl ?_
      obtain ⟨hk33, hE⟩ := ckE hE
      refine r_getR rfl (fl_11_81 rfl) (Or.inr ⟨_, rfl⟩) rfl hk33 ?_
      refine r_iload_n 1 rfl rfl rfl ?_
      refine r_iconst 0 rfl ci_0 ?_
      obtain ⟨a_34, ha35, hE⟩ := bnE hE
      obtain ⟨hk36, hE⟩ := ckE hE
      obtain ⟨hi37, hE⟩ := ckE hE
      obtain ⟨h38, he39, hE⟩ := ltE hE
      refine r_iast rfl ha35 hk36 hi37 he39 ?_
      refine r_iinc _ rfl rfl (congrArg _ ci_1) (by decide) ?_
      refine r_goto (tgt := 2) rfl (by decide) ?_
      first | exact r_sb (ih _ _ _ _ _ hE) ⟨rfl, rfl, trivial⟩ | exact r_sb (ih _ _ _ _ _ hE) (by simp only [su1, su2, dr1_rf, dr1_in, dr1_lo, dr2_rf, dr2_in, dr2_lo]; exact ⟨rfl, rfl, trivial⟩)
def Mo_fresh (N : Nat) (a0 : Nat) (h : PH) : Option (Unit × PH) :=
  Mo_fresh_b2 N N a0 0 h
set_option maxRecDepth 20000 in
theorem Mo_fresh_ok (g : GT) (N : Nat) (a0 : Nat) (h : PH) (v : Unit) (h' : PH) (hE : Mo_fresh N a0 h = some (v, h')) (D : Nat) (hD : 0 ≤ D) : Calls g D pMo_fresh [va_rf (some a0)] h (oV v) h' := by
  refine Calls.of cok_Mo_fresh ht_Mo_fresh pl_Mo_fresh (fun ad => by rw [lg_len, sL_cat]; simp only [List.map_cons, List.map_nil, rf_cat, cat_i, cat_l, List.sum_cons, List.sum_nil]; decide) ?_
  rw [show lv_args 0 [va_rf (some a0)] = [(0, va_rf (some a0))] from (by simp only [lv_args, rf_cat, cat_i, cat_l]; try rfl)]
  unfold Mo_fresh at hE
  refine r_iconst 0 rfl ci_0 ?_
  refine r_istore_n 1 rfl rfl (by decide) ?_
  first | exact r_sb (Mo_fresh_b2_ok g N _ hD  N _ _ _ _ _ hE) ⟨rfl, rfl, trivial⟩ | exact r_sb (Mo_fresh_b2_ok g N _ hD  N _ _ _ _ _ hE) (by simp only [su1, su2, dr1_rf, dr1_in, dr1_lo, dr2_rf, dr2_in, dr2_lo]; exact ⟨rfl, rfl, trivial⟩)
def Mo_init (N : Nat) (a0 : Nat) (h : PH) : Option (Unit × PH) :=
  ck (nb 1000 = true) <|
  lt0 (nw h (20, ix 1000) (ix 1000)) fun h2 =>
  ck ((hK h2 a0).1 = 11) <|
  lt0 (wR h2 a0 2 (some (hN h))) fun h5 =>
  ck (nb 36 = true) <|
  lt0 (nw h5 (20, ix 36) (ix 36)) fun h8 =>
  ck ((hK h8 a0).1 = 11) <|
  lt0 (wR h8 a0 10 (some (hN h5))) fun h11 =>
  ck (nb 192 = true) <|
  lt0 (nw h11 (20, ix 192) (ix 192)) fun h14 =>
  ck ((hK h14 a0).1 = 11) <|
  lt0 (wR h14 a0 11 (some (hN h11))) fun h17 =>
  ck (nb 48 = true) <|
  lt0 (nw h17 (21, ix 48) (ix 48)) fun h20 =>
  ck ((hK h20 a0).1 = 11) <|
  lt0 (wR h20 a0 12 (some (hN h17))) fun h23 =>
  ck (nb 4 = true) <|
  lt0 (nw h23 (23, ix 4) (ix 4)) fun h26 =>
  ck ((hK h26 a0).1 = 11) <|
  lt0 (wR h26 a0 13 (some (hN h23))) fun h29 =>
  ck (nb 8 = true) <|
  lt0 (nw h29 (20, ix 8) (ix 8)) fun h32 =>
  ck ((hK h32 a0).1 = 11) <|
  lt0 (wR h32 a0 14 (some (hN h29))) fun h35 =>
  ck (nb 8 = true) <|
  lt0 (nw h35 (20, ix 8) (ix 8)) fun h38 =>
  ck ((hK h38 a0).1 = 11) <|
  lt0 (wR h38 a0 15 (some (hN h35))) fun h41 =>
  ck (nb 2000 = true) <|
  lt0 (nw h41 (20, ix 2000) (ix 2000)) fun h44 =>
  ck ((hK h44 a0).1 = 11) <|
  lt0 (wR h44 a0 16 (some (hN h41))) fun h47 =>
  ck (nb 7 = true) <|
  lt0 (nw h47 (20, ix 7) (ix 7)) fun h50 =>
  ck ((hK h50 a0).1 = 11) <|
  lt0 (wR h50 a0 19 (some (hN h47))) fun h53 =>
  ck (nb 7 = true) <|
  lt0 (nw h53 (21, ix 7) (ix 7)) fun h56 =>
  ck ((hK h56 a0).1 = 11) <|
  lt0 (wR h56 a0 20 (some (hN h53))) fun h59 =>
  ck (nb 7 = true) <|
  lt0 (nw h59 (20, ix 7) (ix 7)) fun h62 =>
  ck ((hK h62 a0).1 = 11) <|
  lt0 (wR h62 a0 21 (some (hN h59))) fun h65 =>
  ck (nb 7 = true) <|
  lt0 (nw h65 (20, ix 7) (ix 7)) fun h68 =>
  ck ((hK h68 a0).1 = 11) <|
  lt0 (wR h68 a0 22 (some (hN h65))) fun h71 =>
  ck (nb 7 = true) <|
  lt0 (nw h71 (20, ix 7) (ix 7)) fun h74 =>
  ck ((hK h74 a0).1 = 11) <|
  lt0 (wR h74 a0 23 (some (hN h71))) fun h77 =>
  ck (nb 7 = true) <|
  lt0 (nw h77 (20, ix 7) (ix 7)) fun h80 =>
  ck ((hK h80 a0).1 = 11) <|
  lt0 (wR h80 a0 24 (some (hN h77))) fun h83 =>
  ck (nb 7 = true) <|
  lt0 (nw h83 (20, ix 7) (ix 7)) fun h86 =>
  ck ((hK h86 a0).1 = 11) <|
  lt0 (wR h86 a0 25 (some (hN h83))) fun h89 =>
  ck (nb 7 = true) <|
  lt0 (nw h89 (20, ix 7) (ix 7)) fun h92 =>
  ck ((hK h92 a0).1 = 11) <|
  lt0 (wR h92 a0 26 (some (hN h89))) fun h95 =>
  ck (nb 7 = true) <|
  lt0 (nw h95 (20, ix 7) (ix 7)) fun h98 =>
  ck ((hK h98 a0).1 = 11) <|
  lt0 (wR h98 a0 27 (some (hN h95))) fun h101 =>
  ck (nb 7 = true) <|
  lt0 (nw h101 (20, ix 7) (ix 7)) fun h104 =>
  ck ((hK h104 a0).1 = 11) <|
  lt0 (wR h104 a0 28 (some (hN h101))) fun h107 =>
  ck (nb 7 = true) <|
  lt0 (nw h107 (20, ix 7) (ix 7)) fun h110 =>
  ck ((hK h110 a0).1 = 11) <|
  lt0 (wR h110 a0 29 (some (hN h107))) fun h113 =>
  ck (nb 20 = true) <|
  lt0 (nw h113 (20, ix 20) (ix 20)) fun h116 =>
  ck ((hK h116 a0).1 = 11) <|
  lt0 (wR h116 a0 30 (some (hN h113))) fun h119 =>
  ck (nb 6 = true) <|
  lt0 (nw h119 (20, ix 6) (ix 6)) fun h122 =>
  ck ((hK h122 a0).1 = 11) <|
  lt0 (wR h122 a0 32 (some (hN h119))) fun h125 =>
  ck (nb 360 = true) <|
  lt0 (nw h125 (20, ix 360) (ix 360)) fun h128 =>
  ck ((hK h128 a0).1 = 11) <|
  lt0 (wR h128 a0 33 (some (hN h125))) fun h131 =>
  ck (nb 360 = true) <|
  lt0 (nw h131 (20, ix 360) (ix 360)) fun h134 =>
  ck ((hK h134 a0).1 = 11) <|
  lt0 (wR h134 a0 34 (some (hN h131))) fun h137 =>
  ck (nb 14 = true) <|
  lt0 (nw h137 (20, ix 14) (ix 14)) fun h140 =>
  ck ((hK h140 a0).1 = 11) <|
  lt0 (wR h140 a0 35 (some (hN h137))) fun h143 =>
  ck (nb 14 = true) <|
  lt0 (nw h143 (20, ix 14) (ix 14)) fun h146 =>
  ck ((hK h146 a0).1 = 11) <|
  lt0 (wR h146 a0 36 (some (hN h143))) fun h149 =>
  ck (nb 56 = true) <|
  lt0 (nw h149 (20, ix 56) (ix 56)) fun h152 =>
  ck ((hK h152 a0).1 = 11) <|
  lt0 (wR h152 a0 37 (some (hN h149))) fun h155 =>
  ck (nb 224 = true) <|
  lt0 (nw h155 (20, ix 224) (ix 224)) fun h158 =>
  ck ((hK h158 a0).1 = 11) <|
  lt0 (wR h158 a0 38 (some (hN h155))) fun h161 =>
  ck (nb 4 = true) <|
  lt0 (nw h161 (21, ix 4) (ix 4)) fun h164 =>
  ck ((hK h164 a0).1 = 11) <|
  lt0 (wR h164 a0 39 (some (hN h161))) fun h167 =>
  ck (nb 78650 = true) <|
  lt0 (nw h167 (20, ix 78650) (ix 78650)) fun h170 =>
  ck ((hK h170 a0).1 = 11) <|
  lt0 (wR h170 a0 44 (some (hN h167))) fun h173 =>
  ck (nb 6025 = true) <|
  lt0 (nw h173 (20, ix 6025) (ix 6025)) fun h176 =>
  ck ((hK h176 a0).1 = 11) <|
  lt0 (wR h176 a0 48 (some (hN h173))) fun h179 =>
  ck (nb 7 = true) <|
  lt0 (nw h179 (20, ix 7) (ix 7)) fun h182 =>
  ck ((hK h182 a0).1 = 11) <|
  lt0 (wR h182 a0 49 (some (hN h179))) fun h185 =>
  ck (nb 23474 = true) <|
  lt0 (nw h185 (23, ix 23474) (ix 23474)) fun h188 =>
  ck ((hK h188 a0).1 = 11) <|
  lt0 (wR h188 a0 51 (some (hN h185))) fun h191 =>
  ck (nb 23474 = true) <|
  lt0 (nw h191 (23, ix 23474) (ix 23474)) fun h194 =>
  ck ((hK h194 a0).1 = 11) <|
  lt0 (wR h194 a0 52 (some (hN h191))) fun h197 =>
  bd (Mo_plain N a0 0 h197) fun v199 h200 =>
  ck ((hK h200 a0).1 = 11) <|
  bd (Mo_fresh N a0 h200) fun v203 h204 =>
  some ((), h204)
set_option maxRecDepth 20000 in
theorem Mo_init_ok (g : GT) (N : Nat) (a0 : Nat) (h : PH) (v : Unit) (h' : PH) (hE : Mo_init N a0 h = some (v, h')) (D : Nat) (hD : 1 ≤ D) : Calls g D pMo_init [va_rf (some a0)] h (oV v) h' := by
  refine Calls.of cok_Mo_init ht_Mo_init pl_Mo_init (fun ad => by rw [lg_len, sL_cat]; simp only [List.map_cons, List.map_nil, rf_cat, cat_i, cat_l, List.sum_cons, List.sum_nil]; decide) ?_
  rw [show lv_args 0 [va_rf (some a0)] = [(0, va_rf (some a0))] from (by simp only [lv_args, rf_cat, cat_i, cat_l]; try rfl)]
  obtain ⟨D2, rfl⟩ : ∃ d, D = d + 1 := ⟨D - 1, by omega⟩
  unfold Mo_init at hE
  refine r_aload_n (t := some a0) 0 rfl rfl rfl ?_
  refine r_objinit rfl rfl (gt6 98 rfl rfl) oi_1 oi_2 (by decide) ?_
  refine r_aload_n (t := some a0) 0 rfl rfl rfl ?_
  refine r_sipush 1000 rfl cs_1000 ?_
  obtain ⟨hc1, hE⟩ := ckE hE
  obtain ⟨h2, he3, hE⟩ := ltE hE
  refine r_newa (kd := 20) rfl (by decide) (by decide) rfl aw_20 hc1 he3 ?_
  obtain ⟨hk4, hE⟩ := ckE hE
  obtain ⟨h5, he6, hE⟩ := ltE hE
  refine r_putR rfl (fl_11_7 rfl) (Or.inr ⟨_, rfl⟩) (fun _ => ⟨rfl, _, _, rfl⟩) rfl hk4 he6 ?_
  refine r_aload_n (t := some a0) 0 rfl rfl rfl ?_
  refine r_bipush 36 rfl cb_36 ?_
  obtain ⟨hc7, hE⟩ := ckE hE
  obtain ⟨h8, he9, hE⟩ := ltE hE
  refine r_newa (kd := 20) rfl (by decide) (by decide) rfl aw_20 hc7 he9 ?_
  obtain ⟨hk10, hE⟩ := ckE hE
  obtain ⟨h11, he12, hE⟩ := ltE hE
  refine r_putR rfl (fl_11_13 rfl) (Or.inr ⟨_, rfl⟩) (fun _ => ⟨rfl, _, _, rfl⟩) rfl hk10 he12 ?_
  refine r_aload_n (t := some a0) 0 rfl rfl rfl ?_
  refine r_sipush 192 rfl cs_192 ?_
  obtain ⟨hc13, hE⟩ := ckE hE
  obtain ⟨h14, he15, hE⟩ := ltE hE
  refine r_newa (kd := 20) rfl (by decide) (by decide) rfl aw_20 hc13 he15 ?_
  obtain ⟨hk16, hE⟩ := ckE hE
  obtain ⟨h17, he18, hE⟩ := ltE hE
  refine r_putR rfl (fl_11_16 rfl) (Or.inr ⟨_, rfl⟩) (fun _ => ⟨rfl, _, _, rfl⟩) rfl hk16 he18 ?_
  refine r_aload_n (t := some a0) 0 rfl rfl rfl ?_
  refine r_bipush 48 rfl cb_48 ?_
  obtain ⟨hc19, hE⟩ := ckE hE
  obtain ⟨h20, he21, hE⟩ := ltE hE
  refine r_newa (kd := 21) rfl (by decide) (by decide) rfl aw_21 hc19 he21 ?_
  obtain ⟨hk22, hE⟩ := ckE hE
  obtain ⟨h23, he24, hE⟩ := ltE hE
  refine r_putR rfl (fl_11_19 rfl) (Or.inr ⟨_, rfl⟩) (fun _ => ⟨rfl, _, _, rfl⟩) rfl hk22 he24 ?_
  refine r_aload_n (t := some a0) 0 rfl rfl rfl ?_
  refine r_iconst 4 rfl ci_4 ?_
  obtain ⟨hc25, hE⟩ := ckE hE
  obtain ⟨h26, he27, hE⟩ := ltE hE
  refine r_newa (kd := 23) rfl (by decide) (by decide) rfl aw_23 hc25 he27 ?_
  obtain ⟨hk28, hE⟩ := ckE hE
  obtain ⟨h29, he30, hE⟩ := ltE hE
  refine r_putR rfl (fl_11_23 rfl) (Or.inr ⟨_, rfl⟩) (fun _ => ⟨rfl, _, _, rfl⟩) rfl hk28 he30 ?_
  refine r_aload_n (t := some a0) 0 rfl rfl rfl ?_
  refine r_bipush 8 rfl cb_8 ?_
  obtain ⟨hc31, hE⟩ := ckE hE
  obtain ⟨h32, he33, hE⟩ := ltE hE
  refine r_newa (kd := 20) rfl (by decide) (by decide) rfl aw_20 hc31 he33 ?_
  obtain ⟨hk34, hE⟩ := ckE hE
  obtain ⟨h35, he36, hE⟩ := ltE hE
  refine r_putR rfl (fl_11_27 rfl) (Or.inr ⟨_, rfl⟩) (fun _ => ⟨rfl, _, _, rfl⟩) rfl hk34 he36 ?_
  refine r_aload_n (t := some a0) 0 rfl rfl rfl ?_
  refine r_bipush 8 rfl cb_8 ?_
  obtain ⟨hc37, hE⟩ := ckE hE
  obtain ⟨h38, he39, hE⟩ := ltE hE
  refine r_newa (kd := 20) rfl (by decide) (by decide) rfl aw_20 hc37 he39 ?_
  obtain ⟨hk40, hE⟩ := ckE hE
  obtain ⟨h41, he42, hE⟩ := ltE hE
  refine r_putR rfl (fl_11_30 rfl) (Or.inr ⟨_, rfl⟩) (fun _ => ⟨rfl, _, _, rfl⟩) rfl hk40 he42 ?_
  refine r_aload_n (t := some a0) 0 rfl rfl rfl ?_
  refine r_sipush 2000 rfl cs_2000 ?_
  obtain ⟨hc43, hE⟩ := ckE hE
  obtain ⟨h44, he45, hE⟩ := ltE hE
  refine r_newa (kd := 20) rfl (by decide) (by decide) rfl aw_20 hc43 he45 ?_
  obtain ⟨hk46, hE⟩ := ckE hE
  obtain ⟨h47, he48, hE⟩ := ltE hE
  refine r_putR rfl (fl_11_33 rfl) (Or.inr ⟨_, rfl⟩) (fun _ => ⟨rfl, _, _, rfl⟩) rfl hk46 he48 ?_
  refine r_aload_n (t := some a0) 0 rfl rfl rfl ?_
  refine r_bipush 7 rfl cb_7 ?_
  obtain ⟨hc49, hE⟩ := ckE hE
  obtain ⟨h50, he51, hE⟩ := ltE hE
  refine r_newa (kd := 20) rfl (by decide) (by decide) rfl aw_20 hc49 he51 ?_
  obtain ⟨hk52, hE⟩ := ckE hE
  obtain ⟨h53, he54, hE⟩ := ltE hE
  refine r_putR rfl (fl_11_36 rfl) (Or.inr ⟨_, rfl⟩) (fun _ => ⟨rfl, _, _, rfl⟩) rfl hk52 he54 ?_
  refine r_aload_n (t := some a0) 0 rfl rfl rfl ?_
  refine r_bipush 7 rfl cb_7 ?_
  obtain ⟨hc55, hE⟩ := ckE hE
  obtain ⟨h56, he57, hE⟩ := ltE hE
  refine r_newa (kd := 21) rfl (by decide) (by decide) rfl aw_21 hc55 he57 ?_
  obtain ⟨hk58, hE⟩ := ckE hE
  obtain ⟨h59, he60, hE⟩ := ltE hE
  refine r_putR rfl (fl_11_39 rfl) (Or.inr ⟨_, rfl⟩) (fun _ => ⟨rfl, _, _, rfl⟩) rfl hk58 he60 ?_
  refine r_aload_n (t := some a0) 0 rfl rfl rfl ?_
  refine r_bipush 7 rfl cb_7 ?_
  obtain ⟨hc61, hE⟩ := ckE hE
  obtain ⟨h62, he63, hE⟩ := ltE hE
  refine r_newa (kd := 20) rfl (by decide) (by decide) rfl aw_20 hc61 he63 ?_
  obtain ⟨hk64, hE⟩ := ckE hE
  obtain ⟨h65, he66, hE⟩ := ltE hE
  refine r_putR rfl (fl_11_42 rfl) (Or.inr ⟨_, rfl⟩) (fun _ => ⟨rfl, _, _, rfl⟩) rfl hk64 he66 ?_
  refine r_aload_n (t := some a0) 0 rfl rfl rfl ?_
  refine r_bipush 7 rfl cb_7 ?_
  obtain ⟨hc67, hE⟩ := ckE hE
  obtain ⟨h68, he69, hE⟩ := ltE hE
  refine r_newa (kd := 20) rfl (by decide) (by decide) rfl aw_20 hc67 he69 ?_
  obtain ⟨hk70, hE⟩ := ckE hE
  obtain ⟨h71, he72, hE⟩ := ltE hE
  refine r_putR rfl (fl_11_45 rfl) (Or.inr ⟨_, rfl⟩) (fun _ => ⟨rfl, _, _, rfl⟩) rfl hk70 he72 ?_
  refine r_aload_n (t := some a0) 0 rfl rfl rfl ?_
  refine r_bipush 7 rfl cb_7 ?_
  obtain ⟨hc73, hE⟩ := ckE hE
  obtain ⟨h74, he75, hE⟩ := ltE hE
  refine r_newa (kd := 20) rfl (by decide) (by decide) rfl aw_20 hc73 he75 ?_
  obtain ⟨hk76, hE⟩ := ckE hE
  obtain ⟨h77, he78, hE⟩ := ltE hE
  refine r_putR rfl (fl_11_48 rfl) (Or.inr ⟨_, rfl⟩) (fun _ => ⟨rfl, _, _, rfl⟩) rfl hk76 he78 ?_
  refine r_aload_n (t := some a0) 0 rfl rfl rfl ?_
  refine r_bipush 7 rfl cb_7 ?_
  obtain ⟨hc79, hE⟩ := ckE hE
  obtain ⟨h80, he81, hE⟩ := ltE hE
  refine r_newa (kd := 20) rfl (by decide) (by decide) rfl aw_20 hc79 he81 ?_
  obtain ⟨hk82, hE⟩ := ckE hE
  obtain ⟨h83, he84, hE⟩ := ltE hE
  refine r_putR rfl (fl_11_51 rfl) (Or.inr ⟨_, rfl⟩) (fun _ => ⟨rfl, _, _, rfl⟩) rfl hk82 he84 ?_
  refine r_aload_n (t := some a0) 0 rfl rfl rfl ?_
  refine r_bipush 7 rfl cb_7 ?_
  obtain ⟨hc85, hE⟩ := ckE hE
  obtain ⟨h86, he87, hE⟩ := ltE hE
  refine r_newa (kd := 20) rfl (by decide) (by decide) rfl aw_20 hc85 he87 ?_
  obtain ⟨hk88, hE⟩ := ckE hE
  obtain ⟨h89, he90, hE⟩ := ltE hE
  refine r_putR rfl (fl_11_54 rfl) (Or.inr ⟨_, rfl⟩) (fun _ => ⟨rfl, _, _, rfl⟩) rfl hk88 he90 ?_
  refine r_aload_n (t := some a0) 0 rfl rfl rfl ?_
  refine r_bipush 7 rfl cb_7 ?_
  obtain ⟨hc91, hE⟩ := ckE hE
  obtain ⟨h92, he93, hE⟩ := ltE hE
  refine r_newa (kd := 20) rfl (by decide) (by decide) rfl aw_20 hc91 he93 ?_
  obtain ⟨hk94, hE⟩ := ckE hE
  obtain ⟨h95, he96, hE⟩ := ltE hE
  refine r_putR rfl (fl_11_57 rfl) (Or.inr ⟨_, rfl⟩) (fun _ => ⟨rfl, _, _, rfl⟩) rfl hk94 he96 ?_
  refine r_aload_n (t := some a0) 0 rfl rfl rfl ?_
  refine r_bipush 7 rfl cb_7 ?_
  obtain ⟨hc97, hE⟩ := ckE hE
  obtain ⟨h98, he99, hE⟩ := ltE hE
  refine r_newa (kd := 20) rfl (by decide) (by decide) rfl aw_20 hc97 he99 ?_
  obtain ⟨hk100, hE⟩ := ckE hE
  obtain ⟨h101, he102, hE⟩ := ltE hE
  refine r_putR rfl (fl_11_60 rfl) (Or.inr ⟨_, rfl⟩) (fun _ => ⟨rfl, _, _, rfl⟩) rfl hk100 he102 ?_
  refine r_aload_n (t := some a0) 0 rfl rfl rfl ?_
  refine r_bipush 7 rfl cb_7 ?_
  obtain ⟨hc103, hE⟩ := ckE hE
  obtain ⟨h104, he105, hE⟩ := ltE hE
  refine r_newa (kd := 20) rfl (by decide) (by decide) rfl aw_20 hc103 he105 ?_
  obtain ⟨hk106, hE⟩ := ckE hE
  obtain ⟨h107, he108, hE⟩ := ltE hE
  refine r_putR rfl (fl_11_63 rfl) (Or.inr ⟨_, rfl⟩) (fun _ => ⟨rfl, _, _, rfl⟩) rfl hk106 he108 ?_
  refine r_aload_n (t := some a0) 0 rfl rfl rfl ?_
  refine r_bipush 7 rfl cb_7 ?_
  obtain ⟨hc109, hE⟩ := ckE hE
  obtain ⟨h110, he111, hE⟩ := ltE hE
  refine r_newa (kd := 20) rfl (by decide) (by decide) rfl aw_20 hc109 he111 ?_
  obtain ⟨hk112, hE⟩ := ckE hE
  obtain ⟨h113, he114, hE⟩ := ltE hE
  refine r_putR rfl (fl_11_66 rfl) (Or.inr ⟨_, rfl⟩) (fun _ => ⟨rfl, _, _, rfl⟩) rfl hk112 he114 ?_
  refine r_aload_n (t := some a0) 0 rfl rfl rfl ?_
  refine r_bipush 20 rfl cb_20 ?_
  obtain ⟨hc115, hE⟩ := ckE hE
  obtain ⟨h116, he117, hE⟩ := ltE hE
  refine r_newa (kd := 20) rfl (by decide) (by decide) rfl aw_20 hc115 he117 ?_
  obtain ⟨hk118, hE⟩ := ckE hE
  obtain ⟨h119, he120, hE⟩ := ltE hE
  refine r_putR rfl (fl_11_69 rfl) (Or.inr ⟨_, rfl⟩) (fun _ => ⟨rfl, _, _, rfl⟩) rfl hk118 he120 ?_
  refine r_aload_n (t := some a0) 0 rfl rfl rfl ?_
  refine r_bipush 6 rfl cb_6 ?_
  obtain ⟨hc121, hE⟩ := ckE hE
  obtain ⟨h122, he123, hE⟩ := ltE hE
  refine r_newa (kd := 20) rfl (by decide) (by decide) rfl aw_20 hc121 he123 ?_
  obtain ⟨hk124, hE⟩ := ckE hE
  obtain ⟨h125, he126, hE⟩ := ltE hE
  refine r_putR rfl (fl_11_72 rfl) (Or.inr ⟨_, rfl⟩) (fun _ => ⟨rfl, _, _, rfl⟩) rfl hk124 he126 ?_
  refine r_aload_n (t := some a0) 0 rfl rfl rfl ?_
  refine r_sipush 360 rfl cs_360 ?_
  obtain ⟨hc127, hE⟩ := ckE hE
  obtain ⟨h128, he129, hE⟩ := ltE hE
  refine r_newa (kd := 20) rfl (by decide) (by decide) rfl aw_20 hc127 he129 ?_
  obtain ⟨hk130, hE⟩ := ckE hE
  obtain ⟨h131, he132, hE⟩ := ltE hE
  refine r_putR rfl (fl_11_75 rfl) (Or.inr ⟨_, rfl⟩) (fun _ => ⟨rfl, _, _, rfl⟩) rfl hk130 he132 ?_
  refine r_aload_n (t := some a0) 0 rfl rfl rfl ?_
  refine r_sipush 360 rfl cs_360 ?_
  obtain ⟨hc133, hE⟩ := ckE hE
  obtain ⟨h134, he135, hE⟩ := ltE hE
  refine r_newa (kd := 20) rfl (by decide) (by decide) rfl aw_20 hc133 he135 ?_
  obtain ⟨hk136, hE⟩ := ckE hE
  obtain ⟨h137, he138, hE⟩ := ltE hE
  refine r_putR rfl (fl_11_78 rfl) (Or.inr ⟨_, rfl⟩) (fun _ => ⟨rfl, _, _, rfl⟩) rfl hk136 he138 ?_
  refine r_aload_n (t := some a0) 0 rfl rfl rfl ?_
  refine r_bipush 14 rfl cb_14 ?_
  obtain ⟨hc139, hE⟩ := ckE hE
  obtain ⟨h140, he141, hE⟩ := ltE hE
  refine r_newa (kd := 20) rfl (by decide) (by decide) rfl aw_20 hc139 he141 ?_
  obtain ⟨hk142, hE⟩ := ckE hE
  obtain ⟨h143, he144, hE⟩ := ltE hE
  refine r_putR rfl (fl_11_81 rfl) (Or.inr ⟨_, rfl⟩) (fun _ => ⟨rfl, _, _, rfl⟩) rfl hk142 he144 ?_
  refine r_aload_n (t := some a0) 0 rfl rfl rfl ?_
  refine r_bipush 14 rfl cb_14 ?_
  obtain ⟨hc145, hE⟩ := ckE hE
  obtain ⟨h146, he147, hE⟩ := ltE hE
  refine r_newa (kd := 20) rfl (by decide) (by decide) rfl aw_20 hc145 he147 ?_
  obtain ⟨hk148, hE⟩ := ckE hE
  obtain ⟨h149, he150, hE⟩ := ltE hE
  refine r_putR rfl (fl_11_84 rfl) (Or.inr ⟨_, rfl⟩) (fun _ => ⟨rfl, _, _, rfl⟩) rfl hk148 he150 ?_
  refine r_aload_n (t := some a0) 0 rfl rfl rfl ?_
  refine r_bipush 56 rfl cb_56 ?_
  obtain ⟨hc151, hE⟩ := ckE hE
  obtain ⟨h152, he153, hE⟩ := ltE hE
  refine r_newa (kd := 20) rfl (by decide) (by decide) rfl aw_20 hc151 he153 ?_
  obtain ⟨hk154, hE⟩ := ckE hE
  obtain ⟨h155, he156, hE⟩ := ltE hE
  refine r_putR rfl (fl_11_87 rfl) (Or.inr ⟨_, rfl⟩) (fun _ => ⟨rfl, _, _, rfl⟩) rfl hk154 he156 ?_
  refine r_aload_n (t := some a0) 0 rfl rfl rfl ?_
  refine r_sipush 224 rfl cs_224 ?_
  obtain ⟨hc157, hE⟩ := ckE hE
  obtain ⟨h158, he159, hE⟩ := ltE hE
  refine r_newa (kd := 20) rfl (by decide) (by decide) rfl aw_20 hc157 he159 ?_
  obtain ⟨hk160, hE⟩ := ckE hE
  obtain ⟨h161, he162, hE⟩ := ltE hE
  refine r_putR rfl (fl_11_90 rfl) (Or.inr ⟨_, rfl⟩) (fun _ => ⟨rfl, _, _, rfl⟩) rfl hk160 he162 ?_
  refine r_aload_n (t := some a0) 0 rfl rfl rfl ?_
  refine r_iconst 4 rfl ci_4 ?_
  obtain ⟨hc163, hE⟩ := ckE hE
  obtain ⟨h164, he165, hE⟩ := ltE hE
  refine r_newa (kd := 21) rfl (by decide) (by decide) rfl aw_21 hc163 he165 ?_
  obtain ⟨hk166, hE⟩ := ckE hE
  obtain ⟨h167, he168, hE⟩ := ltE hE
  refine r_putR rfl (fl_11_93 rfl) (Or.inr ⟨_, rfl⟩) (fun _ => ⟨rfl, _, _, rfl⟩) rfl hk166 he168 ?_
  refine r_aload_n (t := some a0) 0 rfl rfl rfl ?_
  refine r_ldc rfl kc_11_96 ?_
  obtain ⟨hc169, hE⟩ := ckE hE
  obtain ⟨h170, he171, hE⟩ := ltE hE
  refine r_newa (kd := 20) rfl (by decide) (by decide) rfl aw_20 hc169 he171 ?_
  obtain ⟨hk172, hE⟩ := ckE hE
  obtain ⟨h173, he174, hE⟩ := ltE hE
  refine r_putR rfl (fl_11_97 rfl) (Or.inr ⟨_, rfl⟩) (fun _ => ⟨rfl, _, _, rfl⟩) rfl hk172 he174 ?_
  refine r_aload_n (t := some a0) 0 rfl rfl rfl ?_
  refine r_sipush 6025 rfl cs_6025 ?_
  obtain ⟨hc175, hE⟩ := ckE hE
  obtain ⟨h176, he177, hE⟩ := ltE hE
  refine r_newa (kd := 20) rfl (by decide) (by decide) rfl aw_20 hc175 he177 ?_
  obtain ⟨hk178, hE⟩ := ckE hE
  obtain ⟨h179, he180, hE⟩ := ltE hE
  refine r_putR rfl (fl_11_100 rfl) (Or.inr ⟨_, rfl⟩) (fun _ => ⟨rfl, _, _, rfl⟩) rfl hk178 he180 ?_
  refine r_aload_n (t := some a0) 0 rfl rfl rfl ?_
  refine r_bipush 7 rfl cb_7 ?_
  obtain ⟨hc181, hE⟩ := ckE hE
  obtain ⟨h182, he183, hE⟩ := ltE hE
  refine r_newa (kd := 20) rfl (by decide) (by decide) rfl aw_20 hc181 he183 ?_
  obtain ⟨hk184, hE⟩ := ckE hE
  obtain ⟨h185, he186, hE⟩ := ltE hE
  refine r_putR rfl (fl_11_103 rfl) (Or.inr ⟨_, rfl⟩) (fun _ => ⟨rfl, _, _, rfl⟩) rfl hk184 he186 ?_
  refine r_aload_n (t := some a0) 0 rfl rfl rfl ?_
  refine r_sipush 23474 rfl cs_23474 ?_
  obtain ⟨hc187, hE⟩ := ckE hE
  obtain ⟨h188, he189, hE⟩ := ltE hE
  refine r_newa (kd := 23) rfl (by decide) (by decide) rfl aw_23 hc187 he189 ?_
  obtain ⟨hk190, hE⟩ := ckE hE
  obtain ⟨h191, he192, hE⟩ := ltE hE
  refine r_putR rfl (fl_11_106 rfl) (Or.inr ⟨_, rfl⟩) (fun _ => ⟨rfl, _, _, rfl⟩) rfl hk190 he192 ?_
  refine r_aload_n (t := some a0) 0 rfl rfl rfl ?_
  refine r_sipush 23474 rfl cs_23474 ?_
  obtain ⟨hc193, hE⟩ := ckE hE
  obtain ⟨h194, he195, hE⟩ := ltE hE
  refine r_newa (kd := 23) rfl (by decide) (by decide) rfl aw_23 hc193 he195 ?_
  obtain ⟨hk196, hE⟩ := ckE hE
  obtain ⟨h197, he198, hE⟩ := ltE hE
  refine r_putR rfl (fl_11_109 rfl) (Or.inr ⟨_, rfl⟩) (fun _ => ⟨rfl, _, _, rfl⟩) rfl hk196 he198 ?_
  refine r_aload_n (t := some a0) 0 rfl rfl rfl ?_
  refine r_iconst 0 rfl ci_0 ?_
  obtain ⟨v199, h200, hq201, hE⟩ := bdE hE
  refine r_callV0 (rest := []) (hc := (Mo_plain_ok g N _ _ _ _ _ hq201 D2 (by omega))) rfl pm_Mo_plain lw_11_112 im_Mo_plain sl_Mo_plain rfl rfl rfl (rcOK (kwR he198 hk196) rfl) (by decide) ?_
  refine r_aload_n (t := some a0) 0 rfl rfl rfl ?_
  obtain ⟨hk202, hE⟩ := ckE hE
  obtain ⟨v203, h204, hq205, hE⟩ := bdE hE
  refine r_callV0 (rest := []) (hc := (Mo_fresh_ok g N _ _ _ _ hq205 D2 (by omega))) rfl pm_Mo_fresh lw_11_116 im_Mo_fresh sl_Mo_fresh rfl rfl rfl (rcOK hk202 rfl) (by decide) ?_
  cases hE
  exact r_ret rfl (Or.inr (Or.inr (Or.inr ⟨rfl, rfl, rfl, rfl⟩)))
def Mo_thrown (N : Nat) (a0 : Nat) (h : PH) : Option (Int32 × PH) :=
  ck ((hK h a0).1 = 11) <|
  some ((hI h a0 0), h)
set_option maxRecDepth 20000 in
theorem Mo_thrown_ok (g : GT) (N : Nat) (a0 : Nat) (h : PH) (v : Int32) (h' : PH) (hE : Mo_thrown N a0 h = some (v, h')) (D : Nat) (hD : 0 ≤ D) : Calls g D pMo_thrown [va_rf (some a0)] h (oI v) h' := by
  refine Calls.of cok_Mo_thrown ht_Mo_thrown pl_Mo_thrown (fun ad => by rw [lg_len, sL_cat]; simp only [List.map_cons, List.map_nil, rf_cat, cat_i, cat_l, List.sum_cons, List.sum_nil]; decide) ?_
  rw [show lv_args 0 [va_rf (some a0)] = [(0, va_rf (some a0))] from (by simp only [lv_args, rf_cat, cat_i, cat_l]; try rfl)]
  unfold Mo_thrown at hE
  refine r_aload_n (t := some a0) 0 rfl rfl rfl ?_
  obtain ⟨hk1, hE⟩ := ckE hE
  refine r_getI rfl (fl_11_119 rfl) (Or.inl rfl) rfl hk1 ?_
  cases hE
  exact r_ret rfl (Or.inl ⟨rfl, _, _, rfl, rfl, rfl, rfl⟩)
def Mo_feed_b114 (N : Nat) (self_8 : Nat → Int64 → Int64 → Int64 → Int32 → PH → Option (Int32 × PH)) (a0 : Nat) (x1 : Int64) (x3 : Int64) (x5 : Int64) (x7 : Int32) (h : PH) : Option (Int32 × PH) :=
  self_8 a0 x1 x3 x5 (x7 + 1) h
set_option maxRecDepth 20000 in
theorem Mo_feed_b114_ok (g : GT) (N : Nat) (D : Nat) (hD : 0 ≤ D) (self_8 : Nat → Int64 → Int64 → Int64 → Int32 → PH → Option (Int32 × PH)) (hself_8 : ∀ (a0 : Nat) (x1 : Int64) (x3 : Int64) (x5 : Int64) (x7 : Int32) (h : PH) (v : Int32) (h' : PH), self_8 a0 x1 x3 x5 x7 h = some (v, h') → Run g pMo_feed D 8 [(0, va_rf (some a0)), (1, .long x1), (3, .long x3), (5, .long x5), (7, .int x7)] [] h (rI v) h') : ∀ (a0 : Nat) (x1 : Int64) (x3 : Int64) (x5 : Int64) (x7 : Int32) (h : PH) (v : Int32) (h' : PH), Mo_feed_b114 N self_8 a0 x1 x3 x5 x7 h = some (v, h') → Run g pMo_feed D 114 [(0, va_rf (some a0)), (1, .long x1), (3, .long x3), (5, .long x5), (7, .int x7)] [] h (rI v) h' := by
  intro a0 x1 x3 x5 x7 h v h' hE
  unfold Mo_feed_b114 at hE
  refine r_iinc _ rfl rfl (congrArg _ ci_1) (by decide) ?_
  refine r_goto (tgt := 8) rfl (by decide) ?_
  first | exact r_sb (hself_8 _ _ _ _ _ _ _ _ hE) ⟨rfl, rfl, rfl, rfl, rfl, trivial⟩ | exact r_sb (hself_8 _ _ _ _ _ _ _ _ hE) (by simp only [su1, su2, dr1_rf, dr1_in, dr1_lo, dr2_rf, dr2_in, dr2_lo]; exact ⟨rfl, rfl, rfl, rfl, rfl, trivial⟩)
def Mo_feed_b93 (N : Nat) (self_8 : Nat → Int64 → Int64 → Int64 → Int32 → PH → Option (Int32 × PH)) (a0 : Nat) (x1 : Int64) (x3 : Int64) (x5 : Int64) (x7 : Int32) (x10 : Int32) (h : PH) : Option (Int32 × PH) :=
  ck ((hK h a0).1 = 11) <|
  ((hR h a0 2)).bind fun a_2 =>
  ck ((hK h a_2).1 = 20) <|
  ck (inb (hI h a0 1) (hK h a_2).2 = true) <|
  lt0 (wI h a_2 (ix (hI h a0 1)) x10) fun h6 =>
  lt0 (wI h6 a0 1 ((hI h6 a0 1) + 1)) fun h8 =>
  Mo_feed_b114 N self_8  a0 x1 x3 x5 x7 h8
set_option maxRecDepth 20000 in
theorem Mo_feed_b93_ok (g : GT) (N : Nat) (D : Nat) (hD : 0 ≤ D) (self_8 : Nat → Int64 → Int64 → Int64 → Int32 → PH → Option (Int32 × PH)) (hself_8 : ∀ (a0 : Nat) (x1 : Int64) (x3 : Int64) (x5 : Int64) (x7 : Int32) (h : PH) (v : Int32) (h' : PH), self_8 a0 x1 x3 x5 x7 h = some (v, h') → Run g pMo_feed D 8 [(0, va_rf (some a0)), (1, .long x1), (3, .long x3), (5, .long x5), (7, .int x7)] [] h (rI v) h') : ∀ (a0 : Nat) (x1 : Int64) (x3 : Int64) (x5 : Int64) (x7 : Int32) (x10 : Int32) (h : PH) (v : Int32) (h' : PH), Mo_feed_b93 N self_8 a0 x1 x3 x5 x7 x10 h = some (v, h') → Run g pMo_feed D 93 [(0, va_rf (some a0)), (1, .long x1), (3, .long x3), (5, .long x5), (7, .int x7), (10, .int x10)] [] h (rI v) h' := by
  intro a0 x1 x3 x5 x7 x10 h v h' hE
  unfold Mo_feed_b93 at hE
  refine r_aload_n (t := some a0) 0 rfl rfl rfl ?_
  obtain ⟨hk1, hE⟩ := ckE hE
  refine r_getR rfl (fl_11_7 rfl) (Or.inr ⟨_, rfl⟩) rfl hk1 ?_
  refine r_aload_n (t := some a0) 0 rfl rfl rfl ?_
  refine r_getI rfl (fl_11_125 rfl) (Or.inl rfl) rfl hk1 ?_
  refine r_iload rfl rfl ?_
  obtain ⟨a_2, ha3, hE⟩ := bnE hE
  obtain ⟨hk4, hE⟩ := ckE hE
  obtain ⟨hi5, hE⟩ := ckE hE
  obtain ⟨h6, he7, hE⟩ := ltE hE
  refine r_iast rfl ha3 hk4 hi5 he7 ?_
  refine r_aload_n (t := some a0) 0 rfl rfl rfl ?_
  refine r_dup rfl (rf_cat _) ?_
  refine r_getI rfl (fl_11_125 rfl) (Or.inl rfl) rfl (kwI he7 hk1) ?_
  refine r_iconst 1 rfl ci_1 ?_
  refine r_iadd rfl ?_
  obtain ⟨h8, he9, hE⟩ := ltE hE
  refine r_putI rfl (fl_11_125 rfl) finF rfl (kwI he7 hk1) he9 ?_
  first | exact r_sb (Mo_feed_b114_ok g N _ hD _ hself_8  _ _ _ _ _ _ _ _ hE) ⟨rfl, rfl, rfl, rfl, rfl, trivial⟩ | exact r_sb (Mo_feed_b114_ok g N _ hD _ hself_8  _ _ _ _ _ _ _ _ hE) (by simp only [su1, su2, dr1_rf, dr1_in, dr1_lo, dr2_rf, dr2_in, dr2_lo]; exact ⟨rfl, rfl, rfl, rfl, rfl, trivial⟩)
def Mo_feed_b39 (N : Nat) (self_8 : Nat → Int64 → Int64 → Int64 → Int32 → PH → Option (Int32 × PH)) (s0 : Int64) (a0 : Nat) (x1 : Int64) (x3 : Int64) (x5 : Int64) (x7 : Int32) (h : PH) : Option (Int32 × PH) :=
  ck ((hK h a0).1 = 11) <|
  if 1000 ≤ (hI h a0 1) then
    Mo_feed_b114 N self_8  a0 x1 x3 x5 x7 h
  else
    if (Int64.toInt32 (((Int64.toUInt64 s0 >>> (Int64.toUInt64 (Int32.toInt64 (56 - (8 * (x7 &&& 7)))) &&& Int64.toUInt64 63)).toInt64) &&& 255)) = 10 then
      Mo_feed_b93 N self_8  a0 x1 x3 x5 x7 (Int64.toInt32 (((Int64.toUInt64 s0 >>> (Int64.toUInt64 (Int32.toInt64 (56 - (8 * (x7 &&& 7)))) &&& Int64.toUInt64 63)).toInt64) &&& 255)) h
    else
      if (Int64.toInt32 (((Int64.toUInt64 s0 >>> (Int64.toUInt64 (Int32.toInt64 (56 - (8 * (x7 &&& 7)))) &&& Int64.toUInt64 63)).toInt64) &&& 255)) < 32 then
        Mo_feed_b114 N self_8  a0 x1 x3 x5 x7 h
      else
        if 126 < (Int64.toInt32 (((Int64.toUInt64 s0 >>> (Int64.toUInt64 (Int32.toInt64 (56 - (8 * (x7 &&& 7)))) &&& Int64.toUInt64 63)).toInt64) &&& 255)) then
          Mo_feed_b114 N self_8  a0 x1 x3 x5 x7 h
        else
          Mo_feed_b93 N self_8  a0 x1 x3 x5 x7 (Int64.toInt32 (((Int64.toUInt64 s0 >>> (Int64.toUInt64 (Int32.toInt64 (56 - (8 * (x7 &&& 7)))) &&& Int64.toUInt64 63)).toInt64) &&& 255)) h
set_option maxRecDepth 20000 in
theorem Mo_feed_b39_ok (g : GT) (N : Nat) (D : Nat) (hD : 0 ≤ D) (self_8 : Nat → Int64 → Int64 → Int64 → Int32 → PH → Option (Int32 × PH)) (hself_8 : ∀ (a0 : Nat) (x1 : Int64) (x3 : Int64) (x5 : Int64) (x7 : Int32) (h : PH) (v : Int32) (h' : PH), self_8 a0 x1 x3 x5 x7 h = some (v, h') → Run g pMo_feed D 8 [(0, va_rf (some a0)), (1, .long x1), (3, .long x3), (5, .long x5), (7, .int x7)] [] h (rI v) h') : ∀ (s0 : Int64) (a0 : Nat) (x1 : Int64) (x3 : Int64) (x5 : Int64) (x7 : Int32) (h : PH) (v : Int32) (h' : PH), Mo_feed_b39 N self_8 s0 a0 x1 x3 x5 x7 h = some (v, h') → Run g pMo_feed D 39 [(0, va_rf (some a0)), (1, .long x1), (3, .long x3), (5, .long x5), (7, .int x7)] [.long s0] h (rI v) h' := by
  intro s0 a0 x1 x3 x5 x7 h v h' hE
  unfold Mo_feed_b39 at hE
  refine r_lstore rfl (by decide) ?_
  refine r_lload rfl rfl ?_
  refine r_bipush 56 rfl cb_56 ?_
  refine r_bipush 8 rfl cb_8 ?_
  refine r_iload rfl rfl ?_
  refine r_bipush 7 rfl cb_7 ?_
  refine r_iand rfl ?_
  refine r_imul rfl ?_
  refine r_isub rfl ?_
  refine r_lushr rfl ?_
  refine r_ldc2 rfl kc_11_123 ?_
  refine r_land rfl ?_
  refine r_l2i rfl ?_
  refine r_istore rfl (by decide) ?_
  refine r_aload_n (t := some a0) 0 rfl rfl rfl ?_
  obtain ⟨hk1, hE⟩ := ckE hE
  refine r_getI rfl (fl_11_125 rfl) (Or.inl rfl) rfl hk1 ?_
  refine r_sipush 1000 rfl cs_1000 ?_
  refine r_icmp_ge (tgt := 114) rfl (by decide) (fun hc2 => ?_) (fun hc2 => ?_)
  · have hE := ifP hc2 hE
    first | exact r_sb (Mo_feed_b114_ok g N _ hD _ hself_8  _ _ _ _ _ _ _ _ hE) ⟨rfl, rfl, rfl, rfl, rfl, trivial⟩ | exact r_sb (Mo_feed_b114_ok g N _ hD _ hself_8  _ _ _ _ _ _ _ _ hE) (by simp only [su1, su2, dr1_rf, dr1_in, dr1_lo, dr2_rf, dr2_in, dr2_lo]; exact ⟨rfl, rfl, rfl, rfl, rfl, trivial⟩)
  · have hE := ifN hc2 hE
    refine r_iload rfl rfl ?_
    refine r_bipush 10 rfl cb_10 ?_
    refine r_icmp_eq (tgt := 93) rfl (by decide) (fun hc3 => ?_) (fun hc3 => ?_)
    · have hE := ifP hc3 hE
      first | exact r_sb (Mo_feed_b93_ok g N _ hD _ hself_8  _ _ _ _ _ _ _ _ _ hE) ⟨rfl, rfl, rfl, rfl, rfl, rfl, trivial⟩ | exact r_sb (Mo_feed_b93_ok g N _ hD _ hself_8  _ _ _ _ _ _ _ _ _ hE) (by simp only [su1, su2, dr1_rf, dr1_in, dr1_lo, dr2_rf, dr2_in, dr2_lo]; exact ⟨rfl, rfl, rfl, rfl, rfl, rfl, trivial⟩)
    · have hE := ifN hc3 hE
      refine r_iload rfl rfl ?_
      refine r_bipush 32 rfl cb_32 ?_
      refine r_icmp_lt (tgt := 114) rfl (by decide) (fun hc4 => ?_) (fun hc4 => ?_)
      · have hE := ifP hc4 hE
        first | exact r_sb (Mo_feed_b114_ok g N _ hD _ hself_8  _ _ _ _ _ _ _ _ hE) ⟨rfl, rfl, rfl, rfl, rfl, trivial⟩ | exact r_sb (Mo_feed_b114_ok g N _ hD _ hself_8  _ _ _ _ _ _ _ _ hE) (by simp only [su1, su2, dr1_rf, dr1_in, dr1_lo, dr2_rf, dr2_in, dr2_lo]; exact ⟨rfl, rfl, rfl, rfl, rfl, trivial⟩)
      · have hE := ifN hc4 hE
        refine r_iload rfl rfl ?_
        refine r_bipush 126 rfl cb_126 ?_
        refine r_icmp_gt (tgt := 114) rfl (by decide) (fun hc5 => ?_) (fun hc5 => ?_)
        · have hE := ifP hc5 hE
          first | exact r_sb (Mo_feed_b114_ok g N _ hD _ hself_8  _ _ _ _ _ _ _ _ hE) ⟨rfl, rfl, rfl, rfl, rfl, trivial⟩ | exact r_sb (Mo_feed_b114_ok g N _ hD _ hself_8  _ _ _ _ _ _ _ _ hE) (by simp only [su1, su2, dr1_rf, dr1_in, dr1_lo, dr2_rf, dr2_in, dr2_lo]; exact ⟨rfl, rfl, rfl, rfl, rfl, trivial⟩)
        · have hE := ifN hc5 hE
          first | exact r_sb (Mo_feed_b93_ok g N _ hD _ hself_8  _ _ _ _ _ _ _ _ _ hE) ⟨rfl, rfl, rfl, rfl, rfl, rfl, trivial⟩ | exact r_sb (Mo_feed_b93_ok g N _ hD _ hself_8  _ _ _ _ _ _ _ _ _ hE) (by simp only [su1, su2, dr1_rf, dr1_in, dr1_lo, dr2_rf, dr2_in, dr2_lo]; exact ⟨rfl, rfl, rfl, rfl, rfl, rfl, trivial⟩)
def Mo_feed_b8 (N : Nat) : Nat → Nat → Int64 → Int64 → Int64 → Int32 → PH → Option (Int32 × PH)
  | 0 => fun _ _ _ _ _ _ => none
  | n + 1 => fun a0 x1 x3 x5 x7 h =>
    if 24 ≤ x7 then
      ck ((hK h a0).1 = 11) <|
      some ((hI h a0 1), h)
    else
      if 8 ≤ x7 then
        if 16 ≤ x7 then
          Mo_feed_b39 N (Mo_feed_b8 N n)  x5 a0 x1 x3 x5 x7 h
        else
          Mo_feed_b39 N (Mo_feed_b8 N n)  x3 a0 x1 x3 x5 x7 h
      else
        Mo_feed_b39 N (Mo_feed_b8 N n)  x1 a0 x1 x3 x5 x7 h
set_option maxRecDepth 20000 in
theorem Mo_feed_b8_ok (g : GT) (N : Nat) (D : Nat) (hD : 0 ≤ D) : ∀ (n : Nat) (a0 : Nat) (x1 : Int64) (x3 : Int64) (x5 : Int64) (x7 : Int32) (h : PH) (v : Int32) (h' : PH), Mo_feed_b8 N n a0 x1 x3 x5 x7 h = some (v, h') → Run g pMo_feed D 8 [(0, va_rf (some a0)), (1, .long x1), (3, .long x3), (5, .long x5), (7, .int x7)] [] h (rI v) h' := by
  intro n
  induction n with
  | zero => exact fun _ _ _ _ _ _ _ _ hE => nomatch (show none = some _ from hE)
  | succ n ih =>
    intro a0 x1 x3 x5 x7 h v h' hE
    unfold Mo_feed_b8 at hE
    refine r_iload rfl rfl ?_
    refine r_bipush 24 rfl cb_24 ?_
    refine r_icmp_ge (tgt := 120) rfl (by decide) (fun hc1 => ?_) (fun hc1 => ?_)
    · have hE := ifP hc1 hE
      refine r_aload_n (t := some a0) 0 rfl rfl rfl ?_
      obtain ⟨hk2, hE⟩ := ckE hE
      refine r_getI rfl (fl_11_125 rfl) (Or.inl rfl) rfl hk2 ?_
      cases hE
      exact r_ret rfl (Or.inl ⟨rfl, _, _, rfl, rfl, rfl, rfl⟩)
    · have hE := ifN hc1 hE
      refine r_iload rfl rfl ?_
      refine r_bipush 8 rfl cb_8 ?_
      refine r_icmp_ge (tgt := 26) rfl (by decide) (fun hc3 => ?_) (fun hc3 => ?_)
      · have hE := ifP hc3 hE
        refine r_iload rfl rfl ?_
        refine r_bipush 16 rfl cb_16 ?_
        refine r_icmp_ge (tgt := 37) rfl (by decide) (fun hc4 => ?_) (fun hc4 => ?_)
        · have hE := ifP hc4 hE
          refine r_lload rfl rfl ?_
          first | exact r_sb (Mo_feed_b39_ok g N _ hD _ ih  _ _ _ _ _ _ _ _ _ hE) ⟨rfl, rfl, rfl, rfl, rfl, trivial⟩ | exact r_sb (Mo_feed_b39_ok g N _ hD _ ih  _ _ _ _ _ _ _ _ _ hE) (by simp only [su1, su2, dr1_rf, dr1_in, dr1_lo, dr2_rf, dr2_in, dr2_lo]; exact ⟨rfl, rfl, rfl, rfl, rfl, trivial⟩)
        · have hE := ifN hc4 hE
          refine r_lload_n 3 rfl rfl rfl ?_
          refine r_goto (tgt := 39) rfl (by decide) ?_
          first | exact r_sb (Mo_feed_b39_ok g N _ hD _ ih  _ _ _ _ _ _ _ _ _ hE) ⟨rfl, rfl, rfl, rfl, rfl, trivial⟩ | exact r_sb (Mo_feed_b39_ok g N _ hD _ ih  _ _ _ _ _ _ _ _ _ hE) (by simp only [su1, su2, dr1_rf, dr1_in, dr1_lo, dr2_rf, dr2_in, dr2_lo]; exact ⟨rfl, rfl, rfl, rfl, rfl, trivial⟩)
      · have hE := ifN hc3 hE
        refine r_lload_n 1 rfl rfl rfl ?_
        refine r_goto (tgt := 39) rfl (by decide) ?_
        first | exact r_sb (Mo_feed_b39_ok g N _ hD _ ih  _ _ _ _ _ _ _ _ _ hE) ⟨rfl, rfl, rfl, rfl, rfl, trivial⟩ | exact r_sb (Mo_feed_b39_ok g N _ hD _ ih  _ _ _ _ _ _ _ _ _ hE) (by simp only [su1, su2, dr1_rf, dr1_in, dr1_lo, dr2_rf, dr2_in, dr2_lo]; exact ⟨rfl, rfl, rfl, rfl, rfl, trivial⟩)
def Mo_feed (N : Nat) (a0 : Nat) (x1 : Int64) (x3 : Int64) (x5 : Int64) (h : PH) : Option (Int32 × PH) :=
  ck ((hK h a0).1 = 11) <|
  lt0 (wI h a0 0 0) fun h2 =>
  Mo_feed_b8 N N a0 x1 x3 x5 0 h2
set_option maxRecDepth 20000 in
theorem Mo_feed_ok (g : GT) (N : Nat) (a0 : Nat) (x1 : Int64) (x3 : Int64) (x5 : Int64) (h : PH) (v : Int32) (h' : PH) (hE : Mo_feed N a0 x1 x3 x5 h = some (v, h')) (D : Nat) (hD : 0 ≤ D) : Calls g D pMo_feed [va_rf (some a0), .long x1, .long x3, .long x5] h (oI v) h' := by
  refine Calls.of cok_Mo_feed ht_Mo_feed pl_Mo_feed (fun ad => by rw [lg_len, sL_cat]; simp only [List.map_cons, List.map_nil, rf_cat, cat_i, cat_l, List.sum_cons, List.sum_nil]; decide) ?_
  rw [show lv_args 0 [va_rf (some a0), .long x1, .long x3, .long x5] = [(0, va_rf (some a0)), (1, .long x1), (3, .long x3), (5, .long x5)] from (by simp only [lv_args, rf_cat, cat_i, cat_l]; try rfl)]
  unfold Mo_feed at hE
  refine r_aload_n (t := some a0) 0 rfl rfl rfl ?_
  refine r_iconst 0 rfl ci_0 ?_
  obtain ⟨hk1, hE⟩ := ckE hE
  obtain ⟨h2, he3, hE⟩ := ltE hE
  refine r_putI rfl (fl_11_119 rfl) finF rfl hk1 he3 ?_
  refine r_iconst 0 rfl ci_0 ?_
  refine r_istore rfl (by decide) ?_
  first | exact r_sb (Mo_feed_b8_ok g N _ hD  N _ _ _ _ _ _ _ _ hE) ⟨rfl, rfl, rfl, rfl, rfl, trivial⟩ | exact r_sb (Mo_feed_b8_ok g N _ hD  N _ _ _ _ _ _ _ _ hE) (by simp only [su1, su2, dr1_rf, dr1_in, dr1_lo, dr2_rf, dr2_in, dr2_lo]; exact ⟨rfl, rfl, rfl, rfl, rfl, trivial⟩)
def Mo_signAt (N : Nat) (a0 : Nat) (x1 : Int32) (h : PH) : Option (Int32 × PH) :=
  ck ((hK h a0).1 = 11) <|
  if (hI h a0 3) ≤ x1 then
    some (0, h)
  else
    ((hR h a0 2)).bind fun a_3 =>
    ck ((hK h a_3).1 = 20) <|
    ck (inb x1 (hK h a_3).2 = true) <|
    some ((hI h a_3 (ix x1)), h)
set_option maxRecDepth 20000 in
theorem Mo_signAt_ok (g : GT) (N : Nat) (a0 : Nat) (x1 : Int32) (h : PH) (v : Int32) (h' : PH) (hE : Mo_signAt N a0 x1 h = some (v, h')) (D : Nat) (hD : 0 ≤ D) : Calls g D pMo_signAt [va_rf (some a0), .int x1] h (oI v) h' := by
  refine Calls.of cok_Mo_signAt ht_Mo_signAt pl_Mo_signAt (fun ad => by rw [lg_len, sL_cat]; simp only [List.map_cons, List.map_nil, rf_cat, cat_i, cat_l, List.sum_cons, List.sum_nil]; decide) ?_
  rw [show lv_args 0 [va_rf (some a0), .int x1] = [(0, va_rf (some a0)), (1, .int x1)] from (by simp only [lv_args, rf_cat, cat_i, cat_l]; try rfl)]
  unfold Mo_signAt at hE
  refine r_iload_n 1 rfl rfl rfl ?_
  refine r_aload_n (t := some a0) 0 rfl rfl rfl ?_
  obtain ⟨hk1, hE⟩ := ckE hE
  refine r_getI rfl (fl_11_128 rfl) (Or.inl rfl) rfl hk1 ?_
  refine r_icmp_ge (tgt := 17) rfl (by decide) (fun hc2 => ?_) (fun hc2 => ?_)
  · have hE := ifP hc2 hE
    refine r_iconst 0 rfl ci_0 ?_
    cases hE
    exact r_ret rfl (Or.inl ⟨rfl, _, _, rfl, rfl, rfl, rfl⟩)
  · have hE := ifN hc2 hE
    refine r_aload_n (t := some a0) 0 rfl rfl rfl ?_
    refine r_getR rfl (fl_11_7 rfl) (Or.inr ⟨_, rfl⟩) rfl hk1 ?_
    refine r_iload_n 1 rfl rfl rfl ?_
    obtain ⟨a_3, ha4, hE⟩ := bnE hE
    obtain ⟨hk5, hE⟩ := ckE hE
    obtain ⟨hi6, hE⟩ := ckE hE
    refine r_iald rfl ha4 hk5 hi6 ?_
    refine r_goto (tgt := 18) rfl (by decide) ?_
    cases hE
    exact r_ret rfl (Or.inl ⟨rfl, _, _, rfl, rfl, rfl, rfl⟩)
def Mo_nextToken_b39 (N : Nat) (self_0 : Nat → PH → Option (Unit × PH)) (a0 : Nat) (h : PH) : Option (Unit × PH) :=
  ck ((hK h a0).1 = 11) <|
  lt0 (wI h a0 4 ((hI h a0 4) + 1)) fun h2 =>
  self_0 a0 h2
set_option maxRecDepth 20000 in
theorem Mo_nextToken_b39_ok (g : GT) (N : Nat) (D : Nat) (hD : 1 ≤ D) (self_0 : Nat → PH → Option (Unit × PH)) (hself_0 : ∀ (a0 : Nat) (h : PH) (v : Unit) (h' : PH), self_0 a0 h = some (v, h') → Run g pMo_nextToken D 0 [(0, va_rf (some a0))] [] h (rV v) h') : ∀ (a0 : Nat) (h : PH) (v : Unit) (h' : PH), Mo_nextToken_b39 N self_0 a0 h = some (v, h') → Run g pMo_nextToken D 39 [(0, va_rf (some a0))] [] h (rV v) h' := by
  obtain ⟨D2, rfl⟩ : ∃ d, D = d + 1 := ⟨D - 1, by omega⟩
  intro a0 h v h' hE
  unfold Mo_nextToken_b39 at hE
  refine r_aload_n (t := some a0) 0 rfl rfl rfl ?_
  refine r_dup rfl (rf_cat _) ?_
  obtain ⟨hk1, hE⟩ := ckE hE
  refine r_getI rfl (fl_11_131 rfl) (Or.inl rfl) rfl hk1 ?_
  refine r_iconst 1 rfl ci_1 ?_
  refine r_iadd rfl ?_
  obtain ⟨h2, he3, hE⟩ := ltE hE
  refine r_putI rfl (fl_11_131 rfl) finF rfl hk1 he3 ?_
  refine r_goto (tgt := 0) rfl (by decide) ?_
  first | exact r_sb (hself_0 _ _ _ _ hE) ⟨rfl, trivial⟩ | exact r_sb (hself_0 _ _ _ _ hE) (by simp only [su1, su2, dr1_rf, dr1_in, dr1_lo, dr2_rf, dr2_in, dr2_lo]; exact ⟨rfl, trivial⟩)
def Mo_nextToken_b175 (N : Nat) (self_109 : Nat → PH → Option (Unit × PH)) (a0 : Nat) (h : PH) : Option (Unit × PH) :=
  ck ((hK h a0).1 = 11) <|
  lt0 (wI h a0 4 ((hI h a0 4) + 1)) fun h2 =>
  self_109 a0 h2
set_option maxRecDepth 20000 in
theorem Mo_nextToken_b175_ok (g : GT) (N : Nat) (D : Nat) (hD : 1 ≤ D) (self_109 : Nat → PH → Option (Unit × PH)) (hself_109 : ∀ (a0 : Nat) (h : PH) (v : Unit) (h' : PH), self_109 a0 h = some (v, h') → Run g pMo_nextToken D 109 [(0, va_rf (some a0))] [] h (rV v) h') : ∀ (a0 : Nat) (h : PH) (v : Unit) (h' : PH), Mo_nextToken_b175 N self_109 a0 h = some (v, h') → Run g pMo_nextToken D 175 [(0, va_rf (some a0))] [] h (rV v) h' := by
  obtain ⟨D2, rfl⟩ : ∃ d, D = d + 1 := ⟨D - 1, by omega⟩
  intro a0 h v h' hE
  unfold Mo_nextToken_b175 at hE
  refine r_aload_n (t := some a0) 0 rfl rfl rfl ?_
  refine r_dup rfl (rf_cat _) ?_
  obtain ⟨hk1, hE⟩ := ckE hE
  refine r_getI rfl (fl_11_131 rfl) (Or.inl rfl) rfl hk1 ?_
  refine r_iconst 1 rfl ci_1 ?_
  refine r_iadd rfl ?_
  obtain ⟨h2, he3, hE⟩ := ltE hE
  refine r_putI rfl (fl_11_131 rfl) finF rfl hk1 he3 ?_
  refine r_goto (tgt := 109) rfl (by decide) ?_
  first | exact r_sb (hself_109 _ _ _ _ hE) ⟨rfl, trivial⟩ | exact r_sb (hself_109 _ _ _ _ hE) (by simp only [su1, su2, dr1_rf, dr1_in, dr1_lo, dr2_rf, dr2_in, dr2_lo]; exact ⟨rfl, trivial⟩)
def Mo_nextToken_b208 (N : Nat) (s0 : Nat) (s1 : Int32) (h : PH) : Option (Unit × PH) :=
  ck ((hK h s0).1 = 11) <|
  lt0 (wI h s0 6 s1) fun h2 =>
  some ((), h2)
set_option maxRecDepth 20000 in
theorem Mo_nextToken_b208_ok (g : GT) (N : Nat) (D : Nat) (hD : 1 ≤ D) : ∀ (s0 : Nat) (s1 : Int32) (h : PH) (v : Unit) (h' : PH), Mo_nextToken_b208 N s0 s1 h = some (v, h') → Run g pMo_nextToken D 208 [] [.int s1, va_rf (some s0)] h (rV v) h' := by
  obtain ⟨D2, rfl⟩ : ∃ d, D = d + 1 := ⟨D - 1, by omega⟩
  intro s0 s1 h v h' hE
  unfold Mo_nextToken_b208 at hE
  obtain ⟨hk1, hE⟩ := ckE hE
  obtain ⟨h2, he3, hE⟩ := ltE hE
  refine r_putI rfl (fl_11_144 rfl) finF rfl hk1 he3 ?_
  cases hE
  exact r_ret rfl (Or.inr (Or.inr (Or.inr ⟨rfl, rfl, rfl, rfl⟩)))
def Mo_nextToken_b188 (N : Nat) (a0 : Nat) (h : PH) : Option (Unit × PH) :=
  ck ((hK h a0).1 = 11) <|
  if ((hI h a0 4) - (hI h a0 5)) ≤ 8 then
    Mo_nextToken_b208 N  a0 1 h
  else
    Mo_nextToken_b208 N  a0 4 h
set_option maxRecDepth 20000 in
theorem Mo_nextToken_b188_ok (g : GT) (N : Nat) (D : Nat) (hD : 1 ≤ D) : ∀ (a0 : Nat) (h : PH) (v : Unit) (h' : PH), Mo_nextToken_b188 N a0 h = some (v, h') → Run g pMo_nextToken D 188 [(0, va_rf (some a0))] [] h (rV v) h' := by
  obtain ⟨D2, rfl⟩ : ∃ d, D = d + 1 := ⟨D - 1, by omega⟩
  intro a0 h v h' hE
  unfold Mo_nextToken_b188 at hE
  refine r_aload_n (t := some a0) 0 rfl rfl rfl ?_
  refine r_aload_n (t := some a0) 0 rfl rfl rfl ?_
  obtain ⟨hk1, hE⟩ := ckE hE
  refine r_getI rfl (fl_11_131 rfl) (Or.inl rfl) rfl hk1 ?_
  refine r_aload_n (t := some a0) 0 rfl rfl rfl ?_
  refine r_getI rfl (fl_11_134 rfl) (Or.inl rfl) rfl hk1 ?_
  refine r_isub rfl ?_
  refine r_bipush 8 rfl cb_8 ?_
  refine r_icmp_le (tgt := 207) rfl (by decide) (fun hc2 => ?_) (fun hc2 => ?_)
  · have hE := ifP hc2 hE
    refine r_iconst 1 rfl ci_1 ?_
    exact r_sb (Mo_nextToken_b208_ok g N _ hD   _ _ _ _ _ hE) trivial
  · have hE := ifN hc2 hE
    refine r_iconst 4 rfl ci_4 ?_
    refine r_goto (tgt := 208) rfl (by decide) ?_
    exact r_sb (Mo_nextToken_b208_ok g N _ hD   _ _ _ _ _ hE) trivial
def Mo_nextToken_b109 (N : Nat) : Nat → Nat → PH → Option (Unit × PH)
  | 0 => fun _ _ => none
  | n + 1 => fun a0 h =>
    ck ((hK h a0).1 = 11) <|
    bd (Mo_signAt N a0 (hI h a0 4) h) fun v2 h3 =>
    if v2 < 97 then
      Mo_nextToken_b188 N  a0 h3
    else
      ck ((hK h3 a0).1 = 11) <|
      bd (Mo_signAt N a0 (hI h3 a0 4) h3) fun v7 h8 =>
      if 122 < v7 then
        Mo_nextToken_b188 N  a0 h8
      else
        ck ((hK h8 a0).1 = 11) <|
        if 8 ≤ ((hI h8 a0 4) - (hI h8 a0 5)) then
          Mo_nextToken_b175 N (Mo_nextToken_b109 N n)  a0 h8
        else
          bd (Mo_signAt N a0 (hI h8 a0 4) h8) fun v13 h14 =>
          ck ((hK h14 a0).1 = 11) <|
          lt0 (wJ h14 a0 7 ((((hJ h8 a0 7) * 27) + (Int32.toInt64 v13)) - 96)) fun h17 =>
          Mo_nextToken_b175 N (Mo_nextToken_b109 N n)  a0 h17
set_option maxRecDepth 20000 in
theorem Mo_nextToken_b109_ok (g : GT) (N : Nat) (D : Nat) (hD : 1 ≤ D) : ∀ (n : Nat) (a0 : Nat) (h : PH) (v : Unit) (h' : PH), Mo_nextToken_b109 N n a0 h = some (v, h') → Run g pMo_nextToken D 109 [(0, va_rf (some a0))] [] h (rV v) h' := by
  obtain ⟨D2, rfl⟩ : ∃ d, D = d + 1 := ⟨D - 1, by omega⟩
  intro n
  induction n with
  | zero => exact fun _ _ _ _ hE => nomatch (show none = some _ from hE)
  | succ n ih =>
    intro a0 h v h' hE
    unfold Mo_nextToken_b109 at hE
    refine r_aload_n (t := some a0) 0 rfl rfl rfl ?_
    refine r_aload_n (t := some a0) 0 rfl rfl rfl ?_
    obtain ⟨hk1, hE⟩ := ckE hE
    refine r_getI rfl (fl_11_131 rfl) (Or.inl rfl) rfl hk1 ?_
    obtain ⟨v2, h3, hq4, hE⟩ := bdE hE
    refine r_callV1 (rest := []) (hc := (Mo_signAt_ok g N _ _ _ _ _ hq4 D2 (by omega))) rfl pm_Mo_signAt lw_11_147 im_Mo_signAt sl_Mo_signAt rfl rfl rfl (rcOK hk1 rfl) (by decide) ?_
    refine r_bipush 97 rfl cb_97 ?_
    refine r_icmp_lt (tgt := 188) rfl (by decide) (fun hc5 => ?_) (fun hc5 => ?_)
    · have hE := ifP hc5 hE
      first | exact r_sb (Mo_nextToken_b188_ok g N _ hD   _ _ _ _ hE) ⟨rfl, trivial⟩ | exact r_sb (Mo_nextToken_b188_ok g N _ hD   _ _ _ _ hE) (by simp only [su1, su2, dr1_rf, dr1_in, dr1_lo, dr2_rf, dr2_in, dr2_lo]; exact ⟨rfl, trivial⟩)
    · have hE := ifN hc5 hE
      refine r_aload_n (t := some a0) 0 rfl rfl rfl ?_
      refine r_aload_n (t := some a0) 0 rfl rfl rfl ?_
      obtain ⟨hk6, hE⟩ := ckE hE
      refine r_getI rfl (fl_11_131 rfl) (Or.inl rfl) rfl hk6 ?_
      obtain ⟨v7, h8, hq9, hE⟩ := bdE hE
      refine r_callV1 (rest := []) (hc := (Mo_signAt_ok g N _ _ _ _ _ hq9 D2 (by omega))) rfl pm_Mo_signAt lw_11_147 im_Mo_signAt sl_Mo_signAt rfl rfl rfl (rcOK hk6 rfl) (by decide) ?_
      refine r_bipush 122 rfl cb_122 ?_
      refine r_icmp_gt (tgt := 188) rfl (by decide) (fun hc10 => ?_) (fun hc10 => ?_)
      · have hE := ifP hc10 hE
        first | exact r_sb (Mo_nextToken_b188_ok g N _ hD   _ _ _ _ hE) ⟨rfl, trivial⟩ | exact r_sb (Mo_nextToken_b188_ok g N _ hD   _ _ _ _ hE) (by simp only [su1, su2, dr1_rf, dr1_in, dr1_lo, dr2_rf, dr2_in, dr2_lo]; exact ⟨rfl, trivial⟩)
      · have hE := ifN hc10 hE
        refine r_aload_n (t := some a0) 0 rfl rfl rfl ?_
        obtain ⟨hk11, hE⟩ := ckE hE
        refine r_getI rfl (fl_11_131 rfl) (Or.inl rfl) rfl hk11 ?_
        refine r_aload_n (t := some a0) 0 rfl rfl rfl ?_
        refine r_getI rfl (fl_11_134 rfl) (Or.inl rfl) rfl hk11 ?_
        refine r_isub rfl ?_
        refine r_bipush 8 rfl cb_8 ?_
        refine r_icmp_ge (tgt := 175) rfl (by decide) (fun hc12 => ?_) (fun hc12 => ?_)
        · have hE := ifP hc12 hE
          first | exact r_sb (Mo_nextToken_b175_ok g N _ hD _ ih  _ _ _ _ hE) ⟨rfl, trivial⟩ | exact r_sb (Mo_nextToken_b175_ok g N _ hD _ ih  _ _ _ _ hE) (by simp only [su1, su2, dr1_rf, dr1_in, dr1_lo, dr2_rf, dr2_in, dr2_lo]; exact ⟨rfl, trivial⟩)
        · have hE := ifN hc12 hE
          refine r_aload_n (t := some a0) 0 rfl rfl rfl ?_
          refine r_aload_n (t := some a0) 0 rfl rfl rfl ?_
          refine r_getJ rfl (fl_11_137 rfl) rfl hk11 ?_
          refine r_ldc2 rfl kc_11_151 ?_
          refine r_lmul rfl ?_
          refine r_aload_n (t := some a0) 0 rfl rfl rfl ?_
          refine r_aload_n (t := some a0) 0 rfl rfl rfl ?_
          refine r_getI rfl (fl_11_131 rfl) (Or.inl rfl) rfl hk11 ?_
          obtain ⟨v13, h14, hq15, hE⟩ := bdE hE
          refine r_callV1 (rest := [.long ((hJ h8 a0 7) * 27), va_rf (some a0)]) (hc := (Mo_signAt_ok g N _ _ _ _ _ hq15 D2 (by omega))) rfl pm_Mo_signAt lw_11_147 im_Mo_signAt sl_Mo_signAt rfl rfl rfl (rcOK hk11 rfl) (by simp only [List.map_cons, List.map_nil, rf_cat, cat_i, cat_l, List.sum_cons, List.sum_nil]; decide) ?_
          refine r_i2l rfl ?_
          refine r_ladd rfl ?_
          refine r_ldc2 rfl kc_11_153 ?_
          refine r_lsub rfl ?_
          obtain ⟨hk16, hE⟩ := ckE hE
          obtain ⟨h17, he18, hE⟩ := ltE hE
          refine r_putJ rfl (fl_11_137 rfl) finF rfl hk16 he18 ?_
          first | exact r_sb (Mo_nextToken_b175_ok g N _ hD _ ih  _ _ _ _ hE) ⟨rfl, trivial⟩ | exact r_sb (Mo_nextToken_b175_ok g N _ hD _ ih  _ _ _ _ hE) (by simp only [su1, su2, dr1_rf, dr1_in, dr1_lo, dr2_rf, dr2_in, dr2_lo]; exact ⟨rfl, trivial⟩)
def Mo_nextToken_b286 (N : Nat) (self_224 : Nat → PH → Option (Unit × PH)) (a0 : Nat) (h : PH) : Option (Unit × PH) :=
  ck ((hK h a0).1 = 11) <|
  lt0 (wI h a0 4 ((hI h a0 4) + 1)) fun h2 =>
  self_224 a0 h2
set_option maxRecDepth 20000 in
theorem Mo_nextToken_b286_ok (g : GT) (N : Nat) (D : Nat) (hD : 1 ≤ D) (self_224 : Nat → PH → Option (Unit × PH)) (hself_224 : ∀ (a0 : Nat) (h : PH) (v : Unit) (h' : PH), self_224 a0 h = some (v, h') → Run g pMo_nextToken D 224 [(0, va_rf (some a0))] [] h (rV v) h') : ∀ (a0 : Nat) (h : PH) (v : Unit) (h' : PH), Mo_nextToken_b286 N self_224 a0 h = some (v, h') → Run g pMo_nextToken D 286 [(0, va_rf (some a0))] [] h (rV v) h' := by
  obtain ⟨D2, rfl⟩ : ∃ d, D = d + 1 := ⟨D - 1, by omega⟩
  intro a0 h v h' hE
  unfold Mo_nextToken_b286 at hE
  refine r_aload_n (t := some a0) 0 rfl rfl rfl ?_
  refine r_dup rfl (rf_cat _) ?_
  obtain ⟨hk1, hE⟩ := ckE hE
  refine r_getI rfl (fl_11_131 rfl) (Or.inl rfl) rfl hk1 ?_
  refine r_iconst 1 rfl ci_1 ?_
  refine r_iadd rfl ?_
  obtain ⟨h2, he3, hE⟩ := ltE hE
  refine r_putI rfl (fl_11_131 rfl) finF rfl hk1 he3 ?_
  refine r_goto (tgt := 224) rfl (by decide) ?_
  first | exact r_sb (hself_224 _ _ _ _ hE) ⟨rfl, trivial⟩ | exact r_sb (hself_224 _ _ _ _ hE) (by simp only [su1, su2, dr1_rf, dr1_in, dr1_lo, dr2_rf, dr2_in, dr2_lo]; exact ⟨rfl, trivial⟩)
def Mo_nextToken_b318 (N : Nat) (s0 : Nat) (s1 : Int32) (h : PH) : Option (Unit × PH) :=
  ck ((hK h s0).1 = 11) <|
  lt0 (wI h s0 6 s1) fun h2 =>
  some ((), h2)
set_option maxRecDepth 20000 in
theorem Mo_nextToken_b318_ok (g : GT) (N : Nat) (D : Nat) (hD : 1 ≤ D) : ∀ (s0 : Nat) (s1 : Int32) (h : PH) (v : Unit) (h' : PH), Mo_nextToken_b318 N s0 s1 h = some (v, h') → Run g pMo_nextToken D 318 [] [.int s1, va_rf (some s0)] h (rV v) h' := by
  obtain ⟨D2, rfl⟩ : ∃ d, D = d + 1 := ⟨D - 1, by omega⟩
  intro s0 s1 h v h' hE
  unfold Mo_nextToken_b318 at hE
  obtain ⟨hk1, hE⟩ := ckE hE
  obtain ⟨h2, he3, hE⟩ := ltE hE
  refine r_putI rfl (fl_11_144 rfl) finF rfl hk1 he3 ?_
  cases hE
  exact r_ret rfl (Or.inr (Or.inr (Or.inr ⟨rfl, rfl, rfl, rfl⟩)))
def Mo_nextToken_b299 (N : Nat) (a0 : Nat) (h : PH) : Option (Unit × PH) :=
  ck ((hK h a0).1 = 11) <|
  if ((hI h a0 4) - (hI h a0 5)) ≤ 4 then
    Mo_nextToken_b318 N  a0 2 h
  else
    Mo_nextToken_b318 N  a0 4 h
set_option maxRecDepth 20000 in
theorem Mo_nextToken_b299_ok (g : GT) (N : Nat) (D : Nat) (hD : 1 ≤ D) : ∀ (a0 : Nat) (h : PH) (v : Unit) (h' : PH), Mo_nextToken_b299 N a0 h = some (v, h') → Run g pMo_nextToken D 299 [(0, va_rf (some a0))] [] h (rV v) h' := by
  obtain ⟨D2, rfl⟩ : ∃ d, D = d + 1 := ⟨D - 1, by omega⟩
  intro a0 h v h' hE
  unfold Mo_nextToken_b299 at hE
  refine r_aload_n (t := some a0) 0 rfl rfl rfl ?_
  refine r_aload_n (t := some a0) 0 rfl rfl rfl ?_
  obtain ⟨hk1, hE⟩ := ckE hE
  refine r_getI rfl (fl_11_131 rfl) (Or.inl rfl) rfl hk1 ?_
  refine r_aload_n (t := some a0) 0 rfl rfl rfl ?_
  refine r_getI rfl (fl_11_134 rfl) (Or.inl rfl) rfl hk1 ?_
  refine r_isub rfl ?_
  refine r_iconst 4 rfl ci_4 ?_
  refine r_icmp_le (tgt := 317) rfl (by decide) (fun hc2 => ?_) (fun hc2 => ?_)
  · have hE := ifP hc2 hE
    refine r_iconst 2 rfl ci_2 ?_
    exact r_sb (Mo_nextToken_b318_ok g N _ hD   _ _ _ _ _ hE) trivial
  · have hE := ifN hc2 hE
    refine r_iconst 4 rfl ci_4 ?_
    refine r_goto (tgt := 318) rfl (by decide) ?_
    exact r_sb (Mo_nextToken_b318_ok g N _ hD   _ _ _ _ _ hE) trivial
def Mo_nextToken_b224 (N : Nat) : Nat → Nat → PH → Option (Unit × PH)
  | 0 => fun _ _ => none
  | n + 1 => fun a0 h =>
    ck ((hK h a0).1 = 11) <|
    bd (Mo_signAt N a0 (hI h a0 4) h) fun v2 h3 =>
    if v2 < 48 then
      Mo_nextToken_b299 N  a0 h3
    else
      ck ((hK h3 a0).1 = 11) <|
      bd (Mo_signAt N a0 (hI h3 a0 4) h3) fun v7 h8 =>
      if 57 < v7 then
        Mo_nextToken_b299 N  a0 h8
      else
        ck ((hK h8 a0).1 = 11) <|
        if 4 ≤ ((hI h8 a0 4) - (hI h8 a0 5)) then
          Mo_nextToken_b286 N (Mo_nextToken_b224 N n)  a0 h8
        else
          bd (Mo_signAt N a0 (hI h8 a0 4) h8) fun v13 h14 =>
          ck ((hK h14 a0).1 = 11) <|
          lt0 (wI h14 a0 8 ((((hI h8 a0 8) * 10) + v13) - 48)) fun h17 =>
          Mo_nextToken_b286 N (Mo_nextToken_b224 N n)  a0 h17
set_option maxRecDepth 20000 in
theorem Mo_nextToken_b224_ok (g : GT) (N : Nat) (D : Nat) (hD : 1 ≤ D) : ∀ (n : Nat) (a0 : Nat) (h : PH) (v : Unit) (h' : PH), Mo_nextToken_b224 N n a0 h = some (v, h') → Run g pMo_nextToken D 224 [(0, va_rf (some a0))] [] h (rV v) h' := by
  obtain ⟨D2, rfl⟩ : ∃ d, D = d + 1 := ⟨D - 1, by omega⟩
  intro n
  induction n with
  | zero => exact fun _ _ _ _ hE => nomatch (show none = some _ from hE)
  | succ n ih =>
    intro a0 h v h' hE
    unfold Mo_nextToken_b224 at hE
    refine r_aload_n (t := some a0) 0 rfl rfl rfl ?_
    refine r_aload_n (t := some a0) 0 rfl rfl rfl ?_
    obtain ⟨hk1, hE⟩ := ckE hE
    refine r_getI rfl (fl_11_131 rfl) (Or.inl rfl) rfl hk1 ?_
    obtain ⟨v2, h3, hq4, hE⟩ := bdE hE
    refine r_callV1 (rest := []) (hc := (Mo_signAt_ok g N _ _ _ _ _ hq4 D2 (by omega))) rfl pm_Mo_signAt lw_11_147 im_Mo_signAt sl_Mo_signAt rfl rfl rfl (rcOK hk1 rfl) (by decide) ?_
    refine r_bipush 48 rfl cb_48 ?_
    refine r_icmp_lt (tgt := 299) rfl (by decide) (fun hc5 => ?_) (fun hc5 => ?_)
    · have hE := ifP hc5 hE
      first | exact r_sb (Mo_nextToken_b299_ok g N _ hD   _ _ _ _ hE) ⟨rfl, trivial⟩ | exact r_sb (Mo_nextToken_b299_ok g N _ hD   _ _ _ _ hE) (by simp only [su1, su2, dr1_rf, dr1_in, dr1_lo, dr2_rf, dr2_in, dr2_lo]; exact ⟨rfl, trivial⟩)
    · have hE := ifN hc5 hE
      refine r_aload_n (t := some a0) 0 rfl rfl rfl ?_
      refine r_aload_n (t := some a0) 0 rfl rfl rfl ?_
      obtain ⟨hk6, hE⟩ := ckE hE
      refine r_getI rfl (fl_11_131 rfl) (Or.inl rfl) rfl hk6 ?_
      obtain ⟨v7, h8, hq9, hE⟩ := bdE hE
      refine r_callV1 (rest := []) (hc := (Mo_signAt_ok g N _ _ _ _ _ hq9 D2 (by omega))) rfl pm_Mo_signAt lw_11_147 im_Mo_signAt sl_Mo_signAt rfl rfl rfl (rcOK hk6 rfl) (by decide) ?_
      refine r_bipush 57 rfl cb_57 ?_
      refine r_icmp_gt (tgt := 299) rfl (by decide) (fun hc10 => ?_) (fun hc10 => ?_)
      · have hE := ifP hc10 hE
        first | exact r_sb (Mo_nextToken_b299_ok g N _ hD   _ _ _ _ hE) ⟨rfl, trivial⟩ | exact r_sb (Mo_nextToken_b299_ok g N _ hD   _ _ _ _ hE) (by simp only [su1, su2, dr1_rf, dr1_in, dr1_lo, dr2_rf, dr2_in, dr2_lo]; exact ⟨rfl, trivial⟩)
      · have hE := ifN hc10 hE
        refine r_aload_n (t := some a0) 0 rfl rfl rfl ?_
        obtain ⟨hk11, hE⟩ := ckE hE
        refine r_getI rfl (fl_11_131 rfl) (Or.inl rfl) rfl hk11 ?_
        refine r_aload_n (t := some a0) 0 rfl rfl rfl ?_
        refine r_getI rfl (fl_11_134 rfl) (Or.inl rfl) rfl hk11 ?_
        refine r_isub rfl ?_
        refine r_iconst 4 rfl ci_4 ?_
        refine r_icmp_ge (tgt := 286) rfl (by decide) (fun hc12 => ?_) (fun hc12 => ?_)
        · have hE := ifP hc12 hE
          first | exact r_sb (Mo_nextToken_b286_ok g N _ hD _ ih  _ _ _ _ hE) ⟨rfl, trivial⟩ | exact r_sb (Mo_nextToken_b286_ok g N _ hD _ ih  _ _ _ _ hE) (by simp only [su1, su2, dr1_rf, dr1_in, dr1_lo, dr2_rf, dr2_in, dr2_lo]; exact ⟨rfl, trivial⟩)
        · have hE := ifN hc12 hE
          refine r_aload_n (t := some a0) 0 rfl rfl rfl ?_
          refine r_aload_n (t := some a0) 0 rfl rfl rfl ?_
          refine r_getI rfl (fl_11_141 rfl) (Or.inl rfl) rfl hk11 ?_
          refine r_bipush 10 rfl cb_10 ?_
          refine r_imul rfl ?_
          refine r_aload_n (t := some a0) 0 rfl rfl rfl ?_
          refine r_aload_n (t := some a0) 0 rfl rfl rfl ?_
          refine r_getI rfl (fl_11_131 rfl) (Or.inl rfl) rfl hk11 ?_
          obtain ⟨v13, h14, hq15, hE⟩ := bdE hE
          refine r_callV1 (rest := [.int ((hI h8 a0 8) * 10), va_rf (some a0)]) (hc := (Mo_signAt_ok g N _ _ _ _ _ hq15 D2 (by omega))) rfl pm_Mo_signAt lw_11_147 im_Mo_signAt sl_Mo_signAt rfl rfl rfl (rcOK hk11 rfl) (by simp only [List.map_cons, List.map_nil, rf_cat, cat_i, cat_l, List.sum_cons, List.sum_nil]; decide) ?_
          refine r_iadd rfl ?_
          refine r_bipush 48 rfl cb_48 ?_
          refine r_isub rfl ?_
          obtain ⟨hk16, hE⟩ := ckE hE
          obtain ⟨h17, he18, hE⟩ := ltE hE
          refine r_putI rfl (fl_11_141 rfl) finF rfl hk16 he18 ?_
          first | exact r_sb (Mo_nextToken_b286_ok g N _ hD _ ih  _ _ _ _ hE) ⟨rfl, trivial⟩ | exact r_sb (Mo_nextToken_b286_ok g N _ hD _ ih  _ _ _ _ hE) (by simp only [su1, su2, dr1_rf, dr1_in, dr1_lo, dr2_rf, dr2_in, dr2_lo]; exact ⟨rfl, trivial⟩)
def Mo_nextToken_b368 (N : Nat) (s0 : Nat) (s1 : Int32) (h : PH) : Option (Unit × PH) :=
  ck ((hK h s0).1 = 11) <|
  lt0 (wI h s0 6 s1) fun h2 =>
  some ((), h2)
set_option maxRecDepth 20000 in
theorem Mo_nextToken_b368_ok (g : GT) (N : Nat) (D : Nat) (hD : 1 ≤ D) : ∀ (s0 : Nat) (s1 : Int32) (h : PH) (v : Unit) (h' : PH), Mo_nextToken_b368 N s0 s1 h = some (v, h') → Run g pMo_nextToken D 368 [] [.int s1, va_rf (some s0)] h (rV v) h' := by
  obtain ⟨D2, rfl⟩ : ∃ d, D = d + 1 := ⟨D - 1, by omega⟩
  intro s0 s1 h v h' hE
  unfold Mo_nextToken_b368 at hE
  obtain ⟨hk1, hE⟩ := ckE hE
  obtain ⟨h2, he3, hE⟩ := ltE hE
  refine r_putI rfl (fl_11_144 rfl) finF rfl hk1 he3 ?_
  cases hE
  exact r_ret rfl (Or.inr (Or.inr (Or.inr ⟨rfl, rfl, rfl, rfl⟩)))
def Mo_nextToken_b363 (N : Nat) (s0 : Nat) (h : PH) : Option (Unit × PH) :=
  Mo_nextToken_b368 N  s0 3 h
set_option maxRecDepth 20000 in
theorem Mo_nextToken_b363_ok (g : GT) (N : Nat) (D : Nat) (hD : 1 ≤ D) : ∀ (s0 : Nat) (h : PH) (v : Unit) (h' : PH), Mo_nextToken_b363 N s0 h = some (v, h') → Run g pMo_nextToken D 363 [] [va_rf (some s0)] h (rV v) h' := by
  obtain ⟨D2, rfl⟩ : ∃ d, D = d + 1 := ⟨D - 1, by omega⟩
  intro s0 h v h' hE
  unfold Mo_nextToken_b363 at hE
  refine r_iconst 3 rfl ci_3 ?_
  refine r_goto (tgt := 368) rfl (by decide) ?_
  exact r_sb (Mo_nextToken_b368_ok g N _ hD   _ _ _ _ _ hE) trivial
def Mo_nextToken_b367 (N : Nat) (s0 : Nat) (h : PH) : Option (Unit × PH) :=
  Mo_nextToken_b368 N  s0 4 h
set_option maxRecDepth 20000 in
theorem Mo_nextToken_b367_ok (g : GT) (N : Nat) (D : Nat) (hD : 1 ≤ D) : ∀ (s0 : Nat) (h : PH) (v : Unit) (h' : PH), Mo_nextToken_b367 N s0 h = some (v, h') → Run g pMo_nextToken D 367 [] [va_rf (some s0)] h (rV v) h' := by
  obtain ⟨D2, rfl⟩ : ∃ d, D = d + 1 := ⟨D - 1, by omega⟩
  intro s0 h v h' hE
  unfold Mo_nextToken_b367 at hE
  refine r_iconst 4 rfl ci_4 ?_
  exact r_sb (Mo_nextToken_b368_ok g N _ hD   _ _ _ _ _ hE) trivial
def Mo_nextToken_b345 (N : Nat) (s0 : Nat) (x1 : Int32) (h : PH) : Option (Unit × PH) :=
  if x1 = 45 then
    Mo_nextToken_b363 N  s0 h
  else
    if x1 < 59 then
      Mo_nextToken_b367 N  s0 h
    else
      if 61 < x1 then
        Mo_nextToken_b367 N  s0 h
      else
        Mo_nextToken_b363 N  s0 h
set_option maxRecDepth 20000 in
theorem Mo_nextToken_b345_ok (g : GT) (N : Nat) (D : Nat) (hD : 1 ≤ D) : ∀ (s0 : Nat) (x1 : Int32) (h : PH) (v : Unit) (h' : PH), Mo_nextToken_b345 N s0 x1 h = some (v, h') → Run g pMo_nextToken D 345 [(1, .int x1)] [va_rf (some s0)] h (rV v) h' := by
  obtain ⟨D2, rfl⟩ : ∃ d, D = d + 1 := ⟨D - 1, by omega⟩
  intro s0 x1 h v h' hE
  unfold Mo_nextToken_b345 at hE
  refine r_iload_n 1 rfl rfl rfl ?_
  refine r_bipush 45 rfl cb_45 ?_
  refine r_icmp_eq (tgt := 363) rfl (by decide) (fun hc1 => ?_) (fun hc1 => ?_)
  · have hE := ifP hc1 hE
    exact r_sb (Mo_nextToken_b363_ok g N _ hD   _ _ _ _ hE) trivial
  · have hE := ifN hc1 hE
    refine r_iload_n 1 rfl rfl rfl ?_
    refine r_bipush 59 rfl cb_59 ?_
    refine r_icmp_lt (tgt := 367) rfl (by decide) (fun hc2 => ?_) (fun hc2 => ?_)
    · have hE := ifP hc2 hE
      exact r_sb (Mo_nextToken_b367_ok g N _ hD   _ _ _ _ hE) trivial
    · have hE := ifN hc2 hE
      refine r_iload_n 1 rfl rfl rfl ?_
      refine r_bipush 61 rfl cb_61 ?_
      refine r_icmp_gt (tgt := 367) rfl (by decide) (fun hc3 => ?_) (fun hc3 => ?_)
      · have hE := ifP hc3 hE
        exact r_sb (Mo_nextToken_b367_ok g N _ hD   _ _ _ _ hE) trivial
      · have hE := ifN hc3 hE
        exact r_sb (Mo_nextToken_b363_ok g N _ hD   _ _ _ _ hE) trivial
def Mo_nextToken_b322 (N : Nat) (a0 : Nat) (x1 : Int32) (h : PH) : Option (Unit × PH) :=
  ck ((hK h a0).1 = 11) <|
  lt0 (wI h a0 4 ((hI h a0 4) + 1)) fun h2 =>
  if x1 < 40 then
    Mo_nextToken_b345 N  a0 x1 h2
  else
    if x1 ≤ 43 then
      Mo_nextToken_b363 N  a0 h2
    else
      Mo_nextToken_b345 N  a0 x1 h2
set_option maxRecDepth 20000 in
theorem Mo_nextToken_b322_ok (g : GT) (N : Nat) (D : Nat) (hD : 1 ≤ D) : ∀ (a0 : Nat) (x1 : Int32) (h : PH) (v : Unit) (h' : PH), Mo_nextToken_b322 N a0 x1 h = some (v, h') → Run g pMo_nextToken D 322 [(0, va_rf (some a0)), (1, .int x1)] [] h (rV v) h' := by
  obtain ⟨D2, rfl⟩ : ∃ d, D = d + 1 := ⟨D - 1, by omega⟩
  intro a0 x1 h v h' hE
  unfold Mo_nextToken_b322 at hE
  refine r_aload_n (t := some a0) 0 rfl rfl rfl ?_
  refine r_dup rfl (rf_cat _) ?_
  obtain ⟨hk1, hE⟩ := ckE hE
  refine r_getI rfl (fl_11_131 rfl) (Or.inl rfl) rfl hk1 ?_
  refine r_iconst 1 rfl ci_1 ?_
  refine r_iadd rfl ?_
  obtain ⟨h2, he3, hE⟩ := ltE hE
  refine r_putI rfl (fl_11_131 rfl) finF rfl hk1 he3 ?_
  refine r_aload_n (t := some a0) 0 rfl rfl rfl ?_
  refine r_iload_n 1 rfl rfl rfl ?_
  refine r_bipush 40 rfl cb_40 ?_
  refine r_icmp_lt (tgt := 345) rfl (by decide) (fun hc4 => ?_) (fun hc4 => ?_)
  · have hE := ifP hc4 hE
    first | exact r_sb (Mo_nextToken_b345_ok g N _ hD   _ _ _ _ _ hE) ⟨rfl, trivial⟩ | exact r_sb (Mo_nextToken_b345_ok g N _ hD   _ _ _ _ _ hE) (by simp only [su1, su2, dr1_rf, dr1_in, dr1_lo, dr2_rf, dr2_in, dr2_lo]; exact ⟨rfl, trivial⟩)
  · have hE := ifN hc4 hE
    refine r_iload_n 1 rfl rfl rfl ?_
    refine r_bipush 43 rfl cb_43 ?_
    refine r_icmp_le (tgt := 363) rfl (by decide) (fun hc5 => ?_) (fun hc5 => ?_)
    · have hE := ifP hc5 hE
      exact r_sb (Mo_nextToken_b363_ok g N _ hD   _ _ _ _ hE) trivial
    · have hE := ifN hc5 hE
      first | exact r_sb (Mo_nextToken_b345_ok g N _ hD   _ _ _ _ _ hE) ⟨rfl, trivial⟩ | exact r_sb (Mo_nextToken_b345_ok g N _ hD   _ _ _ _ _ hE) (by simp only [su1, su2, dr1_rf, dr1_in, dr1_lo, dr2_rf, dr2_in, dr2_lo]; exact ⟨rfl, trivial⟩)
def Mo_nextToken_b212 (N : Nat) (a0 : Nat) (x1 : Int32) (h : PH) : Option (Unit × PH) :=
  if x1 < 48 then
    Mo_nextToken_b322 N  a0 x1 h
  else
    if 57 < x1 then
      Mo_nextToken_b322 N  a0 x1 h
    else
      Mo_nextToken_b224 N N a0 h
set_option maxRecDepth 20000 in
theorem Mo_nextToken_b212_ok (g : GT) (N : Nat) (D : Nat) (hD : 1 ≤ D) : ∀ (a0 : Nat) (x1 : Int32) (h : PH) (v : Unit) (h' : PH), Mo_nextToken_b212 N a0 x1 h = some (v, h') → Run g pMo_nextToken D 212 [(0, va_rf (some a0)), (1, .int x1)] [] h (rV v) h' := by
  obtain ⟨D2, rfl⟩ : ∃ d, D = d + 1 := ⟨D - 1, by omega⟩
  intro a0 x1 h v h' hE
  unfold Mo_nextToken_b212 at hE
  refine r_iload_n 1 rfl rfl rfl ?_
  refine r_bipush 48 rfl cb_48 ?_
  refine r_icmp_lt (tgt := 322) rfl (by decide) (fun hc1 => ?_) (fun hc1 => ?_)
  · have hE := ifP hc1 hE
    first | exact r_sb (Mo_nextToken_b322_ok g N _ hD   _ _ _ _ _ hE) ⟨rfl, rfl, trivial⟩ | exact r_sb (Mo_nextToken_b322_ok g N _ hD   _ _ _ _ _ hE) (by simp only [su1, su2, dr1_rf, dr1_in, dr1_lo, dr2_rf, dr2_in, dr2_lo]; exact ⟨rfl, rfl, trivial⟩)
  · have hE := ifN hc1 hE
    refine r_iload_n 1 rfl rfl rfl ?_
    refine r_bipush 57 rfl cb_57 ?_
    refine r_icmp_gt (tgt := 322) rfl (by decide) (fun hc2 => ?_) (fun hc2 => ?_)
    · have hE := ifP hc2 hE
      first | exact r_sb (Mo_nextToken_b322_ok g N _ hD   _ _ _ _ _ hE) ⟨rfl, rfl, trivial⟩ | exact r_sb (Mo_nextToken_b322_ok g N _ hD   _ _ _ _ _ hE) (by simp only [su1, su2, dr1_rf, dr1_in, dr1_lo, dr2_rf, dr2_in, dr2_lo]; exact ⟨rfl, rfl, trivial⟩)
    · have hE := ifN hc2 hE
      first | exact r_sb (Mo_nextToken_b224_ok g N _ hD  N _ _ _ _ hE) ⟨rfl, trivial⟩ | exact r_sb (Mo_nextToken_b224_ok g N _ hD  N _ _ _ _ hE) (by simp only [su1, su2, dr1_rf, dr1_in, dr1_lo, dr2_rf, dr2_in, dr2_lo]; exact ⟨rfl, trivial⟩)
def Mo_nextToken_b52 (N : Nat) (a0 : Nat) (h : PH) : Option (Unit × PH) :=
  ck ((hK h a0).1 = 11) <|
  lt0 (wI h a0 5 (hI h a0 4)) fun h2 =>
  lt0 (wJ h2 a0 7 0) fun h4 =>
  lt0 (wI h4 a0 8 0) fun h6 =>
  if (hI h6 a0 4) = (hI h6 a0 3) then
    lt0 (wI h6 a0 6 0) fun h9 =>
    some ((), h9)
  else
    ((hR h6 a0 2)).bind fun a_11 =>
    ck ((hK h6 a_11).1 = 20) <|
    ck (inb (hI h6 a0 4) (hK h6 a_11).2 = true) <|
    if (hI h6 a_11 (ix (hI h6 a0 4))) < 97 then
      Mo_nextToken_b212 N  a0 (hI h6 a_11 (ix (hI h6 a0 4))) h6
    else
      if 122 < (hI h6 a_11 (ix (hI h6 a0 4))) then
        Mo_nextToken_b212 N  a0 (hI h6 a_11 (ix (hI h6 a0 4))) h6
      else
        Mo_nextToken_b109 N N a0 h6
set_option maxRecDepth 20000 in
theorem Mo_nextToken_b52_ok (g : GT) (N : Nat) (D : Nat) (hD : 1 ≤ D) : ∀ (a0 : Nat) (h : PH) (v : Unit) (h' : PH), Mo_nextToken_b52 N a0 h = some (v, h') → Run g pMo_nextToken D 52 [(0, va_rf (some a0))] [] h (rV v) h' := by
  obtain ⟨D2, rfl⟩ : ∃ d, D = d + 1 := ⟨D - 1, by omega⟩
  intro a0 h v h' hE
  unfold Mo_nextToken_b52 at hE
  refine r_aload_n (t := some a0) 0 rfl rfl rfl ?_
  refine r_aload_n (t := some a0) 0 rfl rfl rfl ?_
  obtain ⟨hk1, hE⟩ := ckE hE
  refine r_getI rfl (fl_11_131 rfl) (Or.inl rfl) rfl hk1 ?_
  obtain ⟨h2, he3, hE⟩ := ltE hE
  refine r_putI rfl (fl_11_134 rfl) finF rfl hk1 he3 ?_
  refine r_aload_n (t := some a0) 0 rfl rfl rfl ?_
  refine r_lconst 0 rfl cl_0 ?_
  obtain ⟨h4, he5, hE⟩ := ltE hE
  refine r_putJ rfl (fl_11_137 rfl) finF rfl (kwI he3 hk1) he5 ?_
  refine r_aload_n (t := some a0) 0 rfl rfl rfl ?_
  refine r_iconst 0 rfl ci_0 ?_
  obtain ⟨h6, he7, hE⟩ := ltE hE
  refine r_putI rfl (fl_11_141 rfl) finF rfl (kwJ he5 (kwI he3 hk1)) he7 ?_
  refine r_aload_n (t := some a0) 0 rfl rfl rfl ?_
  refine r_getI rfl (fl_11_131 rfl) (Or.inl rfl) rfl (kwI he7 (kwJ he5 (kwI he3 hk1))) ?_
  refine r_aload_n (t := some a0) 0 rfl rfl rfl ?_
  refine r_getI rfl (fl_11_128 rfl) (Or.inl rfl) rfl (kwI he7 (kwJ he5 (kwI he3 hk1))) ?_
  refine r_icmp_ne (tgt := 87) rfl (by decide) (fun hc8 => ?_) (fun hc8 => ?_)
  · have hE := ifP hc8 hE
    refine r_aload_n (t := some a0) 0 rfl rfl rfl ?_
    refine r_iconst 0 rfl ci_0 ?_
    obtain ⟨h9, he10, hE⟩ := ltE hE
    refine r_putI rfl (fl_11_144 rfl) finF rfl (kwI he7 (kwJ he5 (kwI he3 hk1))) he10 ?_
    cases hE
    exact r_ret rfl (Or.inr (Or.inr (Or.inr ⟨rfl, rfl, rfl, rfl⟩)))
  · have hE := ifN hc8 hE
    refine r_aload_n (t := some a0) 0 rfl rfl rfl ?_
    refine r_getR rfl (fl_11_7 rfl) (Or.inr ⟨_, rfl⟩) rfl (kwI he7 (kwJ he5 (kwI he3 hk1))) ?_
    refine r_aload_n (t := some a0) 0 rfl rfl rfl ?_
    refine r_getI rfl (fl_11_131 rfl) (Or.inl rfl) rfl (kwI he7 (kwJ he5 (kwI he3 hk1))) ?_
    obtain ⟨a_11, ha12, hE⟩ := bnE hE
    obtain ⟨hk13, hE⟩ := ckE hE
    obtain ⟨hi14, hE⟩ := ckE hE
    refine r_iald rfl ha12 hk13 hi14 ?_
    refine r_istore_n 1 rfl rfl (by decide) ?_
    refine r_iload_n 1 rfl rfl rfl ?_
    refine r_bipush 97 rfl cb_97 ?_
    refine r_icmp_lt (tgt := 212) rfl (by decide) (fun hc15 => ?_) (fun hc15 => ?_)
    · have hE := ifP hc15 hE
      first | exact r_sb (Mo_nextToken_b212_ok g N _ hD   _ _ _ _ _ hE) ⟨rfl, rfl, trivial⟩ | exact r_sb (Mo_nextToken_b212_ok g N _ hD   _ _ _ _ _ hE) (by simp only [su1, su2, dr1_rf, dr1_in, dr1_lo, dr2_rf, dr2_in, dr2_lo]; exact ⟨rfl, rfl, trivial⟩)
    · have hE := ifN hc15 hE
      refine r_iload_n 1 rfl rfl rfl ?_
      refine r_bipush 122 rfl cb_122 ?_
      refine r_icmp_gt (tgt := 212) rfl (by decide) (fun hc16 => ?_) (fun hc16 => ?_)
      · have hE := ifP hc16 hE
        first | exact r_sb (Mo_nextToken_b212_ok g N _ hD   _ _ _ _ _ hE) ⟨rfl, rfl, trivial⟩ | exact r_sb (Mo_nextToken_b212_ok g N _ hD   _ _ _ _ _ hE) (by simp only [su1, su2, dr1_rf, dr1_in, dr1_lo, dr2_rf, dr2_in, dr2_lo]; exact ⟨rfl, rfl, trivial⟩)
      · have hE := ifN hc16 hE
        first | exact r_sb (Mo_nextToken_b109_ok g N _ hD  N _ _ _ _ hE) ⟨rfl, trivial⟩ | exact r_sb (Mo_nextToken_b109_ok g N _ hD  N _ _ _ _ hE) (by simp only [su1, su2, dr1_rf, dr1_in, dr1_lo, dr2_rf, dr2_in, dr2_lo]; exact ⟨rfl, trivial⟩)
def Mo_nextToken_b0 (N : Nat) : Nat → Nat → PH → Option (Unit × PH)
  | 0 => fun _ _ => none
  | n + 1 => fun a0 h =>
    ck ((hK h a0).1 = 11) <|
    if (hI h a0 3) ≤ (hI h a0 4) then
      Mo_nextToken_b52 N  a0 h
    else
      ((hR h a0 2)).bind fun a_3 =>
      ck ((hK h a_3).1 = 20) <|
      ck (inb (hI h a0 4) (hK h a_3).2 = true) <|
      if (hI h a_3 (ix (hI h a0 4))) = 32 then
        Mo_nextToken_b39 N (Mo_nextToken_b0 N n)  a0 h
      else
        ck (inb (hI h a0 4) (hK h a_3).2 = true) <|
        if (hI h a_3 (ix (hI h a0 4))) = 10 then
          Mo_nextToken_b39 N (Mo_nextToken_b0 N n)  a0 h
        else
          Mo_nextToken_b52 N  a0 h
set_option maxRecDepth 20000 in
theorem Mo_nextToken_b0_ok (g : GT) (N : Nat) (D : Nat) (hD : 1 ≤ D) : ∀ (n : Nat) (a0 : Nat) (h : PH) (v : Unit) (h' : PH), Mo_nextToken_b0 N n a0 h = some (v, h') → Run g pMo_nextToken D 0 [(0, va_rf (some a0))] [] h (rV v) h' := by
  obtain ⟨D2, rfl⟩ : ∃ d, D = d + 1 := ⟨D - 1, by omega⟩
  intro n
  induction n with
  | zero => exact fun _ _ _ _ hE => nomatch (show none = some _ from hE)
  | succ n ih =>
    intro a0 h v h' hE
    unfold Mo_nextToken_b0 at hE
    refine r_aload_n (t := some a0) 0 rfl rfl rfl ?_
    obtain ⟨hk1, hE⟩ := ckE hE
    refine r_getI rfl (fl_11_131 rfl) (Or.inl rfl) rfl hk1 ?_
    refine r_aload_n (t := some a0) 0 rfl rfl rfl ?_
    refine r_getI rfl (fl_11_128 rfl) (Or.inl rfl) rfl hk1 ?_
    refine r_icmp_ge (tgt := 52) rfl (by decide) (fun hc2 => ?_) (fun hc2 => ?_)
    · have hE := ifP hc2 hE
      first | exact r_sb (Mo_nextToken_b52_ok g N _ hD   _ _ _ _ hE) ⟨rfl, trivial⟩ | exact r_sb (Mo_nextToken_b52_ok g N _ hD   _ _ _ _ hE) (by simp only [su1, su2, dr1_rf, dr1_in, dr1_lo, dr2_rf, dr2_in, dr2_lo]; exact ⟨rfl, trivial⟩)
    · have hE := ifN hc2 hE
      refine r_aload_n (t := some a0) 0 rfl rfl rfl ?_
      refine r_getR rfl (fl_11_7 rfl) (Or.inr ⟨_, rfl⟩) rfl hk1 ?_
      refine r_aload_n (t := some a0) 0 rfl rfl rfl ?_
      refine r_getI rfl (fl_11_131 rfl) (Or.inl rfl) rfl hk1 ?_
      obtain ⟨a_3, ha4, hE⟩ := bnE hE
      obtain ⟨hk5, hE⟩ := ckE hE
      obtain ⟨hi6, hE⟩ := ckE hE
      refine r_iald rfl ha4 hk5 hi6 ?_
      refine r_bipush 32 rfl cb_32 ?_
      refine r_icmp_eq (tgt := 39) rfl (by decide) (fun hc7 => ?_) (fun hc7 => ?_)
      · have hE := ifP hc7 hE
        first | exact r_sb (Mo_nextToken_b39_ok g N _ hD _ ih  _ _ _ _ hE) ⟨rfl, trivial⟩ | exact r_sb (Mo_nextToken_b39_ok g N _ hD _ ih  _ _ _ _ hE) (by simp only [su1, su2, dr1_rf, dr1_in, dr1_lo, dr2_rf, dr2_in, dr2_lo]; exact ⟨rfl, trivial⟩)
      · have hE := ifN hc7 hE
        refine r_aload_n (t := some a0) 0 rfl rfl rfl ?_
        refine r_getR rfl (fl_11_7 rfl) (Or.inr ⟨_, rfl⟩) rfl hk1 ?_
        refine r_aload_n (t := some a0) 0 rfl rfl rfl ?_
        refine r_getI rfl (fl_11_131 rfl) (Or.inl rfl) rfl hk1 ?_
        obtain ⟨hi8, hE⟩ := ckE hE
        refine r_iald rfl ha4 hk5 hi8 ?_
        refine r_bipush 10 rfl cb_10 ?_
        refine r_icmp_ne (tgt := 52) rfl (by decide) (fun hc9 => ?_) (fun hc9 => ?_)
        · have hE := ifP hc9 hE
          first | exact r_sb (Mo_nextToken_b39_ok g N _ hD _ ih  _ _ _ _ hE) ⟨rfl, trivial⟩ | exact r_sb (Mo_nextToken_b39_ok g N _ hD _ ih  _ _ _ _ hE) (by simp only [su1, su2, dr1_rf, dr1_in, dr1_lo, dr2_rf, dr2_in, dr2_lo]; exact ⟨rfl, trivial⟩)
        · have hE := ifN hc9 hE
          first | exact r_sb (Mo_nextToken_b52_ok g N _ hD   _ _ _ _ hE) ⟨rfl, trivial⟩ | exact r_sb (Mo_nextToken_b52_ok g N _ hD   _ _ _ _ hE) (by simp only [su1, su2, dr1_rf, dr1_in, dr1_lo, dr2_rf, dr2_in, dr2_lo]; exact ⟨rfl, trivial⟩)
def Mo_nextToken (N : Nat) (a0 : Nat) (h : PH) : Option (Unit × PH) := Mo_nextToken_b0 N N a0 h
set_option maxRecDepth 20000 in
theorem Mo_nextToken_ok (g : GT) (N : Nat) (a0 : Nat) (h : PH) (v : Unit) (h' : PH) (hE : Mo_nextToken N a0 h = some (v, h')) (D : Nat) (hD : 1 ≤ D) : Calls g D pMo_nextToken [va_rf (some a0)] h (oV v) h' := by
  refine Calls.of cok_Mo_nextToken ht_Mo_nextToken pl_Mo_nextToken (fun ad => by rw [lg_len, sL_cat]; simp only [List.map_cons, List.map_nil, rf_cat, cat_i, cat_l, List.sum_cons, List.sum_nil]; decide) ?_
  rw [show lv_args 0 [va_rf (some a0)] = [(0, va_rf (some a0))] from (by simp only [lv_args, rf_cat, cat_i, cat_l]; try rfl)]
  unfold Mo_nextToken at hE
  exact r_sb (Mo_nextToken_b0_ok g N _ hD N _ _ _ _ hE) ⟨rfl, trivial⟩
def Mo_starts (N : Nat) (a0 : Nat) (h : PH) : Option (Unit × PH) :=
  ck ((hK h a0).1 = 11) <|
  lt0 (wI h a0 3 (hI h a0 1)) fun h2 =>
  lt0 (wI h2 a0 1 0) fun h4 =>
  lt0 (wI h4 a0 4 0) fun h6 =>
  bd (Mo_nextToken N a0 h6) fun v8 h9 =>
  some ((), h9)
set_option maxRecDepth 20000 in
theorem Mo_starts_ok (g : GT) (N : Nat) (a0 : Nat) (h : PH) (v : Unit) (h' : PH) (hE : Mo_starts N a0 h = some (v, h')) (D : Nat) (hD : 2 ≤ D) : Calls g D pMo_starts [va_rf (some a0)] h (oV v) h' := by
  refine Calls.of cok_Mo_starts ht_Mo_starts pl_Mo_starts (fun ad => by rw [lg_len, sL_cat]; simp only [List.map_cons, List.map_nil, rf_cat, cat_i, cat_l, List.sum_cons, List.sum_nil]; decide) ?_
  rw [show lv_args 0 [va_rf (some a0)] = [(0, va_rf (some a0))] from (by simp only [lv_args, rf_cat, cat_i, cat_l]; try rfl)]
  obtain ⟨D2, rfl⟩ : ∃ d, D = d + 1 := ⟨D - 1, by omega⟩
  unfold Mo_starts at hE
  refine r_aload_n (t := some a0) 0 rfl rfl rfl ?_
  refine r_aload_n (t := some a0) 0 rfl rfl rfl ?_
  obtain ⟨hk1, hE⟩ := ckE hE
  refine r_getI rfl (fl_11_125 rfl) (Or.inl rfl) rfl hk1 ?_
  obtain ⟨h2, he3, hE⟩ := ltE hE
  refine r_putI rfl (fl_11_128 rfl) finF rfl hk1 he3 ?_
  refine r_aload_n (t := some a0) 0 rfl rfl rfl ?_
  refine r_iconst 0 rfl ci_0 ?_
  obtain ⟨h4, he5, hE⟩ := ltE hE
  refine r_putI rfl (fl_11_125 rfl) finF rfl (kwI he3 hk1) he5 ?_
  refine r_aload_n (t := some a0) 0 rfl rfl rfl ?_
  refine r_iconst 0 rfl ci_0 ?_
  obtain ⟨h6, he7, hE⟩ := ltE hE
  refine r_putI rfl (fl_11_131 rfl) finF rfl (kwI he5 (kwI he3 hk1)) he7 ?_
  refine r_aload_n (t := some a0) 0 rfl rfl rfl ?_
  obtain ⟨v8, h9, hq10, hE⟩ := bdE hE
  refine r_callV0 (rest := []) (hc := (Mo_nextToken_ok g N _ _ _ _ hq10 D2 (by omega))) rfl pm_Mo_nextToken lw_11_191 im_Mo_nextToken sl_Mo_nextToken rfl rfl rfl (rcOK (kwI he7 (kwI he5 (kwI he3 hk1))) rfl) (by decide) ?_
  cases hE
  exact r_ret rfl (Or.inr (Or.inr (Or.inr ⟨rfl, rfl, rfl, rfl⟩)))
def Mo_isWord (N : Nat) (a0 : Nat) (x1 : Int64) (h : PH) : Option (Bool × PH) :=
  ck ((hK h a0).1 = 11) <|
  if (hI h a0 6) = 1 then
    if (lg_cmp (hJ h a0 7) x1) = 0 then
      some (true, h)
    else
      some (false, h)
  else
    some (false, h)
set_option maxRecDepth 20000 in
theorem Mo_isWord_ok (g : GT) (N : Nat) (a0 : Nat) (x1 : Int64) (h : PH) (v : Bool) (h' : PH) (hE : Mo_isWord N a0 x1 h = some (v, h')) (D : Nat) (hD : 0 ≤ D) : Calls g D pMo_isWord [va_rf (some a0), .long x1] h (oZ v) h' := by
  refine Calls.of cok_Mo_isWord ht_Mo_isWord pl_Mo_isWord (fun ad => by rw [lg_len, sL_cat]; simp only [List.map_cons, List.map_nil, rf_cat, cat_i, cat_l, List.sum_cons, List.sum_nil]; decide) ?_
  rw [show lv_args 0 [va_rf (some a0), .long x1] = [(0, va_rf (some a0)), (1, .long x1)] from (by simp only [lv_args, rf_cat, cat_i, cat_l]; try rfl)]
  unfold Mo_isWord at hE
  refine r_aload_n (t := some a0) 0 rfl rfl rfl ?_
  obtain ⟨hk1, hE⟩ := ckE hE
  refine r_getI rfl (fl_11_144 rfl) (Or.inl rfl) rfl hk1 ?_
  refine r_iconst 1 rfl ci_1 ?_
  refine r_icmp_ne (tgt := 21) rfl (by decide) (fun hc2 => ?_) (fun hc2 => ?_)
  · have hE := ifP hc2 hE
    refine r_aload_n (t := some a0) 0 rfl rfl rfl ?_
    refine r_getJ rfl (fl_11_137 rfl) rfl hk1 ?_
    refine r_lload_n 1 rfl rfl rfl ?_
    refine r_lcmp rfl ?_
    refine r_if_ne (tgt := 21) rfl (by decide) (fun hc3 => ?_) (fun hc3 => ?_)
    · have hE := ifP hc3 hE
      refine r_iconst 1 rfl ci_1 ?_
      refine r_goto (tgt := 22) rfl (by decide) ?_
      cases hE
      exact r_ret rfl (Or.inl ⟨rfl, _, _, rfl, rfl, rfl, rfl⟩)
    · have hE := ifN hc3 hE
      refine r_iconst 0 rfl ci_0 ?_
      cases hE
      exact r_ret rfl (Or.inl ⟨rfl, _, _, rfl, rfl, rfl, rfl⟩)
  · have hE := ifN hc2 hE
    refine r_iconst 0 rfl ci_0 ?_
    cases hE
    exact r_ret rfl (Or.inl ⟨rfl, _, _, rfl, rfl, rfl, rfl⟩)
def Mo_fails (N : Nat) (a0 : Nat) (x1 : Int32) (h : PH) : Option (Bool × PH) :=
  ck ((hK h a0).1 = 11) <|
  lt0 (wI h a0 9 (x1 + (16 * (hI h a0 5)))) fun h2 =>
  some (false, h2)
set_option maxRecDepth 20000 in
theorem Mo_fails_ok (g : GT) (N : Nat) (a0 : Nat) (x1 : Int32) (h : PH) (v : Bool) (h' : PH) (hE : Mo_fails N a0 x1 h = some (v, h')) (D : Nat) (hD : 0 ≤ D) : Calls g D pMo_fails [va_rf (some a0), .int x1] h (oZ v) h' := by
  refine Calls.of cok_Mo_fails ht_Mo_fails pl_Mo_fails (fun ad => by rw [lg_len, sL_cat]; simp only [List.map_cons, List.map_nil, rf_cat, cat_i, cat_l, List.sum_cons, List.sum_nil]; decide) ?_
  rw [show lv_args 0 [va_rf (some a0), .int x1] = [(0, va_rf (some a0)), (1, .int x1)] from (by simp only [lv_args, rf_cat, cat_i, cat_l]; try rfl)]
  unfold Mo_fails at hE
  refine r_aload_n (t := some a0) 0 rfl rfl rfl ?_
  refine r_iload_n 1 rfl rfl rfl ?_
  refine r_bipush 16 rfl cb_16 ?_
  refine r_aload_n (t := some a0) 0 rfl rfl rfl ?_
  obtain ⟨hk1, hE⟩ := ckE hE
  refine r_getI rfl (fl_11_134 rfl) (Or.inl rfl) rfl hk1 ?_
  refine r_imul rfl ?_
  refine r_iadd rfl ?_
  obtain ⟨h2, he3, hE⟩ := ltE hE
  refine r_putI rfl (fl_11_155 rfl) finF rfl hk1 he3 ?_
  refine r_iconst 0 rfl ci_0 ?_
  cases hE
  exact r_ret rfl (Or.inl ⟨rfl, _, _, rfl, rfl, rfl, rfl⟩)
def Mo_needsWord (N : Nat) (a0 : Nat) (x1 : Int64) (h : PH) : Option (Bool × PH) :=
  ck ((hK h a0).1 = 11) <|
  bd (Mo_isWord N a0 x1 h) fun v2 h3 =>
  if (bI v2) = 0 then
    ck ((hK h3 a0).1 = 11) <|
    bd (Mo_fails N a0 1 h3) fun v7 h8 =>
    some (v7, h8)
  else
    ck ((hK h3 a0).1 = 11) <|
    bd (Mo_nextToken N a0 h3) fun v11 h12 =>
    some (true, h12)
set_option maxRecDepth 20000 in
theorem Mo_needsWord_ok (g : GT) (N : Nat) (a0 : Nat) (x1 : Int64) (h : PH) (v : Bool) (h' : PH) (hE : Mo_needsWord N a0 x1 h = some (v, h')) (D : Nat) (hD : 2 ≤ D) : Calls g D pMo_needsWord [va_rf (some a0), .long x1] h (oZ v) h' := by
  refine Calls.of cok_Mo_needsWord ht_Mo_needsWord pl_Mo_needsWord (fun ad => by rw [lg_len, sL_cat]; simp only [List.map_cons, List.map_nil, rf_cat, cat_i, cat_l, List.sum_cons, List.sum_nil]; decide) ?_
  rw [show lv_args 0 [va_rf (some a0), .long x1] = [(0, va_rf (some a0)), (1, .long x1)] from (by simp only [lv_args, rf_cat, cat_i, cat_l]; try rfl)]
  obtain ⟨D2, rfl⟩ : ∃ d, D = d + 1 := ⟨D - 1, by omega⟩
  unfold Mo_needsWord at hE
  refine r_aload_n (t := some a0) 0 rfl rfl rfl ?_
  refine r_lload_n 1 rfl rfl rfl ?_
  obtain ⟨hk1, hE⟩ := ckE hE
  obtain ⟨v2, h3, hq4, hE⟩ := bdE hE
  refine r_callV1 (rest := []) (hc := (Mo_isWord_ok g N _ _ _ _ _ hq4 D2 (by omega))) rfl pm_Mo_isWord lw_11_177 im_Mo_isWord sl_Mo_isWord rfl rfl rfl (rcOK hk1 rfl) (by decide) ?_
  refine r_if_ne (tgt := 14) rfl (by decide) (fun hc5 => ?_) (fun hc5 => ?_)
  · have hE := ifP hc5 hE
    refine r_aload_n (t := some a0) 0 rfl rfl rfl ?_
    refine r_iconst 1 rfl ci_1 ?_
    obtain ⟨hk6, hE⟩ := ckE hE
    obtain ⟨v7, h8, hq9, hE⟩ := bdE hE
    refine r_callV1 (rest := []) (hc := (Mo_fails_ok g N _ _ _ _ _ hq9 D2 (by omega))) rfl pm_Mo_fails lw_11_185 im_Mo_fails sl_Mo_fails rfl rfl rfl (rcOK hk6 rfl) (by decide) ?_
    cases hE
    exact r_ret rfl (Or.inl ⟨rfl, _, _, rfl, by first | rfl | rw [rZ, oZ, bI_tb (isB_bI _)], rfl, nar_B (isB_bI _)⟩)
  · have hE := ifN hc5 hE
    refine r_aload_n (t := some a0) 0 rfl rfl rfl ?_
    obtain ⟨hk10, hE⟩ := ckE hE
    obtain ⟨v11, h12, hq13, hE⟩ := bdE hE
    refine r_callV0 (rest := []) (hc := (Mo_nextToken_ok g N _ _ _ _ hq13 D2 (by omega))) rfl pm_Mo_nextToken lw_11_191 im_Mo_nextToken sl_Mo_nextToken rfl rfl rfl (rcOK hk10 rfl) (by decide) ?_
    refine r_iconst 1 rfl ci_1 ?_
    cases hE
    exact r_ret rfl (Or.inl ⟨rfl, _, _, rfl, rfl, rfl, rfl⟩)
def Mo_within (N : Nat) (x0 : Int32) (x1 : Int32) (x2 : Int32) (h : PH) : Option (Bool × PH) :=
  if x0 < x1 then
    some (false, h)
  else
    if x2 < x0 then
      some (false, h)
    else
      some (true, h)
set_option maxRecDepth 20000 in
theorem Mo_within_ok (g : GT) (N : Nat) (x0 : Int32) (x1 : Int32) (x2 : Int32) (h : PH) (v : Bool) (h' : PH) (hE : Mo_within N x0 x1 x2 h = some (v, h')) (D : Nat) (hD : 0 ≤ D) : Calls g D pMo_within [.int x0, .int x1, .int x2] h (oZ v) h' := by
  refine Calls.of cok_Mo_within ht_Mo_within pl_Mo_within (fun ad => by rw [lg_len, sL_cat]; simp only [List.map_cons, List.map_nil, rf_cat, cat_i, cat_l, List.sum_cons, List.sum_nil]; decide) ?_
  rw [show lv_args 0 [.int x0, .int x1, .int x2] = [(0, .int x0), (1, .int x1), (2, .int x2)] from (by simp only [lv_args, rf_cat, cat_i, cat_l]; try rfl)]
  unfold Mo_within at hE
  refine r_iload_n 0 rfl rfl rfl ?_
  refine r_iload_n 1 rfl rfl rfl ?_
  refine r_icmp_lt (tgt := 14) rfl (by decide) (fun hc1 => ?_) (fun hc1 => ?_)
  · have hE := ifP hc1 hE
    refine r_iconst 0 rfl ci_0 ?_
    cases hE
    exact r_ret rfl (Or.inl ⟨rfl, _, _, rfl, rfl, rfl, rfl⟩)
  · have hE := ifN hc1 hE
    refine r_iload_n 0 rfl rfl rfl ?_
    refine r_iload_n 2 rfl rfl rfl ?_
    refine r_icmp_gt (tgt := 14) rfl (by decide) (fun hc2 => ?_) (fun hc2 => ?_)
    · have hE := ifP hc2 hE
      refine r_iconst 0 rfl ci_0 ?_
      cases hE
      exact r_ret rfl (Or.inl ⟨rfl, _, _, rfl, rfl, rfl, rfl⟩)
    · have hE := ifN hc2 hE
      refine r_iconst 1 rfl ci_1 ?_
      refine r_goto (tgt := 15) rfl (by decide) ?_
      cases hE
      exact r_ret rfl (Or.inl ⟨rfl, _, _, rfl, rfl, rfl, rfl⟩)
def Mo_needsNumber (N : Nat) (a0 : Nat) (x1 : Int32) (x2 : Int32) (h : PH) : Option (Bool × PH) :=
  ck ((hK h a0).1 = 11) <|
  if (hI h a0 6) = 2 then
    bd (Mo_within N (hI h a0 8) x1 x2 h) fun v3 h4 =>
    if (bI v3) = 0 then
      ck ((hK h4 a0).1 = 11) <|
      bd (Mo_fails N a0 4 h4) fun v8 h9 =>
      some (v8, h9)
    else
      ck ((hK h4 a0).1 = 11) <|
      lt0 (wI h4 a0 31 (hI h4 a0 8)) fun h12 =>
      bd (Mo_nextToken N a0 h12) fun v14 h15 =>
      some (true, h15)
  else
    bd (Mo_fails N a0 1 h) fun v17 h18 =>
    some (v17, h18)
set_option maxRecDepth 20000 in
theorem Mo_needsNumber_ok (g : GT) (N : Nat) (a0 : Nat) (x1 : Int32) (x2 : Int32) (h : PH) (v : Bool) (h' : PH) (hE : Mo_needsNumber N a0 x1 x2 h = some (v, h')) (D : Nat) (hD : 2 ≤ D) : Calls g D pMo_needsNumber [va_rf (some a0), .int x1, .int x2] h (oZ v) h' := by
  refine Calls.of cok_Mo_needsNumber ht_Mo_needsNumber pl_Mo_needsNumber (fun ad => by rw [lg_len, sL_cat]; simp only [List.map_cons, List.map_nil, rf_cat, cat_i, cat_l, List.sum_cons, List.sum_nil]; decide) ?_
  rw [show lv_args 0 [va_rf (some a0), .int x1, .int x2] = [(0, va_rf (some a0)), (1, .int x1), (2, .int x2)] from (by simp only [lv_args, rf_cat, cat_i, cat_l]; try rfl)]
  obtain ⟨D2, rfl⟩ : ∃ d, D = d + 1 := ⟨D - 1, by omega⟩
  unfold Mo_needsNumber at hE
  refine r_aload_n (t := some a0) 0 rfl rfl rfl ?_
  obtain ⟨hk1, hE⟩ := ckE hE
  refine r_getI rfl (fl_11_144 rfl) (Or.inl rfl) rfl hk1 ?_
  refine r_iconst 2 rfl ci_2 ?_
  refine r_icmp_eq (tgt := 14) rfl (by decide) (fun hc2 => ?_) (fun hc2 => ?_)
  · have hE := ifP hc2 hE
    refine r_aload_n (t := some a0) 0 rfl rfl rfl ?_
    refine r_getI rfl (fl_11_141 rfl) (Or.inl rfl) rfl hk1 ?_
    refine r_iload_n 1 rfl rfl rfl ?_
    refine r_iload_n 2 rfl rfl rfl ?_
    obtain ⟨v3, h4, hq5, hE⟩ := bdE hE
    refine r_callS1 (rest := []) (hc := (Mo_within_ok g N _ _ _ _ _ _ hq5 D2 (by omega))) rfl pm_Mo_within lw_11_247 st_Mo_within rfl rfl (by decide) ?_
    refine r_if_ne (tgt := 32) rfl (by decide) (fun hc6 => ?_) (fun hc6 => ?_)
    · have hE := ifP hc6 hE
      refine r_aload_n (t := some a0) 0 rfl rfl rfl ?_
      refine r_iconst 4 rfl ci_4 ?_
      obtain ⟨hk7, hE⟩ := ckE hE
      obtain ⟨v8, h9, hq10, hE⟩ := bdE hE
      refine r_callV1 (rest := []) (hc := (Mo_fails_ok g N _ _ _ _ _ hq10 D2 (by omega))) rfl pm_Mo_fails lw_11_185 im_Mo_fails sl_Mo_fails rfl rfl rfl (rcOK hk7 rfl) (by decide) ?_
      cases hE
      exact r_ret rfl (Or.inl ⟨rfl, _, _, rfl, by first | rfl | rw [rZ, oZ, bI_tb (isB_bI _)], rfl, nar_B (isB_bI _)⟩)
    · have hE := ifN hc6 hE
      refine r_aload_n (t := some a0) 0 rfl rfl rfl ?_
      refine r_aload_n (t := some a0) 0 rfl rfl rfl ?_
      obtain ⟨hk11, hE⟩ := ckE hE
      refine r_getI rfl (fl_11_141 rfl) (Or.inl rfl) rfl hk11 ?_
      obtain ⟨h12, he13, hE⟩ := ltE hE
      refine r_putI rfl (fl_11_251 rfl) finF rfl hk11 he13 ?_
      refine r_aload_n (t := some a0) 0 rfl rfl rfl ?_
      obtain ⟨v14, h15, hq16, hE⟩ := bdE hE
      refine r_callV0 (rest := []) (hc := (Mo_nextToken_ok g N _ _ _ _ hq16 D2 (by omega))) rfl pm_Mo_nextToken lw_11_191 im_Mo_nextToken sl_Mo_nextToken rfl rfl rfl (rcOK (kwI he13 hk11) rfl) (by decide) ?_
      refine r_iconst 1 rfl ci_1 ?_
      cases hE
      exact r_ret rfl (Or.inl ⟨rfl, _, _, rfl, rfl, rfl, rfl⟩)
  · have hE := ifN hc2 hE
    refine r_aload_n (t := some a0) 0 rfl rfl rfl ?_
    refine r_iconst 1 rfl ci_1 ?_
    obtain ⟨v17, h18, hq19, hE⟩ := bdE hE
    refine r_callV1 (rest := []) (hc := (Mo_fails_ok g N _ _ _ _ _ hq19 D2 (by omega))) rfl pm_Mo_fails lw_11_185 im_Mo_fails sl_Mo_fails rfl rfl rfl (rcOK hk1 rfl) (by decide) ?_
    cases hE
    exact r_ret rfl (Or.inl ⟨rfl, _, _, rfl, by first | rfl | rw [rZ, oZ, bI_tb (isB_bI _)], rfl, nar_B (isB_bI _)⟩)
def Mo_needsBoth (N : Nat) (a0 : Nat) (x1 : Int64) (x3 : Int32) (x4 : Int32) (h : PH) : Option (Bool × PH) :=
  ck ((hK h a0).1 = 11) <|
  bd (Mo_needsWord N a0 x1 h) fun v2 h3 =>
  if (bI v2) = 0 then
    some (false, h3)
  else
    ck ((hK h3 a0).1 = 11) <|
    bd (Mo_needsNumber N a0 x3 x4 h3) fun v7 h8 =>
    if (bI v7) = 0 then
      some (false, h8)
    else
      some (true, h8)
set_option maxRecDepth 20000 in
theorem Mo_needsBoth_ok (g : GT) (N : Nat) (a0 : Nat) (x1 : Int64) (x3 : Int32) (x4 : Int32) (h : PH) (v : Bool) (h' : PH) (hE : Mo_needsBoth N a0 x1 x3 x4 h = some (v, h')) (D : Nat) (hD : 3 ≤ D) : Calls g D pMo_needsBoth [va_rf (some a0), .long x1, .int x3, .int x4] h (oZ v) h' := by
  refine Calls.of cok_Mo_needsBoth ht_Mo_needsBoth pl_Mo_needsBoth (fun ad => by rw [lg_len, sL_cat]; simp only [List.map_cons, List.map_nil, rf_cat, cat_i, cat_l, List.sum_cons, List.sum_nil]; decide) ?_
  rw [show lv_args 0 [va_rf (some a0), .long x1, .int x3, .int x4] = [(0, va_rf (some a0)), (1, .long x1), (3, .int x3), (4, .int x4)] from (by simp only [lv_args, rf_cat, cat_i, cat_l]; try rfl)]
  obtain ⟨D2, rfl⟩ : ∃ d, D = d + 1 := ⟨D - 1, by omega⟩
  unfold Mo_needsBoth at hE
  refine r_aload_n (t := some a0) 0 rfl rfl rfl ?_
  refine r_lload_n 1 rfl rfl rfl ?_
  obtain ⟨hk1, hE⟩ := ckE hE
  obtain ⟨v2, h3, hq4, hE⟩ := bdE hE
  refine r_callV1 (rest := []) (hc := (Mo_needsWord_ok g N _ _ _ _ _ hq4 D2 (by omega))) rfl pm_Mo_needsWord lw_11_254 im_Mo_needsWord sl_Mo_needsWord rfl rfl rfl (rcOK hk1 rfl) (by decide) ?_
  refine r_if_eq (tgt := 22) rfl (by decide) (fun hc5 => ?_) (fun hc5 => ?_)
  · have hE := ifP hc5 hE
    refine r_iconst 0 rfl ci_0 ?_
    cases hE
    exact r_ret rfl (Or.inl ⟨rfl, _, _, rfl, rfl, rfl, rfl⟩)
  · have hE := ifN hc5 hE
    refine r_aload_n (t := some a0) 0 rfl rfl rfl ?_
    refine r_iload_n 3 rfl rfl rfl ?_
    refine r_iload rfl rfl ?_
    obtain ⟨hk6, hE⟩ := ckE hE
    obtain ⟨v7, h8, hq9, hE⟩ := bdE hE
    refine r_callV1 (rest := []) (hc := (Mo_needsNumber_ok g N _ _ _ _ _ _ hq9 D2 (by omega))) rfl pm_Mo_needsNumber lw_11_257 im_Mo_needsNumber sl_Mo_needsNumber rfl rfl rfl (rcOK hk6 rfl) (by decide) ?_
    refine r_if_eq (tgt := 22) rfl (by decide) (fun hc10 => ?_) (fun hc10 => ?_)
    · have hE := ifP hc10 hE
      refine r_iconst 0 rfl ci_0 ?_
      cases hE
      exact r_ret rfl (Or.inl ⟨rfl, _, _, rfl, rfl, rfl, rfl⟩)
    · have hE := ifN hc10 hE
      refine r_iconst 1 rfl ci_1 ?_
      refine r_goto (tgt := 23) rfl (by decide) ?_
      cases hE
      exact r_ret rfl (Or.inl ⟨rfl, _, _, rfl, rfl, rfl, rfl⟩)
def Mo_isSign (N : Nat) (a0 : Nat) (x1 : Int32) (h : PH) : Option (Bool × PH) :=
  ck ((hK h a0).1 = 11) <|
  if (hI h a0 6) = 3 then
    ((hR h a0 2)).bind fun a_3 =>
    ck ((hK h a_3).1 = 20) <|
    ck (inb (hI h a0 5) (hK h a_3).2 = true) <|
    if (hI h a_3 (ix (hI h a0 5))) = x1 then
      some (true, h)
    else
      some (false, h)
  else
    some (false, h)
set_option maxRecDepth 20000 in
theorem Mo_isSign_ok (g : GT) (N : Nat) (a0 : Nat) (x1 : Int32) (h : PH) (v : Bool) (h' : PH) (hE : Mo_isSign N a0 x1 h = some (v, h')) (D : Nat) (hD : 0 ≤ D) : Calls g D pMo_isSign [va_rf (some a0), .int x1] h (oZ v) h' := by
  refine Calls.of cok_Mo_isSign ht_Mo_isSign pl_Mo_isSign (fun ad => by rw [lg_len, sL_cat]; simp only [List.map_cons, List.map_nil, rf_cat, cat_i, cat_l, List.sum_cons, List.sum_nil]; decide) ?_
  rw [show lv_args 0 [va_rf (some a0), .int x1] = [(0, va_rf (some a0)), (1, .int x1)] from (by simp only [lv_args, rf_cat, cat_i, cat_l]; try rfl)]
  unfold Mo_isSign at hE
  refine r_aload_n (t := some a0) 0 rfl rfl rfl ?_
  obtain ⟨hk1, hE⟩ := ckE hE
  refine r_getI rfl (fl_11_144 rfl) (Or.inl rfl) rfl hk1 ?_
  refine r_iconst 3 rfl ci_3 ?_
  refine r_icmp_ne (tgt := 25) rfl (by decide) (fun hc2 => ?_) (fun hc2 => ?_)
  · have hE := ifP hc2 hE
    refine r_aload_n (t := some a0) 0 rfl rfl rfl ?_
    refine r_getR rfl (fl_11_7 rfl) (Or.inr ⟨_, rfl⟩) rfl hk1 ?_
    refine r_aload_n (t := some a0) 0 rfl rfl rfl ?_
    refine r_getI rfl (fl_11_134 rfl) (Or.inl rfl) rfl hk1 ?_
    obtain ⟨a_3, ha4, hE⟩ := bnE hE
    obtain ⟨hk5, hE⟩ := ckE hE
    obtain ⟨hi6, hE⟩ := ckE hE
    refine r_iald rfl ha4 hk5 hi6 ?_
    refine r_iload_n 1 rfl rfl rfl ?_
    refine r_icmp_ne (tgt := 25) rfl (by decide) (fun hc7 => ?_) (fun hc7 => ?_)
    · have hE := ifP hc7 hE
      refine r_iconst 1 rfl ci_1 ?_
      refine r_goto (tgt := 26) rfl (by decide) ?_
      cases hE
      exact r_ret rfl (Or.inl ⟨rfl, _, _, rfl, rfl, rfl, rfl⟩)
    · have hE := ifN hc7 hE
      refine r_iconst 0 rfl ci_0 ?_
      cases hE
      exact r_ret rfl (Or.inl ⟨rfl, _, _, rfl, rfl, rfl, rfl⟩)
  · have hE := ifN hc2 hE
    refine r_iconst 0 rfl ci_0 ?_
    cases hE
    exact r_ret rfl (Or.inl ⟨rfl, _, _, rfl, rfl, rfl, rfl⟩)
def Mo_closes (N : Nat) (a0 : Nat) (h : PH) : Option (Bool × PH) :=
  ck ((hK h a0).1 = 11) <|
  bd (Mo_isSign N a0 59 h) fun v2 h3 =>
  if (bI v2) = 0 then
    ck ((hK h3 a0).1 = 11) <|
    bd (Mo_fails N a0 1 h3) fun v7 h8 =>
    some (v7, h8)
  else
    ck ((hK h3 a0).1 = 11) <|
    bd (Mo_nextToken N a0 h3) fun v11 h12 =>
    some (true, h12)
set_option maxRecDepth 20000 in
theorem Mo_closes_ok (g : GT) (N : Nat) (a0 : Nat) (h : PH) (v : Bool) (h' : PH) (hE : Mo_closes N a0 h = some (v, h')) (D : Nat) (hD : 2 ≤ D) : Calls g D pMo_closes [va_rf (some a0)] h (oZ v) h' := by
  refine Calls.of cok_Mo_closes ht_Mo_closes pl_Mo_closes (fun ad => by rw [lg_len, sL_cat]; simp only [List.map_cons, List.map_nil, rf_cat, cat_i, cat_l, List.sum_cons, List.sum_nil]; decide) ?_
  rw [show lv_args 0 [va_rf (some a0)] = [(0, va_rf (some a0))] from (by simp only [lv_args, rf_cat, cat_i, cat_l]; try rfl)]
  obtain ⟨D2, rfl⟩ : ∃ d, D = d + 1 := ⟨D - 1, by omega⟩
  unfold Mo_closes at hE
  refine r_aload_n (t := some a0) 0 rfl rfl rfl ?_
  refine r_bipush 59 rfl cb_59 ?_
  obtain ⟨hk1, hE⟩ := ckE hE
  obtain ⟨v2, h3, hq4, hE⟩ := bdE hE
  refine r_callV1 (rest := []) (hc := (Mo_isSign_ok g N _ _ _ _ _ hq4 D2 (by omega))) rfl pm_Mo_isSign lw_11_181 im_Mo_isSign sl_Mo_isSign rfl rfl rfl (rcOK hk1 rfl) (by decide) ?_
  refine r_if_ne (tgt := 15) rfl (by decide) (fun hc5 => ?_) (fun hc5 => ?_)
  · have hE := ifP hc5 hE
    refine r_aload_n (t := some a0) 0 rfl rfl rfl ?_
    refine r_iconst 1 rfl ci_1 ?_
    obtain ⟨hk6, hE⟩ := ckE hE
    obtain ⟨v7, h8, hq9, hE⟩ := bdE hE
    refine r_callV1 (rest := []) (hc := (Mo_fails_ok g N _ _ _ _ _ hq9 D2 (by omega))) rfl pm_Mo_fails lw_11_185 im_Mo_fails sl_Mo_fails rfl rfl rfl (rcOK hk6 rfl) (by decide) ?_
    cases hE
    exact r_ret rfl (Or.inl ⟨rfl, _, _, rfl, by first | rfl | rw [rZ, oZ, bI_tb (isB_bI _)], rfl, nar_B (isB_bI _)⟩)
  · have hE := ifN hc5 hE
    refine r_aload_n (t := some a0) 0 rfl rfl rfl ?_
    obtain ⟨hk10, hE⟩ := ckE hE
    obtain ⟨v11, h12, hq13, hE⟩ := bdE hE
    refine r_callV0 (rest := []) (hc := (Mo_nextToken_ok g N _ _ _ _ hq13 D2 (by omega))) rfl pm_Mo_nextToken lw_11_191 im_Mo_nextToken sl_Mo_nextToken rfl rfl rfl (rcOK hk10 rfl) (by decide) ?_
    refine r_iconst 1 rfl ci_1 ?_
    cases hE
    exact r_ret rfl (Or.inl ⟨rfl, _, _, rfl, rfl, rfl, rfl⟩)
def Mo_isTwice (N : Nat) (a0 : Nat) (x1 : Int32) (h : PH) : Option (Bool × PH) :=
  ck ((hK h a0).1 = 11) <|
  if (((hI h a0 18) >>> (x1 &&& 31)) &&& 1) = 1 then
    some (true, h)
  else
    lt0 (wI h a0 18 ((hI h a0 18) ||| (1 <<< (x1 &&& 31)))) fun h3 =>
    some (false, h3)
set_option maxRecDepth 20000 in
theorem Mo_isTwice_ok (g : GT) (N : Nat) (a0 : Nat) (x1 : Int32) (h : PH) (v : Bool) (h' : PH) (hE : Mo_isTwice N a0 x1 h = some (v, h')) (D : Nat) (hD : 0 ≤ D) : Calls g D pMo_isTwice [va_rf (some a0), .int x1] h (oZ v) h' := by
  refine Calls.of cok_Mo_isTwice ht_Mo_isTwice pl_Mo_isTwice (fun ad => by rw [lg_len, sL_cat]; simp only [List.map_cons, List.map_nil, rf_cat, cat_i, cat_l, List.sum_cons, List.sum_nil]; decide) ?_
  rw [show lv_args 0 [va_rf (some a0), .int x1] = [(0, va_rf (some a0)), (1, .int x1)] from (by simp only [lv_args, rf_cat, cat_i, cat_l]; try rfl)]
  unfold Mo_isTwice at hE
  refine r_aload_n (t := some a0) 0 rfl rfl rfl ?_
  obtain ⟨hk1, hE⟩ := ckE hE
  refine r_getI rfl (fl_11_261 rfl) (Or.inl rfl) rfl hk1 ?_
  refine r_iload_n 1 rfl rfl rfl ?_
  refine r_ishr rfl ?_
  refine r_iconst 1 rfl ci_1 ?_
  refine r_iand rfl ?_
  refine r_iconst 1 rfl ci_1 ?_
  refine r_icmp_ne (tgt := 14) rfl (by decide) (fun hc2 => ?_) (fun hc2 => ?_)
  · have hE := ifP hc2 hE
    refine r_iconst 1 rfl ci_1 ?_
    cases hE
    exact r_ret rfl (Or.inl ⟨rfl, _, _, rfl, rfl, rfl, rfl⟩)
  · have hE := ifN hc2 hE
    refine r_aload_n (t := some a0) 0 rfl rfl rfl ?_
    refine r_dup rfl (rf_cat _) ?_
    refine r_getI rfl (fl_11_261 rfl) (Or.inl rfl) rfl hk1 ?_
    refine r_iconst 1 rfl ci_1 ?_
    refine r_iload_n 1 rfl rfl rfl ?_
    refine r_ishl rfl ?_
    refine r_ior rfl ?_
    obtain ⟨h3, he4, hE⟩ := ltE hE
    refine r_putI rfl (fl_11_261 rfl) finF rfl hk1 he4 ?_
    refine r_iconst 0 rfl ci_0 ?_
    cases hE
    exact r_ret rfl (Or.inl ⟨rfl, _, _, rfl, rfl, rfl, rfl⟩)
def Mo_readsOne (N : Nat) (a0 : Nat) (x1 : Int32) (x2 : Int32) (x3 : Int32) (h : PH) : Option (Bool × PH) :=
  ck ((hK h a0).1 = 11) <|
  bd (Mo_isTwice N a0 x1 h) fun v2 h3 =>
  if (bI v2) = 0 then
    ck ((hK h3 a0).1 = 11) <|
    bd (Mo_nextToken N a0 h3) fun v7 h8 =>
    ck ((hK h8 a0).1 = 11) <|
    bd (Mo_needsNumber N a0 x2 x3 h8) fun v11 h12 =>
    if (bI v11) = 0 then
      some (false, h12)
    else
      ck ((hK h12 a0).1 = 11) <|
      ((hR h12 a0 10)).bind fun a_16 =>
      ck ((hK h12 a_16).1 = 20) <|
      ck (inb (18 + x1) (hK h12 a_16).2 = true) <|
      lt0 (wI h12 a_16 (ix (18 + x1)) (hI h12 a0 31)) fun h20 =>
      bd (Mo_closes N a0 h20) fun v22 h23 =>
      some (v22, h23)
  else
    ck ((hK h3 a0).1 = 11) <|
    bd (Mo_fails N a0 3 h3) fun v26 h27 =>
    some (v26, h27)
set_option maxRecDepth 20000 in
theorem Mo_readsOne_ok (g : GT) (N : Nat) (a0 : Nat) (x1 : Int32) (x2 : Int32) (x3 : Int32) (h : PH) (v : Bool) (h' : PH) (hE : Mo_readsOne N a0 x1 x2 x3 h = some (v, h')) (D : Nat) (hD : 3 ≤ D) : Calls g D pMo_readsOne [va_rf (some a0), .int x1, .int x2, .int x3] h (oZ v) h' := by
  refine Calls.of cok_Mo_readsOne ht_Mo_readsOne pl_Mo_readsOne (fun ad => by rw [lg_len, sL_cat]; simp only [List.map_cons, List.map_nil, rf_cat, cat_i, cat_l, List.sum_cons, List.sum_nil]; decide) ?_
  rw [show lv_args 0 [va_rf (some a0), .int x1, .int x2, .int x3] = [(0, va_rf (some a0)), (1, .int x1), (2, .int x2), (3, .int x3)] from (by simp only [lv_args, rf_cat, cat_i, cat_l]; try rfl)]
  obtain ⟨D2, rfl⟩ : ∃ d, D = d + 1 := ⟨D - 1, by omega⟩
  unfold Mo_readsOne at hE
  refine r_aload_n (t := some a0) 0 rfl rfl rfl ?_
  refine r_iload_n 1 rfl rfl rfl ?_
  obtain ⟨hk1, hE⟩ := ckE hE
  obtain ⟨v2, h3, hq4, hE⟩ := bdE hE
  refine r_callV1 (rest := []) (hc := (Mo_isTwice_ok g N _ _ _ _ _ hq4 D2 (by omega))) rfl pm_Mo_isTwice lw_11_264 im_Mo_isTwice sl_Mo_isTwice rfl rfl rfl (rcOK hk1 rfl) (by decide) ?_
  refine r_if_eq (tgt := 14) rfl (by decide) (fun hc5 => ?_) (fun hc5 => ?_)
  · have hE := ifP hc5 hE
    refine r_aload_n (t := some a0) 0 rfl rfl rfl ?_
    obtain ⟨hk6, hE⟩ := ckE hE
    obtain ⟨v7, h8, hq9, hE⟩ := bdE hE
    refine r_callV0 (rest := []) (hc := (Mo_nextToken_ok g N _ _ _ _ hq9 D2 (by omega))) rfl pm_Mo_nextToken lw_11_191 im_Mo_nextToken sl_Mo_nextToken rfl rfl rfl (rcOK hk6 rfl) (by decide) ?_
    refine r_aload_n (t := some a0) 0 rfl rfl rfl ?_
    refine r_iload_n 2 rfl rfl rfl ?_
    refine r_iload_n 3 rfl rfl rfl ?_
    obtain ⟨hk10, hE⟩ := ckE hE
    obtain ⟨v11, h12, hq13, hE⟩ := bdE hE
    refine r_callV1 (rest := []) (hc := (Mo_needsNumber_ok g N _ _ _ _ _ _ hq13 D2 (by omega))) rfl pm_Mo_needsNumber lw_11_257 im_Mo_needsNumber sl_Mo_needsNumber rfl rfl rfl (rcOK hk10 rfl) (by decide) ?_
    refine r_if_ne (tgt := 29) rfl (by decide) (fun hc14 => ?_) (fun hc14 => ?_)
    · have hE := ifP hc14 hE
      refine r_iconst 0 rfl ci_0 ?_
      cases hE
      exact r_ret rfl (Or.inl ⟨rfl, _, _, rfl, rfl, rfl, rfl⟩)
    · have hE := ifN hc14 hE
      refine r_aload_n (t := some a0) 0 rfl rfl rfl ?_
      obtain ⟨hk15, hE⟩ := ckE hE
      refine r_getR rfl (fl_11_13 rfl) (Or.inr ⟨_, rfl⟩) rfl hk15 ?_
      refine r_bipush 18 rfl cb_18 ?_
      refine r_iload_n 1 rfl rfl rfl ?_
      refine r_iadd rfl ?_
      refine r_aload_n (t := some a0) 0 rfl rfl rfl ?_
      refine r_getI rfl (fl_11_251 rfl) (Or.inl rfl) rfl hk15 ?_
      obtain ⟨a_16, ha17, hE⟩ := bnE hE
      obtain ⟨hk18, hE⟩ := ckE hE
      obtain ⟨hi19, hE⟩ := ckE hE
      obtain ⟨h20, he21, hE⟩ := ltE hE
      refine r_iast rfl ha17 hk18 hi19 he21 ?_
      refine r_aload_n (t := some a0) 0 rfl rfl rfl ?_
      obtain ⟨v22, h23, hq24, hE⟩ := bdE hE
      refine r_callV1 (rest := []) (hc := (Mo_closes_ok g N _ _ _ _ hq24 D2 (by omega))) rfl pm_Mo_closes lw_11_267 im_Mo_closes sl_Mo_closes rfl rfl rfl (rcOK (kwI he21 hk15) rfl) (by decide) ?_
      cases hE
      exact r_ret rfl (Or.inl ⟨rfl, _, _, rfl, by first | rfl | rw [rZ, oZ, bI_tb (isB_bI _)], rfl, nar_B (isB_bI _)⟩)
  · have hE := ifN hc5 hE
    refine r_aload_n (t := some a0) 0 rfl rfl rfl ?_
    refine r_iconst 3 rfl ci_3 ?_
    obtain ⟨hk25, hE⟩ := ckE hE
    obtain ⟨v26, h27, hq28, hE⟩ := bdE hE
    refine r_callV1 (rest := []) (hc := (Mo_fails_ok g N _ _ _ _ _ hq28 D2 (by omega))) rfl pm_Mo_fails lw_11_185 im_Mo_fails sl_Mo_fails rfl rfl rfl (rcOK hk25 rfl) (by decide) ?_
    cases hE
    exact r_ret rfl (Or.inl ⟨rfl, _, _, rfl, by first | rfl | rw [rZ, oZ, bI_tb (isB_bI _)], rfl, nar_B (isB_bI _)⟩)
def Mo_readsApples (N : Nat) (a0 : Nat) (h : PH) : Option (Bool × PH) :=
  ck ((hK h a0).1 = 11) <|
  bd (Mo_isTwice N a0 2 h) fun v2 h3 =>
  if (bI v2) = 0 then
    ck ((hK h3 a0).1 = 11) <|
    bd (Mo_nextToken N a0 h3) fun v7 h8 =>
    ck ((hK h8 a0).1 = 11) <|
    bd (Mo_needsNumber N a0 0 12 h8) fun v11 h12 =>
    if (bI v11) = 0 then
      some (false, h12)
    else
      ck ((hK h12 a0).1 = 11) <|
      ((hR h12 a0 10)).bind fun a_16 =>
      ck ((hK h12 a_16).1 = 20) <|
      ck (inb 20 (hK h12 a_16).2 = true) <|
      lt0 (wI h12 a_16 (ix 20) (hI h12 a0 31)) fun h20 =>
      bd (Mo_needsBoth N a0 12532058 0 99 h20) fun v22 h23 =>
      if (bI v22) = 0 then
        some (false, h23)
      else
        ck ((hK h23 a0).1 = 11) <|
        ((hR h23 a0 10)).bind fun a_27 =>
        ck ((hK h23 a_27).1 = 20) <|
        ck (inb 21 (hK h23 a_27).2 = true) <|
        lt0 (wI h23 a_27 (ix 21) (hI h23 a0 31)) fun h31 =>
        bd (Mo_closes N a0 h31) fun v33 h34 =>
        some (v33, h34)
  else
    ck ((hK h3 a0).1 = 11) <|
    bd (Mo_fails N a0 3 h3) fun v37 h38 =>
    some (v37, h38)
set_option maxRecDepth 20000 in
theorem Mo_readsApples_ok (g : GT) (N : Nat) (a0 : Nat) (h : PH) (v : Bool) (h' : PH) (hE : Mo_readsApples N a0 h = some (v, h')) (D : Nat) (hD : 4 ≤ D) : Calls g D pMo_readsApples [va_rf (some a0)] h (oZ v) h' := by
  refine Calls.of cok_Mo_readsApples ht_Mo_readsApples pl_Mo_readsApples (fun ad => by rw [lg_len, sL_cat]; simp only [List.map_cons, List.map_nil, rf_cat, cat_i, cat_l, List.sum_cons, List.sum_nil]; decide) ?_
  rw [show lv_args 0 [va_rf (some a0)] = [(0, va_rf (some a0))] from (by simp only [lv_args, rf_cat, cat_i, cat_l]; try rfl)]
  obtain ⟨D2, rfl⟩ : ∃ d, D = d + 1 := ⟨D - 1, by omega⟩
  unfold Mo_readsApples at hE
  refine r_aload_n (t := some a0) 0 rfl rfl rfl ?_
  refine r_iconst 2 rfl ci_2 ?_
  obtain ⟨hk1, hE⟩ := ckE hE
  obtain ⟨v2, h3, hq4, hE⟩ := bdE hE
  refine r_callV1 (rest := []) (hc := (Mo_isTwice_ok g N _ _ _ _ _ hq4 D2 (by omega))) rfl pm_Mo_isTwice lw_11_264 im_Mo_isTwice sl_Mo_isTwice rfl rfl rfl (rcOK hk1 rfl) (by decide) ?_
  refine r_if_eq (tgt := 14) rfl (by decide) (fun hc5 => ?_) (fun hc5 => ?_)
  · have hE := ifP hc5 hE
    refine r_aload_n (t := some a0) 0 rfl rfl rfl ?_
    obtain ⟨hk6, hE⟩ := ckE hE
    obtain ⟨v7, h8, hq9, hE⟩ := bdE hE
    refine r_callV0 (rest := []) (hc := (Mo_nextToken_ok g N _ _ _ _ hq9 D2 (by omega))) rfl pm_Mo_nextToken lw_11_191 im_Mo_nextToken sl_Mo_nextToken rfl rfl rfl (rcOK hk6 rfl) (by decide) ?_
    refine r_aload_n (t := some a0) 0 rfl rfl rfl ?_
    refine r_iconst 0 rfl ci_0 ?_
    refine r_bipush 12 rfl cb_12 ?_
    obtain ⟨hk10, hE⟩ := ckE hE
    obtain ⟨v11, h12, hq13, hE⟩ := bdE hE
    refine r_callV1 (rest := []) (hc := (Mo_needsNumber_ok g N _ _ _ _ _ _ hq13 D2 (by omega))) rfl pm_Mo_needsNumber lw_11_257 im_Mo_needsNumber sl_Mo_needsNumber rfl rfl rfl (rcOK hk10 rfl) (by decide) ?_
    refine r_if_ne (tgt := 30) rfl (by decide) (fun hc14 => ?_) (fun hc14 => ?_)
    · have hE := ifP hc14 hE
      refine r_iconst 0 rfl ci_0 ?_
      cases hE
      exact r_ret rfl (Or.inl ⟨rfl, _, _, rfl, rfl, rfl, rfl⟩)
    · have hE := ifN hc14 hE
      refine r_aload_n (t := some a0) 0 rfl rfl rfl ?_
      obtain ⟨hk15, hE⟩ := ckE hE
      refine r_getR rfl (fl_11_13 rfl) (Or.inr ⟨_, rfl⟩) rfl hk15 ?_
      refine r_bipush 20 rfl cb_20 ?_
      refine r_aload_n (t := some a0) 0 rfl rfl rfl ?_
      refine r_getI rfl (fl_11_251 rfl) (Or.inl rfl) rfl hk15 ?_
      obtain ⟨a_16, ha17, hE⟩ := bnE hE
      obtain ⟨hk18, hE⟩ := ckE hE
      obtain ⟨hi19, hE⟩ := ckE hE
      obtain ⟨h20, he21, hE⟩ := ltE hE
      refine r_iast rfl ha17 hk18 hi19 he21 ?_
      refine r_aload_n (t := some a0) 0 rfl rfl rfl ?_
      refine r_ldc2 rfl kc_11_213 ?_
      refine r_iconst 0 rfl ci_0 ?_
      refine r_bipush 99 rfl cb_99 ?_
      obtain ⟨v22, h23, hq24, hE⟩ := bdE hE
      refine r_callV1 (rest := []) (hc := (Mo_needsBoth_ok g N _ _ _ _ _ _ _ hq24 D2 (by omega))) rfl pm_Mo_needsBoth lw_11_271 im_Mo_needsBoth sl_Mo_needsBoth rfl rfl rfl (rcOK (kwI he21 hk15) rfl) (by decide) ?_
      refine r_if_ne (tgt := 56) rfl (by decide) (fun hc25 => ?_) (fun hc25 => ?_)
      · have hE := ifP hc25 hE
        refine r_iconst 0 rfl ci_0 ?_
        cases hE
        exact r_ret rfl (Or.inl ⟨rfl, _, _, rfl, rfl, rfl, rfl⟩)
      · have hE := ifN hc25 hE
        refine r_aload_n (t := some a0) 0 rfl rfl rfl ?_
        obtain ⟨hk26, hE⟩ := ckE hE
        refine r_getR rfl (fl_11_13 rfl) (Or.inr ⟨_, rfl⟩) rfl hk26 ?_
        refine r_bipush 21 rfl cb_21 ?_
        refine r_aload_n (t := some a0) 0 rfl rfl rfl ?_
        refine r_getI rfl (fl_11_251 rfl) (Or.inl rfl) rfl hk26 ?_
        obtain ⟨a_27, ha28, hE⟩ := bnE hE
        obtain ⟨hk29, hE⟩ := ckE hE
        obtain ⟨hi30, hE⟩ := ckE hE
        obtain ⟨h31, he32, hE⟩ := ltE hE
        refine r_iast rfl ha28 hk29 hi30 he32 ?_
        refine r_aload_n (t := some a0) 0 rfl rfl rfl ?_
        obtain ⟨v33, h34, hq35, hE⟩ := bdE hE
        refine r_callV1 (rest := []) (hc := (Mo_closes_ok g N _ _ _ _ hq35 D2 (by omega))) rfl pm_Mo_closes lw_11_267 im_Mo_closes sl_Mo_closes rfl rfl rfl (rcOK (kwI he32 hk26) rfl) (by decide) ?_
        cases hE
        exact r_ret rfl (Or.inl ⟨rfl, _, _, rfl, by first | rfl | rw [rZ, oZ, bI_tb (isB_bI _)], rfl, nar_B (isB_bI _)⟩)
  · have hE := ifN hc5 hE
    refine r_aload_n (t := some a0) 0 rfl rfl rfl ?_
    refine r_iconst 3 rfl ci_3 ?_
    obtain ⟨hk36, hE⟩ := ckE hE
    obtain ⟨v37, h38, hq39, hE⟩ := bdE hE
    refine r_callV1 (rest := []) (hc := (Mo_fails_ok g N _ _ _ _ _ hq39 D2 (by omega))) rfl pm_Mo_fails lw_11_185 im_Mo_fails sl_Mo_fails rfl rfl rfl (rcOK hk36 rfl) (by decide) ?_
    cases hE
    exact r_ret rfl (Or.inl ⟨rfl, _, _, rfl, by first | rfl | rw [rZ, oZ, bI_tb (isB_bI _)], rfl, nar_B (isB_bI _)⟩)
def Mo_readsWorths_b47 (N : Nat) (self_20 : Nat → Int32 → PH → Option (Bool × PH)) (s0 : Nat) (s1 : Int32) (s2 : Int32) (a0 : Nat) (x1 : Int32) (h : PH) : Option (Bool × PH) :=
  ck ((hK h s0).1 = 11) <|
  bd (Mo_needsNumber N s0 s1 s2 h) fun v2 h3 =>
  if (bI v2) = 0 then
    some (false, h3)
  else
    ck ((hK h3 a0).1 = 11) <|
    ((hR h3 a0 10)).bind fun a_7 =>
    ck ((hK h3 a_7).1 = 20) <|
    ck (inb (22 + x1) (hK h3 a_7).2 = true) <|
    lt0 (wI h3 a_7 (ix (22 + x1)) (hI h3 a0 31)) fun h11 =>
    self_20 a0 (x1 + 1) h11
set_option maxRecDepth 20000 in
theorem Mo_readsWorths_b47_ok (g : GT) (N : Nat) (D : Nat) (hD : 3 ≤ D) (self_20 : Nat → Int32 → PH → Option (Bool × PH)) (hself_20 : ∀ (a0 : Nat) (x1 : Int32) (h : PH) (v : Bool) (h' : PH), self_20 a0 x1 h = some (v, h') → Run g pMo_readsWorths D 20 [(0, va_rf (some a0)), (1, .int x1)] [] h (rZ v) h') : ∀ (s0 : Nat) (s1 : Int32) (s2 : Int32) (a0 : Nat) (x1 : Int32) (h : PH) (v : Bool) (h' : PH), Mo_readsWorths_b47 N self_20 s0 s1 s2 a0 x1 h = some (v, h') → Run g pMo_readsWorths D 47 [(0, va_rf (some a0)), (1, .int x1)] [.int s2, .int s1, va_rf (some s0)] h (rZ v) h' := by
  obtain ⟨D2, rfl⟩ : ∃ d, D = d + 1 := ⟨D - 1, by omega⟩
  intro s0 s1 s2 a0 x1 h v h' hE
  unfold Mo_readsWorths_b47 at hE
  obtain ⟨hk1, hE⟩ := ckE hE
  obtain ⟨v2, h3, hq4, hE⟩ := bdE hE
  refine r_callV1 (rest := []) (hc := (Mo_needsNumber_ok g N _ _ _ _ _ _ hq4 D2 (by omega))) rfl pm_Mo_needsNumber lw_11_257 im_Mo_needsNumber sl_Mo_needsNumber rfl rfl rfl (rcOK hk1 rfl) (by decide) ?_
  refine r_if_ne (tgt := 55) rfl (by decide) (fun hc5 => ?_) (fun hc5 => ?_)
  · have hE := ifP hc5 hE
    refine r_iconst 0 rfl ci_0 ?_
    cases hE
    exact r_ret rfl (Or.inl ⟨rfl, _, _, rfl, rfl, rfl, rfl⟩)
  · have hE := ifN hc5 hE
    refine r_aload_n (t := some a0) 0 rfl rfl rfl ?_
    obtain ⟨hk6, hE⟩ := ckE hE
    refine r_getR rfl (fl_11_13 rfl) (Or.inr ⟨_, rfl⟩) rfl hk6 ?_
    refine r_bipush 22 rfl cb_22 ?_
    refine r_iload_n 1 rfl rfl rfl ?_
    refine r_iadd rfl ?_
    refine r_aload_n (t := some a0) 0 rfl rfl rfl ?_
    refine r_getI rfl (fl_11_251 rfl) (Or.inl rfl) rfl hk6 ?_
    obtain ⟨a_7, ha8, hE⟩ := bnE hE
    obtain ⟨hk9, hE⟩ := ckE hE
    obtain ⟨hi10, hE⟩ := ckE hE
    obtain ⟨h11, he12, hE⟩ := ltE hE
    refine r_iast rfl ha8 hk9 hi10 he12 ?_
    refine r_iinc _ rfl rfl (congrArg _ ci_1) (by decide) ?_
    refine r_goto (tgt := 20) rfl (by decide) ?_
    first | exact r_sb (hself_20 _ _ _ _ _ hE) ⟨rfl, rfl, trivial⟩ | exact r_sb (hself_20 _ _ _ _ _ hE) (by simp only [su1, su2, dr1_rf, dr1_in, dr1_lo, dr2_rf, dr2_in, dr2_lo]; exact ⟨rfl, rfl, trivial⟩)
def Mo_readsWorths_b20 (N : Nat) : Nat → Nat → Int32 → PH → Option (Bool × PH)
  | 0 => fun _ _ _ => none
  | n + 1 => fun a0 x1 h =>
    if 3 ≤ x1 then
      ck ((hK h a0).1 = 11) <|
      bd (Mo_closes N a0 h) fun v3 h4 =>
      some (v3, h4)
    else
      if x1 = 0 then
        Mo_readsWorths_b47 N (Mo_readsWorths_b20 N n)  a0 0 99 a0 x1 h
      else
        ck ((hK h a0).1 = 11) <|
        ((hR h a0 10)).bind fun a_8 =>
        ck ((hK h a_8).1 = 20) <|
        ck (inb ((22 + x1) - 1) (hK h a_8).2 = true) <|
        Mo_readsWorths_b47 N (Mo_readsWorths_b20 N n)  a0 0 (hI h a_8 (ix ((22 + x1) - 1))) a0 x1 h
set_option maxRecDepth 20000 in
theorem Mo_readsWorths_b20_ok (g : GT) (N : Nat) (D : Nat) (hD : 3 ≤ D) : ∀ (n : Nat) (a0 : Nat) (x1 : Int32) (h : PH) (v : Bool) (h' : PH), Mo_readsWorths_b20 N n a0 x1 h = some (v, h') → Run g pMo_readsWorths D 20 [(0, va_rf (some a0)), (1, .int x1)] [] h (rZ v) h' := by
  obtain ⟨D2, rfl⟩ : ∃ d, D = d + 1 := ⟨D - 1, by omega⟩
  intro n
  induction n with
  | zero => exact fun _ _ _ _ _ hE => nomatch (show none = some _ from hE)
  | succ n ih =>
    intro a0 x1 h v h' hE
    unfold Mo_readsWorths_b20 at hE
    refine r_iload_n 1 rfl rfl rfl ?_
    refine r_iconst 3 rfl ci_3 ?_
    refine r_icmp_ge (tgt := 74) rfl (by decide) (fun hc1 => ?_) (fun hc1 => ?_)
    · have hE := ifP hc1 hE
      refine r_aload_n (t := some a0) 0 rfl rfl rfl ?_
      obtain ⟨hk2, hE⟩ := ckE hE
      obtain ⟨v3, h4, hq5, hE⟩ := bdE hE
      refine r_callV1 (rest := []) (hc := (Mo_closes_ok g N _ _ _ _ hq5 D2 (by omega))) rfl pm_Mo_closes lw_11_267 im_Mo_closes sl_Mo_closes rfl rfl rfl (rcOK hk2 rfl) (by decide) ?_
      cases hE
      exact r_ret rfl (Or.inl ⟨rfl, _, _, rfl, by first | rfl | rw [rZ, oZ, bI_tb (isB_bI _)], rfl, nar_B (isB_bI _)⟩)
    · have hE := ifN hc1 hE
      refine r_aload_n (t := some a0) 0 rfl rfl rfl ?_
      refine r_iconst 0 rfl ci_0 ?_
      refine r_iload_n 1 rfl rfl rfl ?_
      refine r_if_ne (tgt := 36) rfl (by decide) (fun hc6 => ?_) (fun hc6 => ?_)
      · have hE := ifP hc6 hE
        refine r_bipush 99 rfl cb_99 ?_
        refine r_goto (tgt := 47) rfl (by decide) ?_
        first | exact r_sb (Mo_readsWorths_b47_ok g N _ hD _ ih  _ _ _ _ _ _ _ _ hE) ⟨rfl, rfl, trivial⟩ | exact r_sb (Mo_readsWorths_b47_ok g N _ hD _ ih  _ _ _ _ _ _ _ _ hE) (by simp only [su1, su2, dr1_rf, dr1_in, dr1_lo, dr2_rf, dr2_in, dr2_lo]; exact ⟨rfl, rfl, trivial⟩)
      · have hE := ifN hc6 hE
        refine r_aload_n (t := some a0) 0 rfl rfl rfl ?_
        obtain ⟨hk7, hE⟩ := ckE hE
        refine r_getR rfl (fl_11_13 rfl) (Or.inr ⟨_, rfl⟩) rfl hk7 ?_
        refine r_bipush 22 rfl cb_22 ?_
        refine r_iload_n 1 rfl rfl rfl ?_
        refine r_iadd rfl ?_
        refine r_iconst 1 rfl ci_1 ?_
        refine r_isub rfl ?_
        obtain ⟨a_8, ha9, hE⟩ := bnE hE
        obtain ⟨hk10, hE⟩ := ckE hE
        obtain ⟨hi11, hE⟩ := ckE hE
        refine r_iald rfl ha9 hk10 hi11 ?_
        first | exact r_sb (Mo_readsWorths_b47_ok g N _ hD _ ih  _ _ _ _ _ _ _ _ hE) ⟨rfl, rfl, trivial⟩ | exact r_sb (Mo_readsWorths_b47_ok g N _ hD _ ih  _ _ _ _ _ _ _ _ hE) (by simp only [su1, su2, dr1_rf, dr1_in, dr1_lo, dr2_rf, dr2_in, dr2_lo]; exact ⟨rfl, rfl, trivial⟩)
def Mo_readsWorths (N : Nat) (a0 : Nat) (h : PH) : Option (Bool × PH) :=
  ck ((hK h a0).1 = 11) <|
  bd (Mo_isTwice N a0 4 h) fun v2 h3 =>
  if (bI v2) = 0 then
    ck ((hK h3 a0).1 = 11) <|
    bd (Mo_nextToken N a0 h3) fun v7 h8 =>
    Mo_readsWorths_b20 N N a0 0 h8
  else
    ck ((hK h3 a0).1 = 11) <|
    bd (Mo_fails N a0 3 h3) fun v11 h12 =>
    some (v11, h12)
set_option maxRecDepth 20000 in
theorem Mo_readsWorths_ok (g : GT) (N : Nat) (a0 : Nat) (h : PH) (v : Bool) (h' : PH) (hE : Mo_readsWorths N a0 h = some (v, h')) (D : Nat) (hD : 3 ≤ D) : Calls g D pMo_readsWorths [va_rf (some a0)] h (oZ v) h' := by
  refine Calls.of cok_Mo_readsWorths ht_Mo_readsWorths pl_Mo_readsWorths (fun ad => by rw [lg_len, sL_cat]; simp only [List.map_cons, List.map_nil, rf_cat, cat_i, cat_l, List.sum_cons, List.sum_nil]; decide) ?_
  rw [show lv_args 0 [va_rf (some a0)] = [(0, va_rf (some a0))] from (by simp only [lv_args, rf_cat, cat_i, cat_l]; try rfl)]
  obtain ⟨D2, rfl⟩ : ∃ d, D = d + 1 := ⟨D - 1, by omega⟩
  unfold Mo_readsWorths at hE
  refine r_aload_n (t := some a0) 0 rfl rfl rfl ?_
  refine r_iconst 4 rfl ci_4 ?_
  obtain ⟨hk1, hE⟩ := ckE hE
  obtain ⟨v2, h3, hq4, hE⟩ := bdE hE
  refine r_callV1 (rest := []) (hc := (Mo_isTwice_ok g N _ _ _ _ _ hq4 D2 (by omega))) rfl pm_Mo_isTwice lw_11_264 im_Mo_isTwice sl_Mo_isTwice rfl rfl rfl (rcOK hk1 rfl) (by decide) ?_
  refine r_if_eq (tgt := 14) rfl (by decide) (fun hc5 => ?_) (fun hc5 => ?_)
  · have hE := ifP hc5 hE
    refine r_aload_n (t := some a0) 0 rfl rfl rfl ?_
    obtain ⟨hk6, hE⟩ := ckE hE
    obtain ⟨v7, h8, hq9, hE⟩ := bdE hE
    refine r_callV0 (rest := []) (hc := (Mo_nextToken_ok g N _ _ _ _ hq9 D2 (by omega))) rfl pm_Mo_nextToken lw_11_191 im_Mo_nextToken sl_Mo_nextToken rfl rfl rfl (rcOK hk6 rfl) (by decide) ?_
    refine r_iconst 0 rfl ci_0 ?_
    refine r_istore_n 1 rfl rfl (by decide) ?_
    first | exact r_sb (Mo_readsWorths_b20_ok g N _ hD  N _ _ _ _ _ hE) ⟨rfl, rfl, trivial⟩ | exact r_sb (Mo_readsWorths_b20_ok g N _ hD  N _ _ _ _ _ hE) (by simp only [su1, su2, dr1_rf, dr1_in, dr1_lo, dr2_rf, dr2_in, dr2_lo]; exact ⟨rfl, rfl, trivial⟩)
  · have hE := ifN hc5 hE
    refine r_aload_n (t := some a0) 0 rfl rfl rfl ?_
    refine r_iconst 3 rfl ci_3 ?_
    obtain ⟨hk10, hE⟩ := ckE hE
    obtain ⟨v11, h12, hq13, hE⟩ := bdE hE
    refine r_callV1 (rest := []) (hc := (Mo_fails_ok g N _ _ _ _ _ hq13 D2 (by omega))) rfl pm_Mo_fails lw_11_185 im_Mo_fails sl_Mo_fails rfl rfl rfl (rcOK hk10 rfl) (by decide) ?_
    cases hE
    exact r_ret rfl (Or.inl ⟨rfl, _, _, rfl, by first | rfl | rw [rZ, oZ, bI_tb (isB_bI _)], rfl, nar_B (isB_bI _)⟩)
def Mo_readsEggs (N : Nat) (a0 : Nat) (h : PH) : Option (Bool × PH) :=
  ck ((hK h a0).1 = 11) <|
  bd (Mo_isTwice N a0 9 h) fun v2 h3 =>
  if (bI v2) = 0 then
    ck ((hK h3 a0).1 = 11) <|
    bd (Mo_nextToken N a0 h3) fun v7 h8 =>
    ck ((hK h8 a0).1 = 11) <|
    bd (Mo_needsNumber N a0 0 99 h8) fun v11 h12 =>
    if (bI v11) = 0 then
      some (false, h12)
    else
      ck ((hK h12 a0).1 = 11) <|
      ((hR h12 a0 10)).bind fun a_16 =>
      ck ((hK h12 a_16).1 = 20) <|
      ck (inb 27 (hK h12 a_16).2 = true) <|
      lt0 (wI h12 a_16 (ix 27) (hI h12 a0 31)) fun h20 =>
      ((hR h20 a0 10)).bind fun a_22 =>
      ck ((hK h20 a_22).1 = 20) <|
      ck (inb 18 (hK h20 a_22).2 = true) <|
      bd (Mo_needsBoth N a0 131638 0 ((hI h20 a_22 (ix 18)) - 1) h20) fun v26 h27 =>
      if (bI v26) = 0 then
        some (false, h27)
      else
        ck ((hK h27 a0).1 = 11) <|
        ((hR h27 a0 10)).bind fun a_31 =>
        ck ((hK h27 a_31).1 = 20) <|
        ck (inb 28 (hK h27 a_31).2 = true) <|
        lt0 (wI h27 a_31 (ix 28) (hI h27 a0 31)) fun h35 =>
        ((hR h35 a0 10)).bind fun a_37 =>
        ck ((hK h35 a_37).1 = 20) <|
        ck (inb 34 (hK h35 a_37).2 = true) <|
        lt0 (wI h35 a_37 (ix 34) 1) fun h41 =>
        bd (Mo_closes N a0 h41) fun v43 h44 =>
        some (v43, h44)
  else
    ck ((hK h3 a0).1 = 11) <|
    bd (Mo_fails N a0 3 h3) fun v47 h48 =>
    some (v47, h48)
set_option maxRecDepth 20000 in
theorem Mo_readsEggs_ok (g : GT) (N : Nat) (a0 : Nat) (h : PH) (v : Bool) (h' : PH) (hE : Mo_readsEggs N a0 h = some (v, h')) (D : Nat) (hD : 4 ≤ D) : Calls g D pMo_readsEggs [va_rf (some a0)] h (oZ v) h' := by
  refine Calls.of cok_Mo_readsEggs ht_Mo_readsEggs pl_Mo_readsEggs (fun ad => by rw [lg_len, sL_cat]; simp only [List.map_cons, List.map_nil, rf_cat, cat_i, cat_l, List.sum_cons, List.sum_nil]; decide) ?_
  rw [show lv_args 0 [va_rf (some a0)] = [(0, va_rf (some a0))] from (by simp only [lv_args, rf_cat, cat_i, cat_l]; try rfl)]
  obtain ⟨D2, rfl⟩ : ∃ d, D = d + 1 := ⟨D - 1, by omega⟩
  unfold Mo_readsEggs at hE
  refine r_aload_n (t := some a0) 0 rfl rfl rfl ?_
  refine r_bipush 9 rfl cb_9 ?_
  obtain ⟨hk1, hE⟩ := ckE hE
  obtain ⟨v2, h3, hq4, hE⟩ := bdE hE
  refine r_callV1 (rest := []) (hc := (Mo_isTwice_ok g N _ _ _ _ _ hq4 D2 (by omega))) rfl pm_Mo_isTwice lw_11_264 im_Mo_isTwice sl_Mo_isTwice rfl rfl rfl (rcOK hk1 rfl) (by decide) ?_
  refine r_if_eq (tgt := 15) rfl (by decide) (fun hc5 => ?_) (fun hc5 => ?_)
  · have hE := ifP hc5 hE
    refine r_aload_n (t := some a0) 0 rfl rfl rfl ?_
    obtain ⟨hk6, hE⟩ := ckE hE
    obtain ⟨v7, h8, hq9, hE⟩ := bdE hE
    refine r_callV0 (rest := []) (hc := (Mo_nextToken_ok g N _ _ _ _ hq9 D2 (by omega))) rfl pm_Mo_nextToken lw_11_191 im_Mo_nextToken sl_Mo_nextToken rfl rfl rfl (rcOK hk6 rfl) (by decide) ?_
    refine r_aload_n (t := some a0) 0 rfl rfl rfl ?_
    refine r_iconst 0 rfl ci_0 ?_
    refine r_bipush 99 rfl cb_99 ?_
    obtain ⟨hk10, hE⟩ := ckE hE
    obtain ⟨v11, h12, hq13, hE⟩ := bdE hE
    refine r_callV1 (rest := []) (hc := (Mo_needsNumber_ok g N _ _ _ _ _ _ hq13 D2 (by omega))) rfl pm_Mo_needsNumber lw_11_257 im_Mo_needsNumber sl_Mo_needsNumber rfl rfl rfl (rcOK hk10 rfl) (by decide) ?_
    refine r_if_ne (tgt := 31) rfl (by decide) (fun hc14 => ?_) (fun hc14 => ?_)
    · have hE := ifP hc14 hE
      refine r_iconst 0 rfl ci_0 ?_
      cases hE
      exact r_ret rfl (Or.inl ⟨rfl, _, _, rfl, rfl, rfl, rfl⟩)
    · have hE := ifN hc14 hE
      refine r_aload_n (t := some a0) 0 rfl rfl rfl ?_
      obtain ⟨hk15, hE⟩ := ckE hE
      refine r_getR rfl (fl_11_13 rfl) (Or.inr ⟨_, rfl⟩) rfl hk15 ?_
      refine r_bipush 27 rfl cb_27 ?_
      refine r_aload_n (t := some a0) 0 rfl rfl rfl ?_
      refine r_getI rfl (fl_11_251 rfl) (Or.inl rfl) rfl hk15 ?_
      obtain ⟨a_16, ha17, hE⟩ := bnE hE
      obtain ⟨hk18, hE⟩ := ckE hE
      obtain ⟨hi19, hE⟩ := ckE hE
      obtain ⟨h20, he21, hE⟩ := ltE hE
      refine r_iast rfl ha17 hk18 hi19 he21 ?_
      refine r_aload_n (t := some a0) 0 rfl rfl rfl ?_
      refine r_ldc2 rfl kc_11_223 ?_
      refine r_iconst 0 rfl ci_0 ?_
      refine r_aload_n (t := some a0) 0 rfl rfl rfl ?_
      refine r_getR rfl (fl_11_13 rfl) (Or.inr ⟨_, rfl⟩) rfl (kwI he21 hk15) ?_
      refine r_bipush 18 rfl cb_18 ?_
      obtain ⟨a_22, ha23, hE⟩ := bnE hE
      obtain ⟨hk24, hE⟩ := ckE hE
      obtain ⟨hi25, hE⟩ := ckE hE
      refine r_iald rfl ha23 hk24 hi25 ?_
      refine r_iconst 1 rfl ci_1 ?_
      refine r_isub rfl ?_
      obtain ⟨v26, h27, hq28, hE⟩ := bdE hE
      refine r_callV1 (rest := []) (hc := (Mo_needsBoth_ok g N _ _ _ _ _ _ _ hq28 D2 (by omega))) rfl pm_Mo_needsBoth lw_11_271 im_Mo_needsBoth sl_Mo_needsBoth rfl rfl rfl (rcOK (kwI he21 hk15) rfl) (by decide) ?_
      refine r_if_ne (tgt := 64) rfl (by decide) (fun hc29 => ?_) (fun hc29 => ?_)
      · have hE := ifP hc29 hE
        refine r_iconst 0 rfl ci_0 ?_
        cases hE
        exact r_ret rfl (Or.inl ⟨rfl, _, _, rfl, rfl, rfl, rfl⟩)
      · have hE := ifN hc29 hE
        refine r_aload_n (t := some a0) 0 rfl rfl rfl ?_
        obtain ⟨hk30, hE⟩ := ckE hE
        refine r_getR rfl (fl_11_13 rfl) (Or.inr ⟨_, rfl⟩) rfl hk30 ?_
        refine r_bipush 28 rfl cb_28 ?_
        refine r_aload_n (t := some a0) 0 rfl rfl rfl ?_
        refine r_getI rfl (fl_11_251 rfl) (Or.inl rfl) rfl hk30 ?_
        obtain ⟨a_31, ha32, hE⟩ := bnE hE
        obtain ⟨hk33, hE⟩ := ckE hE
        obtain ⟨hi34, hE⟩ := ckE hE
        obtain ⟨h35, he36, hE⟩ := ltE hE
        refine r_iast rfl ha32 hk33 hi34 he36 ?_
        refine r_aload_n (t := some a0) 0 rfl rfl rfl ?_
        refine r_getR rfl (fl_11_13 rfl) (Or.inr ⟨_, rfl⟩) rfl (kwI he36 hk30) ?_
        refine r_bipush 34 rfl cb_34 ?_
        refine r_iconst 1 rfl ci_1 ?_
        obtain ⟨a_37, ha38, hE⟩ := bnE hE
        obtain ⟨hk39, hE⟩ := ckE hE
        obtain ⟨hi40, hE⟩ := ckE hE
        obtain ⟨h41, he42, hE⟩ := ltE hE
        refine r_iast rfl ha38 hk39 hi40 he42 ?_
        refine r_aload_n (t := some a0) 0 rfl rfl rfl ?_
        obtain ⟨v43, h44, hq45, hE⟩ := bdE hE
        refine r_callV1 (rest := []) (hc := (Mo_closes_ok g N _ _ _ _ hq45 D2 (by omega))) rfl pm_Mo_closes lw_11_267 im_Mo_closes sl_Mo_closes rfl rfl rfl (rcOK (kwI he42 (kwI he36 hk30)) rfl) (by decide) ?_
        cases hE
        exact r_ret rfl (Or.inl ⟨rfl, _, _, rfl, by first | rfl | rw [rZ, oZ, bI_tb (isB_bI _)], rfl, nar_B (isB_bI _)⟩)
  · have hE := ifN hc5 hE
    refine r_aload_n (t := some a0) 0 rfl rfl rfl ?_
    refine r_iconst 3 rfl ci_3 ?_
    obtain ⟨hk46, hE⟩ := ckE hE
    obtain ⟨v47, h48, hq49, hE⟩ := bdE hE
    refine r_callV1 (rest := []) (hc := (Mo_fails_ok g N _ _ _ _ _ hq49 D2 (by omega))) rfl pm_Mo_fails lw_11_185 im_Mo_fails sl_Mo_fails rfl rfl rfl (rcOK hk46 rfl) (by decide) ?_
    cases hE
    exact r_ret rfl (Or.inl ⟨rfl, _, _, rfl, by first | rfl | rw [rZ, oZ, bI_tb (isB_bI _)], rfl, nar_B (isB_bI _)⟩)
def Mo_readsCalls_b203 (N : Nat) (self_149 : Nat → Int32 → Int32 → Int32 → Int32 → PH → Option (Bool × PH)) : Nat → Nat → Int32 → Int32 → Int32 → Int32 → Int32 → PH → Option (Bool × PH)
  | 0 => fun _ _ _ _ _ _ _ => none
  | n + 1 => fun a0 x1 x2 x3 x4 x5 h =>
    if x2 < x5 then
      self_149 a0 x1 x2 x3 (x4 + 1) h
    else
      ck ((hK h a0).1 = 11) <|
      ((hR h a0 11)).bind fun a_3 =>
      ck ((hK h a_3).1 = 20) <|
      ck (inb ((96 + (4 * x5)) + x4) (hK h a_3).2 = true) <|
      lt0 (wI h a_3 (ix ((96 + (4 * x5)) + x4)) (hI h a0 31)) fun h7 =>
      (Mo_readsCalls_b203 N self_149 n) a0 x1 x2 x3 x4 (x5 + 1) h7
set_option maxRecDepth 20000 in
theorem Mo_readsCalls_b203_ok (g : GT) (N : Nat) (D : Nat) (hD : 3 ≤ D) (self_149 : Nat → Int32 → Int32 → Int32 → Int32 → PH → Option (Bool × PH)) (hself_149 : ∀ (a0 : Nat) (x1 : Int32) (x2 : Int32) (x3 : Int32) (x4 : Int32) (h : PH) (v : Bool) (h' : PH), self_149 a0 x1 x2 x3 x4 h = some (v, h') → Run g pMo_readsCalls D 149 [(0, va_rf (some a0)), (1, .int x1), (2, .int x2), (3, .int x3), (4, .int x4)] [] h (rZ v) h') : ∀ (n : Nat) (a0 : Nat) (x1 : Int32) (x2 : Int32) (x3 : Int32) (x4 : Int32) (x5 : Int32) (h : PH) (v : Bool) (h' : PH), Mo_readsCalls_b203 N self_149 n a0 x1 x2 x3 x4 x5 h = some (v, h') → Run g pMo_readsCalls D 203 [(0, va_rf (some a0)), (1, .int x1), (2, .int x2), (3, .int x3), (4, .int x4), (5, .int x5)] [] h (rZ v) h' := by
  obtain ⟨D2, rfl⟩ : ∃ d, D = d + 1 := ⟨D - 1, by omega⟩
  intro n
  induction n with
  | zero => exact fun _ _ _ _ _ _ _ _ _ hE => nomatch (show none = some _ from hE)
  | succ n ih =>
    intro a0 x1 x2 x3 x4 x5 h v h' hE
    unfold Mo_readsCalls_b203 at hE
    refine r_iload rfl rfl ?_
    refine r_iload_n 2 rfl rfl rfl ?_
    refine r_icmp_gt (tgt := 234) rfl (by decide) (fun hc1 => ?_) (fun hc1 => ?_)
    · have hE := ifP hc1 hE
      refine r_iinc _ rfl rfl (congrArg _ ci_1) (by decide) ?_
      refine r_goto (tgt := 149) rfl (by decide) ?_
      first | exact r_sb (hself_149 _ _ _ _ _ _ _ _ hE) ⟨rfl, rfl, rfl, rfl, rfl, trivial⟩ | exact r_sb (hself_149 _ _ _ _ _ _ _ _ hE) (by simp only [su1, su2, dr1_rf, dr1_in, dr1_lo, dr2_rf, dr2_in, dr2_lo]; exact ⟨rfl, rfl, rfl, rfl, rfl, trivial⟩)
    · have hE := ifN hc1 hE
      refine r_aload_n (t := some a0) 0 rfl rfl rfl ?_
      obtain ⟨hk2, hE⟩ := ckE hE
      refine r_getR rfl (fl_11_16 rfl) (Or.inr ⟨_, rfl⟩) rfl hk2 ?_
      refine r_bipush 96 rfl cb_96 ?_
      refine r_iconst 4 rfl ci_4 ?_
      refine r_iload rfl rfl ?_
      refine r_imul rfl ?_
      refine r_iadd rfl ?_
      refine r_iload rfl rfl ?_
      refine r_iadd rfl ?_
      refine r_aload_n (t := some a0) 0 rfl rfl rfl ?_
      refine r_getI rfl (fl_11_251 rfl) (Or.inl rfl) rfl hk2 ?_
      obtain ⟨a_3, ha4, hE⟩ := bnE hE
      obtain ⟨hk5, hE⟩ := ckE hE
      obtain ⟨hi6, hE⟩ := ckE hE
      obtain ⟨h7, he8, hE⟩ := ltE hE
      refine r_iast rfl ha4 hk5 hi6 he8 ?_
      refine r_iinc _ rfl rfl (congrArg _ ci_1) (by decide) ?_
      refine r_goto (tgt := 203) rfl (by decide) ?_
      first | exact r_sb (ih _ _ _ _ _ _ _ _ _ hE) ⟨rfl, rfl, rfl, rfl, rfl, rfl, trivial⟩ | exact r_sb (ih _ _ _ _ _ _ _ _ _ hE) (by simp only [su1, su2, dr1_rf, dr1_in, dr1_lo, dr2_rf, dr2_in, dr2_lo]; exact ⟨rfl, rfl, rfl, rfl, rfl, rfl, trivial⟩)
def Mo_readsCalls_b185 (N : Nat) (self_149 : Nat → Int32 → Int32 → Int32 → Int32 → PH → Option (Bool × PH)) (s0 : Nat) (s1 : Int32) (s2 : Int32) (a0 : Nat) (x1 : Int32) (x2 : Int32) (x3 : Int32) (x4 : Int32) (h : PH) : Option (Bool × PH) :=
  ck ((hK h s0).1 = 11) <|
  bd (Mo_needsNumber N s0 s1 s2 h) fun v2 h3 =>
  if (bI v2) = 0 then
    some (false, h3)
  else
    ck ((hK h3 a0).1 = 11) <|
    Mo_readsCalls_b203 N self_149 N a0 x1 x2 (x3 + (hI h3 a0 31)) x4 x1 h3
set_option maxRecDepth 20000 in
theorem Mo_readsCalls_b185_ok (g : GT) (N : Nat) (D : Nat) (hD : 3 ≤ D) (self_149 : Nat → Int32 → Int32 → Int32 → Int32 → PH → Option (Bool × PH)) (hself_149 : ∀ (a0 : Nat) (x1 : Int32) (x2 : Int32) (x3 : Int32) (x4 : Int32) (h : PH) (v : Bool) (h' : PH), self_149 a0 x1 x2 x3 x4 h = some (v, h') → Run g pMo_readsCalls D 149 [(0, va_rf (some a0)), (1, .int x1), (2, .int x2), (3, .int x3), (4, .int x4)] [] h (rZ v) h') : ∀ (s0 : Nat) (s1 : Int32) (s2 : Int32) (a0 : Nat) (x1 : Int32) (x2 : Int32) (x3 : Int32) (x4 : Int32) (h : PH) (v : Bool) (h' : PH), Mo_readsCalls_b185 N self_149 s0 s1 s2 a0 x1 x2 x3 x4 h = some (v, h') → Run g pMo_readsCalls D 185 [(0, va_rf (some a0)), (1, .int x1), (2, .int x2), (3, .int x3), (4, .int x4)] [.int s2, .int s1, va_rf (some s0)] h (rZ v) h' := by
  obtain ⟨D2, rfl⟩ : ∃ d, D = d + 1 := ⟨D - 1, by omega⟩
  intro s0 s1 s2 a0 x1 x2 x3 x4 h v h' hE
  unfold Mo_readsCalls_b185 at hE
  obtain ⟨hk1, hE⟩ := ckE hE
  obtain ⟨v2, h3, hq4, hE⟩ := bdE hE
  refine r_callV1 (rest := []) (hc := (Mo_needsNumber_ok g N _ _ _ _ _ _ hq4 D2 (by omega))) rfl pm_Mo_needsNumber lw_11_257 im_Mo_needsNumber sl_Mo_needsNumber rfl rfl rfl (rcOK hk1 rfl) (by decide) ?_
  refine r_if_ne (tgt := 193) rfl (by decide) (fun hc5 => ?_) (fun hc5 => ?_)
  · have hE := ifP hc5 hE
    refine r_iconst 0 rfl ci_0 ?_
    cases hE
    exact r_ret rfl (Or.inl ⟨rfl, _, _, rfl, rfl, rfl, rfl⟩)
  · have hE := ifN hc5 hE
    refine r_iload_n 3 rfl rfl rfl ?_
    refine r_aload_n (t := some a0) 0 rfl rfl rfl ?_
    obtain ⟨hk6, hE⟩ := ckE hE
    refine r_getI rfl (fl_11_251 rfl) (Or.inl rfl) rfl hk6 ?_
    refine r_iadd rfl ?_
    refine r_istore_n 3 rfl rfl (by decide) ?_
    refine r_iload_n 1 rfl rfl rfl ?_
    refine r_istore rfl (by decide) ?_
    first | exact r_sb (Mo_readsCalls_b203_ok g N _ hD _ hself_149 N _ _ _ _ _ _ _ _ _ hE) ⟨rfl, rfl, rfl, rfl, rfl, rfl, trivial⟩ | exact r_sb (Mo_readsCalls_b203_ok g N _ hD _ hself_149 N _ _ _ _ _ _ _ _ _ hE) (by simp only [su1, su2, dr1_rf, dr1_in, dr1_lo, dr2_rf, dr2_in, dr2_lo]; exact ⟨rfl, rfl, rfl, rfl, rfl, rfl, trivial⟩)
def Mo_readsCalls_b170 (N : Nat) (self_149 : Nat → Int32 → Int32 → Int32 → Int32 → PH → Option (Bool × PH)) (s0 : Nat) (s1 : Int32) (a0 : Nat) (x1 : Int32) (x2 : Int32) (x3 : Int32) (x4 : Int32) (h : PH) : Option (Bool × PH) :=
  if x4 = 3 then
    Mo_readsCalls_b185 N self_149  s0 s1 (10 - x3) a0 x1 x2 x3 x4 h
  else
    Mo_readsCalls_b185 N self_149  s0 s1 10 a0 x1 x2 x3 x4 h
set_option maxRecDepth 20000 in
theorem Mo_readsCalls_b170_ok (g : GT) (N : Nat) (D : Nat) (hD : 3 ≤ D) (self_149 : Nat → Int32 → Int32 → Int32 → Int32 → PH → Option (Bool × PH)) (hself_149 : ∀ (a0 : Nat) (x1 : Int32) (x2 : Int32) (x3 : Int32) (x4 : Int32) (h : PH) (v : Bool) (h' : PH), self_149 a0 x1 x2 x3 x4 h = some (v, h') → Run g pMo_readsCalls D 149 [(0, va_rf (some a0)), (1, .int x1), (2, .int x2), (3, .int x3), (4, .int x4)] [] h (rZ v) h') : ∀ (s0 : Nat) (s1 : Int32) (a0 : Nat) (x1 : Int32) (x2 : Int32) (x3 : Int32) (x4 : Int32) (h : PH) (v : Bool) (h' : PH), Mo_readsCalls_b170 N self_149 s0 s1 a0 x1 x2 x3 x4 h = some (v, h') → Run g pMo_readsCalls D 170 [(0, va_rf (some a0)), (1, .int x1), (2, .int x2), (3, .int x3), (4, .int x4)] [.int s1, va_rf (some s0)] h (rZ v) h' := by
  obtain ⟨D2, rfl⟩ : ∃ d, D = d + 1 := ⟨D - 1, by omega⟩
  intro s0 s1 a0 x1 x2 x3 x4 h v h' hE
  unfold Mo_readsCalls_b170 at hE
  refine r_iload rfl rfl ?_
  refine r_iconst 3 rfl ci_3 ?_
  refine r_icmp_ne (tgt := 183) rfl (by decide) (fun hc1 => ?_) (fun hc1 => ?_)
  · have hE := ifP hc1 hE
    refine r_bipush 10 rfl cb_10 ?_
    refine r_iload_n 3 rfl rfl rfl ?_
    refine r_isub rfl ?_
    refine r_goto (tgt := 185) rfl (by decide) ?_
    first | exact r_sb (Mo_readsCalls_b185_ok g N _ hD _ hself_149  _ _ _ _ _ _ _ _ _ _ _ hE) ⟨rfl, rfl, rfl, rfl, rfl, trivial⟩ | exact r_sb (Mo_readsCalls_b185_ok g N _ hD _ hself_149  _ _ _ _ _ _ _ _ _ _ _ hE) (by simp only [su1, su2, dr1_rf, dr1_in, dr1_lo, dr2_rf, dr2_in, dr2_lo]; exact ⟨rfl, rfl, rfl, rfl, rfl, trivial⟩)
  · have hE := ifN hc1 hE
    refine r_bipush 10 rfl cb_10 ?_
    first | exact r_sb (Mo_readsCalls_b185_ok g N _ hD _ hself_149  _ _ _ _ _ _ _ _ _ _ _ hE) ⟨rfl, rfl, rfl, rfl, rfl, trivial⟩ | exact r_sb (Mo_readsCalls_b185_ok g N _ hD _ hself_149  _ _ _ _ _ _ _ _ _ _ _ hE) (by simp only [su1, su2, dr1_rf, dr1_in, dr1_lo, dr2_rf, dr2_in, dr2_lo]; exact ⟨rfl, rfl, rfl, rfl, rfl, trivial⟩)
def Mo_readsCalls_b243 (N : Nat) : Nat → Nat → Int32 → Int32 → PH → Option (Bool × PH)
  | 0 => fun _ _ _ _ => none
  | n + 1 => fun a0 x2 x4 h =>
    if x2 < x4 then
      ck ((hK h a0).1 = 11) <|
      ((hR h a0 10)).bind fun a_3 =>
      ck ((hK h a_3).1 = 20) <|
      ck (inb 35 (hK h a_3).2 = true) <|
      ck (inb 35 (hK h a_3).2 = true) <|
      lt0 (wI h a_3 (ix 35) ((hI h a_3 (ix 35)) + 1)) fun h8 =>
      bd (Mo_closes N a0 h8) fun v10 h11 =>
      some (v10, h11)
    else
      ck ((hK h a0).1 = 11) <|
      ((hR h a0 12)).bind fun a_14 =>
      ck ((hK h a_14).1 = 21) <|
      ck (inb (24 + x4) (hK h a_14).2 = true) <|
      lt0 (wZ h a_14 (ix (24 + x4)) (tb 1)) fun h18 =>
      (Mo_readsCalls_b243 N n) a0 x2 (x4 + 1) h18
set_option maxRecDepth 20000 in
theorem Mo_readsCalls_b243_ok (g : GT) (N : Nat) (D : Nat) (hD : 3 ≤ D) : ∀ (n : Nat) (a0 : Nat) (x2 : Int32) (x4 : Int32) (h : PH) (v : Bool) (h' : PH), Mo_readsCalls_b243 N n a0 x2 x4 h = some (v, h') → Run g pMo_readsCalls D 243 [(0, va_rf (some a0)), (2, .int x2), (4, .int x4)] [] h (rZ v) h' := by
  obtain ⟨D2, rfl⟩ : ∃ d, D = d + 1 := ⟨D - 1, by omega⟩
  intro n
  induction n with
  | zero => exact fun _ _ _ _ _ _ hE => nomatch (show none = some _ from hE)
  | succ n ih =>
    intro a0 x2 x4 h v h' hE
    unfold Mo_readsCalls_b243 at hE
    refine r_iload rfl rfl ?_
    refine r_iload_n 2 rfl rfl rfl ?_
    refine r_icmp_gt (tgt := 266) rfl (by decide) (fun hc1 => ?_) (fun hc1 => ?_)
    · have hE := ifP hc1 hE
      refine r_aload_n (t := some a0) 0 rfl rfl rfl ?_
      obtain ⟨hk2, hE⟩ := ckE hE
      refine r_getR rfl (fl_11_13 rfl) (Or.inr ⟨_, rfl⟩) rfl hk2 ?_
      refine r_bipush 35 rfl cb_35 ?_
      refine r_dup2 rfl rfl (rf_cat _) ?_
      obtain ⟨a_3, ha4, hE⟩ := bnE hE
      obtain ⟨hk5, hE⟩ := ckE hE
      obtain ⟨hi6, hE⟩ := ckE hE
      refine r_iald rfl ha4 hk5 hi6 ?_
      refine r_iconst 1 rfl ci_1 ?_
      refine r_iadd rfl ?_
      obtain ⟨hi7, hE⟩ := ckE hE
      obtain ⟨h8, he9, hE⟩ := ltE hE
      refine r_iast rfl ha4 hk5 hi7 he9 ?_
      refine r_aload_n (t := some a0) 0 rfl rfl rfl ?_
      obtain ⟨v10, h11, hq12, hE⟩ := bdE hE
      refine r_callV1 (rest := []) (hc := (Mo_closes_ok g N _ _ _ _ hq12 D2 (by omega))) rfl pm_Mo_closes lw_11_267 im_Mo_closes sl_Mo_closes rfl rfl rfl (rcOK (kwI he9 hk2) rfl) (by decide) ?_
      cases hE
      exact r_ret rfl (Or.inl ⟨rfl, _, _, rfl, by first | rfl | rw [rZ, oZ, bI_tb (isB_bI _)], rfl, nar_B (isB_bI _)⟩)
    · have hE := ifN hc1 hE
      refine r_aload_n (t := some a0) 0 rfl rfl rfl ?_
      obtain ⟨hk13, hE⟩ := ckE hE
      refine r_getR rfl (fl_11_19 rfl) (Or.inr ⟨_, rfl⟩) rfl hk13 ?_
      refine r_bipush 24 rfl cb_24 ?_
      refine r_iload rfl rfl ?_
      refine r_iadd rfl ?_
      refine r_iconst 1 rfl ci_1 ?_
      obtain ⟨a_14, ha15, hE⟩ := bnE hE
      obtain ⟨hk16, hE⟩ := ckE hE
      obtain ⟨hi17, hE⟩ := ckE hE
      obtain ⟨h18, he19, hE⟩ := ltE hE
      refine r_zast rfl ha15 hk16 hi17 rfl he19 ?_
      refine r_iinc _ rfl rfl (congrArg _ ci_1) (by decide) ?_
      refine r_goto (tgt := 243) rfl (by decide) ?_
      first | exact r_sb (ih _ _ _ _ _ _ hE) ⟨rfl, rfl, rfl, trivial⟩ | exact r_sb (ih _ _ _ _ _ _ hE) (by simp only [su1, su2, dr1_rf, dr1_in, dr1_lo, dr2_rf, dr2_in, dr2_lo]; exact ⟨rfl, rfl, rfl, trivial⟩)
def Mo_readsCalls_b149 (N : Nat) : Nat → Nat → Int32 → Int32 → Int32 → Int32 → PH → Option (Bool × PH)
  | 0 => fun _ _ _ _ _ _ => none
  | n + 1 => fun a0 x1 x2 x3 x4 h =>
    if 4 ≤ x4 then
      Mo_readsCalls_b243 N N a0 x2 x1 h
    else
      if x4 = 3 then
        Mo_readsCalls_b170 N (Mo_readsCalls_b149 N n)  a0 (10 - x3) a0 x1 x2 x3 x4 h
      else
        Mo_readsCalls_b170 N (Mo_readsCalls_b149 N n)  a0 0 a0 x1 x2 x3 x4 h
set_option maxRecDepth 20000 in
theorem Mo_readsCalls_b149_ok (g : GT) (N : Nat) (D : Nat) (hD : 3 ≤ D) : ∀ (n : Nat) (a0 : Nat) (x1 : Int32) (x2 : Int32) (x3 : Int32) (x4 : Int32) (h : PH) (v : Bool) (h' : PH), Mo_readsCalls_b149 N n a0 x1 x2 x3 x4 h = some (v, h') → Run g pMo_readsCalls D 149 [(0, va_rf (some a0)), (1, .int x1), (2, .int x2), (3, .int x3), (4, .int x4)] [] h (rZ v) h' := by
  obtain ⟨D2, rfl⟩ : ∃ d, D = d + 1 := ⟨D - 1, by omega⟩
  intro n
  induction n with
  | zero => exact fun _ _ _ _ _ _ _ _ hE => nomatch (show none = some _ from hE)
  | succ n ih =>
    intro a0 x1 x2 x3 x4 h v h' hE
    unfold Mo_readsCalls_b149 at hE
    refine r_iload rfl rfl ?_
    refine r_iconst 4 rfl ci_4 ?_
    refine r_icmp_ge (tgt := 240) rfl (by decide) (fun hc1 => ?_) (fun hc1 => ?_)
    · have hE := ifP hc1 hE
      refine r_iload_n 1 rfl rfl rfl ?_
      refine r_istore rfl (by decide) ?_
      first | exact r_sb (Mo_readsCalls_b243_ok g N _ hD  N _ _ _ _ _ _ hE) ⟨rfl, rfl, rfl, trivial⟩ | exact r_sb (Mo_readsCalls_b243_ok g N _ hD  N _ _ _ _ _ _ hE) (by simp only [su1, su2, dr1_rf, dr1_in, dr1_lo, dr2_rf, dr2_in, dr2_lo]; exact ⟨rfl, rfl, rfl, trivial⟩)
    · have hE := ifN hc1 hE
      refine r_aload_n (t := some a0) 0 rfl rfl rfl ?_
      refine r_iload rfl rfl ?_
      refine r_iconst 3 rfl ci_3 ?_
      refine r_icmp_ne (tgt := 169) rfl (by decide) (fun hc2 => ?_) (fun hc2 => ?_)
      · have hE := ifP hc2 hE
        refine r_bipush 10 rfl cb_10 ?_
        refine r_iload_n 3 rfl rfl rfl ?_
        refine r_isub rfl ?_
        refine r_goto (tgt := 170) rfl (by decide) ?_
        first | exact r_sb (Mo_readsCalls_b170_ok g N _ hD _ ih  _ _ _ _ _ _ _ _ _ _ hE) ⟨rfl, rfl, rfl, rfl, rfl, trivial⟩ | exact r_sb (Mo_readsCalls_b170_ok g N _ hD _ ih  _ _ _ _ _ _ _ _ _ _ hE) (by simp only [su1, su2, dr1_rf, dr1_in, dr1_lo, dr2_rf, dr2_in, dr2_lo]; exact ⟨rfl, rfl, rfl, rfl, rfl, trivial⟩)
      · have hE := ifN hc2 hE
        refine r_iconst 0 rfl ci_0 ?_
        first | exact r_sb (Mo_readsCalls_b170_ok g N _ hD _ ih  _ _ _ _ _ _ _ _ _ _ hE) ⟨rfl, rfl, rfl, rfl, rfl, trivial⟩ | exact r_sb (Mo_readsCalls_b170_ok g N _ hD _ ih  _ _ _ _ _ _ _ _ _ _ hE) (by simp only [su1, su2, dr1_rf, dr1_in, dr1_lo, dr2_rf, dr2_in, dr2_lo]; exact ⟨rfl, rfl, rfl, rfl, rfl, trivial⟩)
def Mo_readsCalls_b120 (N : Nat) (a0 : Nat) (x1 : Int32) (h : PH) : Option (Bool × PH) :=
  ck ((hK h a0).1 = 11) <|
  ((hR h a0 10)).bind fun a_2 =>
  ck ((hK h a_2).1 = 20) <|
  ck (inb 18 (hK h a_2).2 = true) <|
  bd (Mo_needsNumber N a0 x1 ((hI h a_2 (ix 18)) - 1) h) fun v6 h7 =>
  if (bI v6) = 0 then
    some (false, h7)
  else
    ck ((hK h7 a0).1 = 11) <|
    Mo_readsCalls_b149 N N a0 x1 (hI h7 a0 31) 0 0 h7
set_option maxRecDepth 20000 in
theorem Mo_readsCalls_b120_ok (g : GT) (N : Nat) (D : Nat) (hD : 3 ≤ D) : ∀ (a0 : Nat) (x1 : Int32) (h : PH) (v : Bool) (h' : PH), Mo_readsCalls_b120 N a0 x1 h = some (v, h') → Run g pMo_readsCalls D 120 [(0, va_rf (some a0)), (1, .int x1)] [] h (rZ v) h' := by
  obtain ⟨D2, rfl⟩ : ∃ d, D = d + 1 := ⟨D - 1, by omega⟩
  intro a0 x1 h v h' hE
  unfold Mo_readsCalls_b120 at hE
  refine r_aload_n (t := some a0) 0 rfl rfl rfl ?_
  refine r_iload_n 1 rfl rfl rfl ?_
  refine r_aload_n (t := some a0) 0 rfl rfl rfl ?_
  obtain ⟨hk1, hE⟩ := ckE hE
  refine r_getR rfl (fl_11_13 rfl) (Or.inr ⟨_, rfl⟩) rfl hk1 ?_
  refine r_bipush 18 rfl cb_18 ?_
  obtain ⟨a_2, ha3, hE⟩ := bnE hE
  obtain ⟨hk4, hE⟩ := ckE hE
  obtain ⟨hi5, hE⟩ := ckE hE
  refine r_iald rfl ha3 hk4 hi5 ?_
  refine r_iconst 1 rfl ci_1 ?_
  refine r_isub rfl ?_
  obtain ⟨v6, h7, hq8, hE⟩ := bdE hE
  refine r_callV1 (rest := []) (hc := (Mo_needsNumber_ok g N _ _ _ _ _ _ hq8 D2 (by omega))) rfl pm_Mo_needsNumber lw_11_257 im_Mo_needsNumber sl_Mo_needsNumber rfl rfl rfl (rcOK hk1 rfl) (by decide) ?_
  refine r_if_ne (tgt := 139) rfl (by decide) (fun hc9 => ?_) (fun hc9 => ?_)
  · have hE := ifP hc9 hE
    refine r_iconst 0 rfl ci_0 ?_
    cases hE
    exact r_ret rfl (Or.inl ⟨rfl, _, _, rfl, rfl, rfl, rfl⟩)
  · have hE := ifN hc9 hE
    refine r_aload_n (t := some a0) 0 rfl rfl rfl ?_
    obtain ⟨hk10, hE⟩ := ckE hE
    refine r_getI rfl (fl_11_251 rfl) (Or.inl rfl) rfl hk10 ?_
    refine r_istore_n 2 rfl rfl (by decide) ?_
    refine r_iconst 0 rfl ci_0 ?_
    refine r_istore_n 3 rfl rfl (by decide) ?_
    refine r_iconst 0 rfl ci_0 ?_
    refine r_istore rfl (by decide) ?_
    first | exact r_sb (Mo_readsCalls_b149_ok g N _ hD  N _ _ _ _ _ _ _ _ hE) ⟨rfl, rfl, rfl, rfl, rfl, trivial⟩ | exact r_sb (Mo_readsCalls_b149_ok g N _ hD  N _ _ _ _ _ _ _ _ hE) (by simp only [su1, su2, dr1_rf, dr1_in, dr1_lo, dr2_rf, dr2_in, dr2_lo]; exact ⟨rfl, rfl, rfl, rfl, rfl, trivial⟩)
def Mo_readsCalls_b88 (N : Nat) : Nat → Nat → Int32 → Int32 → PH → Option (Bool × PH)
  | 0 => fun _ _ _ _ => none
  | n + 1 => fun a0 x1 x2 h =>
    ck ((hK h a0).1 = 11) <|
    if (hI h a0 8) < x2 then
      Mo_readsCalls_b120 N  a0 x1 h
    else
      ((hR h a0 12)).bind fun a_3 =>
      ck ((hK h a_3).1 = 21) <|
      ck (inb (24 + x2) (hK h a_3).2 = true) <|
      if (bI (hZ h a_3 (ix (24 + x2)))) = 0 then
        (Mo_readsCalls_b88 N n) a0 x1 (x2 + 1) h
      else
        bd (Mo_fails N a0 3 h) fun v8 h9 =>
        some (v8, h9)
set_option maxRecDepth 20000 in
theorem Mo_readsCalls_b88_ok (g : GT) (N : Nat) (D : Nat) (hD : 3 ≤ D) : ∀ (n : Nat) (a0 : Nat) (x1 : Int32) (x2 : Int32) (h : PH) (v : Bool) (h' : PH), Mo_readsCalls_b88 N n a0 x1 x2 h = some (v, h') → Run g pMo_readsCalls D 88 [(0, va_rf (some a0)), (1, .int x1), (2, .int x2)] [] h (rZ v) h' := by
  obtain ⟨D2, rfl⟩ : ∃ d, D = d + 1 := ⟨D - 1, by omega⟩
  intro n
  induction n with
  | zero => exact fun _ _ _ _ _ _ hE => nomatch (show none = some _ from hE)
  | succ n ih =>
    intro a0 x1 x2 h v h' hE
    unfold Mo_readsCalls_b88 at hE
    refine r_iload_n 2 rfl rfl rfl ?_
    refine r_aload_n (t := some a0) 0 rfl rfl rfl ?_
    obtain ⟨hk1, hE⟩ := ckE hE
    refine r_getI rfl (fl_11_141 rfl) (Or.inl rfl) rfl hk1 ?_
    refine r_icmp_gt (tgt := 120) rfl (by decide) (fun hc2 => ?_) (fun hc2 => ?_)
    · have hE := ifP hc2 hE
      first | exact r_sb (Mo_readsCalls_b120_ok g N _ hD   _ _ _ _ _ hE) ⟨rfl, rfl, trivial⟩ | exact r_sb (Mo_readsCalls_b120_ok g N _ hD   _ _ _ _ _ hE) (by simp only [su1, su2, dr1_rf, dr1_in, dr1_lo, dr2_rf, dr2_in, dr2_lo]; exact ⟨rfl, rfl, trivial⟩)
    · have hE := ifN hc2 hE
      refine r_aload_n (t := some a0) 0 rfl rfl rfl ?_
      refine r_getR rfl (fl_11_19 rfl) (Or.inr ⟨_, rfl⟩) rfl hk1 ?_
      refine r_bipush 24 rfl cb_24 ?_
      refine r_iload_n 2 rfl rfl rfl ?_
      refine r_iadd rfl ?_
      obtain ⟨a_3, ha4, hE⟩ := bnE hE
      obtain ⟨hk5, hE⟩ := ckE hE
      obtain ⟨hi6, hE⟩ := ckE hE
      refine r_zald rfl ha4 hk5 hi6 ?_
      refine r_if_eq (tgt := 114) rfl (by decide) (fun hc7 => ?_) (fun hc7 => ?_)
      · have hE := ifP hc7 hE
        refine r_iinc _ rfl rfl (congrArg _ ci_1) (by decide) ?_
        refine r_goto (tgt := 88) rfl (by decide) ?_
        first | exact r_sb (ih _ _ _ _ _ _ hE) ⟨rfl, rfl, rfl, trivial⟩ | exact r_sb (ih _ _ _ _ _ _ hE) (by simp only [su1, su2, dr1_rf, dr1_in, dr1_lo, dr2_rf, dr2_in, dr2_lo]; exact ⟨rfl, rfl, rfl, trivial⟩)
      · have hE := ifN hc7 hE
        refine r_aload_n (t := some a0) 0 rfl rfl rfl ?_
        refine r_iconst 3 rfl ci_3 ?_
        obtain ⟨v8, h9, hq10, hE⟩ := bdE hE
        refine r_callV1 (rest := []) (hc := (Mo_fails_ok g N _ _ _ _ _ hq10 D2 (by omega))) rfl pm_Mo_fails lw_11_185 im_Mo_fails sl_Mo_fails rfl rfl rfl (rcOK hk1 rfl) (by decide) ?_
        cases hE
        exact r_ret rfl (Or.inl ⟨rfl, _, _, rfl, by first | rfl | rw [rZ, oZ, bI_tb (isB_bI _)], rfl, nar_B (isB_bI _)⟩)
def Mo_readsCalls (N : Nat) (a0 : Nat) (h : PH) : Option (Bool × PH) :=
  ck ((hK h a0).1 = 11) <|
  ((hR h a0 10)).bind fun a_2 =>
  ck ((hK h a_2).1 = 20) <|
  ck (inb 35 (hK h a_2).2 = true) <|
  if (hI h a_2 (ix 35)) = 8 then
    bd (Mo_fails N a0 5 h) fun v7 h8 =>
    some (v7, h8)
  else
    bd (Mo_nextToken N a0 h) fun v10 h11 =>
    ck ((hK h11 a0).1 = 11) <|
    ((hR h11 a0 10)).bind fun a_14 =>
    ck ((hK h11 a_14).1 = 20) <|
    ck (inb 18 (hK h11 a_14).2 = true) <|
    bd (Mo_needsNumber N a0 0 ((hI h11 a_14 (ix 18)) - 1) h11) fun v18 h19 =>
    if (bI v18) = 0 then
      some (false, h19)
    else
      ck ((hK h19 a0).1 = 11) <|
      bd (Mo_needsWord N a0 555 h19) fun v23 h24 =>
      if (bI v23) = 0 then
        some (false, h24)
      else
        ck ((hK h24 a0).1 = 11) <|
        if (hI h24 a0 6) = 2 then
          ((hR h24 a0 10)).bind fun a_29 =>
          ck ((hK h24 a_29).1 = 20) <|
          ck (inb 18 (hK h24 a_29).2 = true) <|
          bd (Mo_within N (hI h24 a0 8) (hI h19 a0 31) ((hI h24 a_29 (ix 18)) - 1) h24) fun v33 h34 =>
          if (bI v33) = 0 then
            Mo_readsCalls_b120 N  a0 (hI h19 a0 31) h34
          else
            Mo_readsCalls_b88 N N a0 (hI h19 a0 31) (hI h19 a0 31) h34
        else
          Mo_readsCalls_b120 N  a0 (hI h19 a0 31) h24
set_option maxRecDepth 20000 in
theorem Mo_readsCalls_ok (g : GT) (N : Nat) (a0 : Nat) (h : PH) (v : Bool) (h' : PH) (hE : Mo_readsCalls N a0 h = some (v, h')) (D : Nat) (hD : 3 ≤ D) : Calls g D pMo_readsCalls [va_rf (some a0)] h (oZ v) h' := by
  refine Calls.of cok_Mo_readsCalls ht_Mo_readsCalls pl_Mo_readsCalls (fun ad => by rw [lg_len, sL_cat]; simp only [List.map_cons, List.map_nil, rf_cat, cat_i, cat_l, List.sum_cons, List.sum_nil]; decide) ?_
  rw [show lv_args 0 [va_rf (some a0)] = [(0, va_rf (some a0))] from (by simp only [lv_args, rf_cat, cat_i, cat_l]; try rfl)]
  obtain ⟨D2, rfl⟩ : ∃ d, D = d + 1 := ⟨D - 1, by omega⟩
  unfold Mo_readsCalls at hE
  refine r_aload_n (t := some a0) 0 rfl rfl rfl ?_
  obtain ⟨hk1, hE⟩ := ckE hE
  refine r_getR rfl (fl_11_13 rfl) (Or.inr ⟨_, rfl⟩) rfl hk1 ?_
  refine r_bipush 35 rfl cb_35 ?_
  obtain ⟨a_2, ha3, hE⟩ := bnE hE
  obtain ⟨hk4, hE⟩ := ckE hE
  obtain ⟨hi5, hE⟩ := ckE hE
  refine r_iald rfl ha3 hk4 hi5 ?_
  refine r_bipush 8 rfl cb_8 ?_
  refine r_icmp_ne (tgt := 18) rfl (by decide) (fun hc6 => ?_) (fun hc6 => ?_)
  · have hE := ifP hc6 hE
    refine r_aload_n (t := some a0) 0 rfl rfl rfl ?_
    refine r_iconst 5 rfl ci_5 ?_
    obtain ⟨v7, h8, hq9, hE⟩ := bdE hE
    refine r_callV1 (rest := []) (hc := (Mo_fails_ok g N _ _ _ _ _ hq9 D2 (by omega))) rfl pm_Mo_fails lw_11_185 im_Mo_fails sl_Mo_fails rfl rfl rfl (rcOK hk1 rfl) (by decide) ?_
    cases hE
    exact r_ret rfl (Or.inl ⟨rfl, _, _, rfl, by first | rfl | rw [rZ, oZ, bI_tb (isB_bI _)], rfl, nar_B (isB_bI _)⟩)
  · have hE := ifN hc6 hE
    refine r_aload_n (t := some a0) 0 rfl rfl rfl ?_
    obtain ⟨v10, h11, hq12, hE⟩ := bdE hE
    refine r_callV0 (rest := []) (hc := (Mo_nextToken_ok g N _ _ _ _ hq12 D2 (by omega))) rfl pm_Mo_nextToken lw_11_191 im_Mo_nextToken sl_Mo_nextToken rfl rfl rfl (rcOK hk1 rfl) (by decide) ?_
    refine r_aload_n (t := some a0) 0 rfl rfl rfl ?_
    refine r_iconst 0 rfl ci_0 ?_
    refine r_aload_n (t := some a0) 0 rfl rfl rfl ?_
    obtain ⟨hk13, hE⟩ := ckE hE
    refine r_getR rfl (fl_11_13 rfl) (Or.inr ⟨_, rfl⟩) rfl hk13 ?_
    refine r_bipush 18 rfl cb_18 ?_
    obtain ⟨a_14, ha15, hE⟩ := bnE hE
    obtain ⟨hk16, hE⟩ := ckE hE
    obtain ⟨hi17, hE⟩ := ckE hE
    refine r_iald rfl ha15 hk16 hi17 ?_
    refine r_iconst 1 rfl ci_1 ?_
    refine r_isub rfl ?_
    obtain ⟨v18, h19, hq20, hE⟩ := bdE hE
    refine r_callV1 (rest := []) (hc := (Mo_needsNumber_ok g N _ _ _ _ _ _ hq20 D2 (by omega))) rfl pm_Mo_needsNumber lw_11_257 im_Mo_needsNumber sl_Mo_needsNumber rfl rfl rfl (rcOK hk13 rfl) (by decide) ?_
    refine r_if_ne (tgt := 41) rfl (by decide) (fun hc21 => ?_) (fun hc21 => ?_)
    · have hE := ifP hc21 hE
      refine r_iconst 0 rfl ci_0 ?_
      cases hE
      exact r_ret rfl (Or.inl ⟨rfl, _, _, rfl, rfl, rfl, rfl⟩)
    · have hE := ifN hc21 hE
      refine r_aload_n (t := some a0) 0 rfl rfl rfl ?_
      obtain ⟨hk22, hE⟩ := ckE hE
      refine r_getI rfl (fl_11_251 rfl) (Or.inl rfl) rfl hk22 ?_
      refine r_istore_n 1 rfl rfl (by decide) ?_
      refine r_aload_n (t := some a0) 0 rfl rfl rfl ?_
      refine r_ldc2 rfl kc_11_235 ?_
      obtain ⟨v23, h24, hq25, hE⟩ := bdE hE
      refine r_callV1 (rest := []) (hc := (Mo_needsWord_ok g N _ _ _ _ _ hq25 D2 (by omega))) rfl pm_Mo_needsWord lw_11_254 im_Mo_needsWord sl_Mo_needsWord rfl rfl rfl (rcOK hk22 rfl) (by decide) ?_
      refine r_if_ne (tgt := 58) rfl (by decide) (fun hc26 => ?_) (fun hc26 => ?_)
      · have hE := ifP hc26 hE
        refine r_iconst 0 rfl ci_0 ?_
        cases hE
        exact r_ret rfl (Or.inl ⟨rfl, _, _, rfl, rfl, rfl, rfl⟩)
      · have hE := ifN hc26 hE
        refine r_aload_n (t := some a0) 0 rfl rfl rfl ?_
        obtain ⟨hk27, hE⟩ := ckE hE
        refine r_getI rfl (fl_11_144 rfl) (Or.inl rfl) rfl hk27 ?_
        refine r_iconst 2 rfl ci_2 ?_
        refine r_icmp_ne (tgt := 120) rfl (by decide) (fun hc28 => ?_) (fun hc28 => ?_)
        · have hE := ifP hc28 hE
          refine r_aload_n (t := some a0) 0 rfl rfl rfl ?_
          refine r_getI rfl (fl_11_141 rfl) (Or.inl rfl) rfl hk27 ?_
          refine r_iload_n 1 rfl rfl rfl ?_
          refine r_aload_n (t := some a0) 0 rfl rfl rfl ?_
          refine r_getR rfl (fl_11_13 rfl) (Or.inr ⟨_, rfl⟩) rfl hk27 ?_
          refine r_bipush 18 rfl cb_18 ?_
          obtain ⟨a_29, ha30, hE⟩ := bnE hE
          obtain ⟨hk31, hE⟩ := ckE hE
          obtain ⟨hi32, hE⟩ := ckE hE
          refine r_iald rfl ha30 hk31 hi32 ?_
          refine r_iconst 1 rfl ci_1 ?_
          refine r_isub rfl ?_
          obtain ⟨v33, h34, hq35, hE⟩ := bdE hE
          refine r_callS1 (rest := []) (hc := (Mo_within_ok g N _ _ _ _ _ _ hq35 D2 (by omega))) rfl pm_Mo_within lw_11_247 st_Mo_within rfl rfl (by decide) ?_
          refine r_if_eq (tgt := 120) rfl (by decide) (fun hc36 => ?_) (fun hc36 => ?_)
          · have hE := ifP hc36 hE
            first | exact r_sb (Mo_readsCalls_b120_ok g N _ hD   _ _ _ _ _ hE) ⟨rfl, rfl, trivial⟩ | exact r_sb (Mo_readsCalls_b120_ok g N _ hD   _ _ _ _ _ hE) (by simp only [su1, su2, dr1_rf, dr1_in, dr1_lo, dr2_rf, dr2_in, dr2_lo]; exact ⟨rfl, rfl, trivial⟩)
          · have hE := ifN hc36 hE
            refine r_iload_n 1 rfl rfl rfl ?_
            refine r_istore_n 2 rfl rfl (by decide) ?_
            first | exact r_sb (Mo_readsCalls_b88_ok g N _ hD  N _ _ _ _ _ _ hE) ⟨rfl, rfl, rfl, trivial⟩ | exact r_sb (Mo_readsCalls_b88_ok g N _ hD  N _ _ _ _ _ _ hE) (by simp only [su1, su2, dr1_rf, dr1_in, dr1_lo, dr2_rf, dr2_in, dr2_lo]; exact ⟨rfl, rfl, rfl, trivial⟩)
        · have hE := ifN hc28 hE
          first | exact r_sb (Mo_readsCalls_b120_ok g N _ hD   _ _ _ _ _ hE) ⟨rfl, rfl, trivial⟩ | exact r_sb (Mo_readsCalls_b120_ok g N _ hD   _ _ _ _ _ hE) (by simp only [su1, su2, dr1_rf, dr1_in, dr1_lo, dr2_rf, dr2_in, dr2_lo]; exact ⟨rfl, rfl, trivial⟩)
def Mo_isKept (N : Nat) (a0 : Nat) (h : PH) : Option (Bool × PH) :=
  ck ((hK h a0).1 = 11) <|
  if (hI h a0 6) = 1 then
    if (lg_cmp (hJ h a0 7) 4562600) = 0 then
      some (true, h)
    else
      if (lg_cmp (hJ h a0 7) 50934) = 0 then
        some (true, h)
      else
        if (lg_cmp (hJ h a0 7) 23175793) = 0 then
          some (true, h)
        else
          if (lg_cmp (hJ h a0 7) 12532058) = 0 then
            some (true, h)
          else
            if (lg_cmp (hJ h a0 7) 338365585) = 0 then
              some (true, h)
            else
              if (lg_cmp (hJ h a0 7) 240023) = 0 then
                some (true, h)
              else
                if (lg_cmp (hJ h a0 7) 9050609216) = 0 then
                  some (true, h)
                else
                  if (lg_cmp (hJ h a0 7) 103726) = 0 then
                    some (true, h)
                  else
                    if (lg_cmp (hJ h a0 7) 131638) = 0 then
                      some (true, h)
                    else
                      if (lg_cmp (hJ h a0 7) 464134) = 0 then
                        some (true, h)
                      else
                        if (lg_cmp (hJ h a0 7) 79958) = 0 then
                          some (true, h)
                        else
                          if (lg_cmp (hJ h a0 7) 355280) = 0 then
                            some (true, h)
                          else
                            if (lg_cmp (hJ h a0 7) 11088176) = 0 then
                              some (true, h)
                            else
                              if (lg_cmp (hJ h a0 7) 1623097) = 0 then
                                some (true, h)
                              else
                                if (lg_cmp (hJ h a0 7) 555) = 0 then
                                  some (true, h)
                                else
                                  if (lg_cmp (hJ h a0 7) 4272932) = 0 then
                                    some (true, h)
                                  else
                                    if (lg_cmp (hJ h a0 7) 70340) = 0 then
                                      some (true, h)
                                    else
                                      if (lg_cmp (hJ h a0 7) 144941) = 0 then
                                        some (true, h)
                                      else
                                        if (lg_cmp (hJ h a0 7) 6888375828) = 0 then
                                          some (true, h)
                                        else
                                          if (lg_cmp (hJ h a0 7) 11103) = 0 then
                                            some (true, h)
                                          else
                                            if (lg_cmp (hJ h a0 7) 10631) = 0 then
                                              some (true, h)
                                            else
                                              if (lg_cmp (hJ h a0 7) 1111) = 0 then
                                                some (true, h)
                                              else
                                                if (lg_cmp (hJ h a0 7) 423) = 0 then
                                                  some (true, h)
                                                else
                                                  some (false, h)
  else
    some (true, h)
set_option maxRecDepth 20000 in
theorem Mo_isKept_ok (g : GT) (N : Nat) (a0 : Nat) (h : PH) (v : Bool) (h' : PH) (hE : Mo_isKept N a0 h = some (v, h')) (D : Nat) (hD : 0 ≤ D) : Calls g D pMo_isKept [va_rf (some a0)] h (oZ v) h' := by
  refine Calls.of cok_Mo_isKept ht_Mo_isKept pl_Mo_isKept (fun ad => by rw [lg_len, sL_cat]; simp only [List.map_cons, List.map_nil, rf_cat, cat_i, cat_l, List.sum_cons, List.sum_nil]; decide) ?_
  rw [show lv_args 0 [va_rf (some a0)] = [(0, va_rf (some a0))] from (by simp only [lv_args, rf_cat, cat_i, cat_l]; try rfl)]
  unfold Mo_isKept at hE
  refine r_aload_n (t := some a0) 0 rfl rfl rfl ?_
  obtain ⟨hk1, hE⟩ := ckE hE
  refine r_getI rfl (fl_11_144 rfl) (Or.inl rfl) rfl hk1 ?_
  refine r_iconst 1 rfl ci_1 ?_
  refine r_icmp_eq (tgt := 10) rfl (by decide) (fun hc2 => ?_) (fun hc2 => ?_)
  · have hE := ifP hc2 hE
    refine r_aload_n (t := some a0) 0 rfl rfl rfl ?_
    refine r_getJ rfl (fl_11_137 rfl) rfl hk1 ?_
    refine r_ldc2 rfl kc_11_207 ?_
    refine r_lcmp rfl ?_
    refine r_if_eq (tgt := 263) rfl (by decide) (fun hc3 => ?_) (fun hc3 => ?_)
    · have hE := ifP hc3 hE
      refine r_iconst 1 rfl ci_1 ?_
      refine r_goto (tgt := 268) rfl (by decide) ?_
      cases hE
      exact r_ret rfl (Or.inl ⟨rfl, _, _, rfl, rfl, rfl, rfl⟩)
    · have hE := ifN hc3 hE
      refine r_aload_n (t := some a0) 0 rfl rfl rfl ?_
      refine r_getJ rfl (fl_11_137 rfl) rfl hk1 ?_
      refine r_ldc2 rfl kc_11_209 ?_
      refine r_lcmp rfl ?_
      refine r_if_eq (tgt := 263) rfl (by decide) (fun hc4 => ?_) (fun hc4 => ?_)
      · have hE := ifP hc4 hE
        refine r_iconst 1 rfl ci_1 ?_
        refine r_goto (tgt := 268) rfl (by decide) ?_
        cases hE
        exact r_ret rfl (Or.inl ⟨rfl, _, _, rfl, rfl, rfl, rfl⟩)
      · have hE := ifN hc4 hE
        refine r_aload_n (t := some a0) 0 rfl rfl rfl ?_
        refine r_getJ rfl (fl_11_137 rfl) rfl hk1 ?_
        refine r_ldc2 rfl kc_11_211 ?_
        refine r_lcmp rfl ?_
        refine r_if_eq (tgt := 263) rfl (by decide) (fun hc5 => ?_) (fun hc5 => ?_)
        · have hE := ifP hc5 hE
          refine r_iconst 1 rfl ci_1 ?_
          refine r_goto (tgt := 268) rfl (by decide) ?_
          cases hE
          exact r_ret rfl (Or.inl ⟨rfl, _, _, rfl, rfl, rfl, rfl⟩)
        · have hE := ifN hc5 hE
          refine r_aload_n (t := some a0) 0 rfl rfl rfl ?_
          refine r_getJ rfl (fl_11_137 rfl) rfl hk1 ?_
          refine r_ldc2 rfl kc_11_213 ?_
          refine r_lcmp rfl ?_
          refine r_if_eq (tgt := 263) rfl (by decide) (fun hc6 => ?_) (fun hc6 => ?_)
          · have hE := ifP hc6 hE
            refine r_iconst 1 rfl ci_1 ?_
            refine r_goto (tgt := 268) rfl (by decide) ?_
            cases hE
            exact r_ret rfl (Or.inl ⟨rfl, _, _, rfl, rfl, rfl, rfl⟩)
          · have hE := ifN hc6 hE
            refine r_aload_n (t := some a0) 0 rfl rfl rfl ?_
            refine r_getJ rfl (fl_11_137 rfl) rfl hk1 ?_
            refine r_ldc2 rfl kc_11_215 ?_
            refine r_lcmp rfl ?_
            refine r_if_eq (tgt := 263) rfl (by decide) (fun hc7 => ?_) (fun hc7 => ?_)
            · have hE := ifP hc7 hE
              refine r_iconst 1 rfl ci_1 ?_
              refine r_goto (tgt := 268) rfl (by decide) ?_
              cases hE
              exact r_ret rfl (Or.inl ⟨rfl, _, _, rfl, rfl, rfl, rfl⟩)
            · have hE := ifN hc7 hE
              refine r_aload_n (t := some a0) 0 rfl rfl rfl ?_
              refine r_getJ rfl (fl_11_137 rfl) rfl hk1 ?_
              refine r_ldc2 rfl kc_11_217 ?_
              refine r_lcmp rfl ?_
              refine r_if_eq (tgt := 263) rfl (by decide) (fun hc8 => ?_) (fun hc8 => ?_)
              · have hE := ifP hc8 hE
                refine r_iconst 1 rfl ci_1 ?_
                refine r_goto (tgt := 268) rfl (by decide) ?_
                cases hE
                exact r_ret rfl (Or.inl ⟨rfl, _, _, rfl, rfl, rfl, rfl⟩)
              · have hE := ifN hc8 hE
                refine r_aload_n (t := some a0) 0 rfl rfl rfl ?_
                refine r_getJ rfl (fl_11_137 rfl) rfl hk1 ?_
                refine r_ldc2 rfl kc_11_219 ?_
                refine r_lcmp rfl ?_
                refine r_if_eq (tgt := 263) rfl (by decide) (fun hc9 => ?_) (fun hc9 => ?_)
                · have hE := ifP hc9 hE
                  refine r_iconst 1 rfl ci_1 ?_
                  refine r_goto (tgt := 268) rfl (by decide) ?_
                  cases hE
                  exact r_ret rfl (Or.inl ⟨rfl, _, _, rfl, rfl, rfl, rfl⟩)
                · have hE := ifN hc9 hE
                  refine r_aload_n (t := some a0) 0 rfl rfl rfl ?_
                  refine r_getJ rfl (fl_11_137 rfl) rfl hk1 ?_
                  refine r_ldc2 rfl kc_11_221 ?_
                  refine r_lcmp rfl ?_
                  refine r_if_eq (tgt := 263) rfl (by decide) (fun hc10 => ?_) (fun hc10 => ?_)
                  · have hE := ifP hc10 hE
                    refine r_iconst 1 rfl ci_1 ?_
                    refine r_goto (tgt := 268) rfl (by decide) ?_
                    cases hE
                    exact r_ret rfl (Or.inl ⟨rfl, _, _, rfl, rfl, rfl, rfl⟩)
                  · have hE := ifN hc10 hE
                    refine r_aload_n (t := some a0) 0 rfl rfl rfl ?_
                    refine r_getJ rfl (fl_11_137 rfl) rfl hk1 ?_
                    refine r_ldc2 rfl kc_11_223 ?_
                    refine r_lcmp rfl ?_
                    refine r_if_eq (tgt := 263) rfl (by decide) (fun hc11 => ?_) (fun hc11 => ?_)
                    · have hE := ifP hc11 hE
                      refine r_iconst 1 rfl ci_1 ?_
                      refine r_goto (tgt := 268) rfl (by decide) ?_
                      cases hE
                      exact r_ret rfl (Or.inl ⟨rfl, _, _, rfl, rfl, rfl, rfl⟩)
                    · have hE := ifN hc11 hE
                      refine r_aload_n (t := some a0) 0 rfl rfl rfl ?_
                      refine r_getJ rfl (fl_11_137 rfl) rfl hk1 ?_
                      refine r_ldc2 rfl kc_11_225 ?_
                      refine r_lcmp rfl ?_
                      refine r_if_eq (tgt := 263) rfl (by decide) (fun hc12 => ?_) (fun hc12 => ?_)
                      · have hE := ifP hc12 hE
                        refine r_iconst 1 rfl ci_1 ?_
                        refine r_goto (tgt := 268) rfl (by decide) ?_
                        cases hE
                        exact r_ret rfl (Or.inl ⟨rfl, _, _, rfl, rfl, rfl, rfl⟩)
                      · have hE := ifN hc12 hE
                        refine r_aload_n (t := some a0) 0 rfl rfl rfl ?_
                        refine r_getJ rfl (fl_11_137 rfl) rfl hk1 ?_
                        refine r_ldc2 rfl kc_11_227 ?_
                        refine r_lcmp rfl ?_
                        refine r_if_eq (tgt := 263) rfl (by decide) (fun hc13 => ?_) (fun hc13 => ?_)
                        · have hE := ifP hc13 hE
                          refine r_iconst 1 rfl ci_1 ?_
                          refine r_goto (tgt := 268) rfl (by decide) ?_
                          cases hE
                          exact r_ret rfl (Or.inl ⟨rfl, _, _, rfl, rfl, rfl, rfl⟩)
                        · have hE := ifN hc13 hE
                          refine r_aload_n (t := some a0) 0 rfl rfl rfl ?_
                          refine r_getJ rfl (fl_11_137 rfl) rfl hk1 ?_
                          refine r_ldc2 rfl kc_11_229 ?_
                          refine r_lcmp rfl ?_
                          refine r_if_eq (tgt := 263) rfl (by decide) (fun hc14 => ?_) (fun hc14 => ?_)
                          · have hE := ifP hc14 hE
                            refine r_iconst 1 rfl ci_1 ?_
                            refine r_goto (tgt := 268) rfl (by decide) ?_
                            cases hE
                            exact r_ret rfl (Or.inl ⟨rfl, _, _, rfl, rfl, rfl, rfl⟩)
                          · have hE := ifN hc14 hE
                            refine r_aload_n (t := some a0) 0 rfl rfl rfl ?_
                            refine r_getJ rfl (fl_11_137 rfl) rfl hk1 ?_
                            refine r_ldc2 rfl kc_11_231 ?_
                            refine r_lcmp rfl ?_
                            refine r_if_eq (tgt := 263) rfl (by decide) (fun hc15 => ?_) (fun hc15 => ?_)
                            · have hE := ifP hc15 hE
                              refine r_iconst 1 rfl ci_1 ?_
                              refine r_goto (tgt := 268) rfl (by decide) ?_
                              cases hE
                              exact r_ret rfl (Or.inl ⟨rfl, _, _, rfl, rfl, rfl, rfl⟩)
                            · have hE := ifN hc15 hE
                              refine r_aload_n (t := some a0) 0 rfl rfl rfl ?_
                              refine r_getJ rfl (fl_11_137 rfl) rfl hk1 ?_
                              refine r_ldc2 rfl kc_11_233 ?_
                              refine r_lcmp rfl ?_
                              refine r_if_eq (tgt := 263) rfl (by decide) (fun hc16 => ?_) (fun hc16 => ?_)
                              · have hE := ifP hc16 hE
                                refine r_iconst 1 rfl ci_1 ?_
                                refine r_goto (tgt := 268) rfl (by decide) ?_
                                cases hE
                                exact r_ret rfl (Or.inl ⟨rfl, _, _, rfl, rfl, rfl, rfl⟩)
                              · have hE := ifN hc16 hE
                                refine r_aload_n (t := some a0) 0 rfl rfl rfl ?_
                                refine r_getJ rfl (fl_11_137 rfl) rfl hk1 ?_
                                refine r_ldc2 rfl kc_11_235 ?_
                                refine r_lcmp rfl ?_
                                refine r_if_eq (tgt := 263) rfl (by decide) (fun hc17 => ?_) (fun hc17 => ?_)
                                · have hE := ifP hc17 hE
                                  refine r_iconst 1 rfl ci_1 ?_
                                  refine r_goto (tgt := 268) rfl (by decide) ?_
                                  cases hE
                                  exact r_ret rfl (Or.inl ⟨rfl, _, _, rfl, rfl, rfl, rfl⟩)
                                · have hE := ifN hc17 hE
                                  refine r_aload_n (t := some a0) 0 rfl rfl rfl ?_
                                  refine r_getJ rfl (fl_11_137 rfl) rfl hk1 ?_
                                  refine r_ldc2 rfl kc_11_237 ?_
                                  refine r_lcmp rfl ?_
                                  refine r_if_eq (tgt := 263) rfl (by decide) (fun hc18 => ?_) (fun hc18 => ?_)
                                  · have hE := ifP hc18 hE
                                    refine r_iconst 1 rfl ci_1 ?_
                                    refine r_goto (tgt := 268) rfl (by decide) ?_
                                    cases hE
                                    exact r_ret rfl (Or.inl ⟨rfl, _, _, rfl, rfl, rfl, rfl⟩)
                                  · have hE := ifN hc18 hE
                                    refine r_aload_n (t := some a0) 0 rfl rfl rfl ?_
                                    refine r_getJ rfl (fl_11_137 rfl) rfl hk1 ?_
                                    refine r_ldc2 rfl kc_11_239 ?_
                                    refine r_lcmp rfl ?_
                                    refine r_if_eq (tgt := 263) rfl (by decide) (fun hc19 => ?_) (fun hc19 => ?_)
                                    · have hE := ifP hc19 hE
                                      refine r_iconst 1 rfl ci_1 ?_
                                      refine r_goto (tgt := 268) rfl (by decide) ?_
                                      cases hE
                                      exact r_ret rfl (Or.inl ⟨rfl, _, _, rfl, rfl, rfl, rfl⟩)
                                    · have hE := ifN hc19 hE
                                      refine r_aload_n (t := some a0) 0 rfl rfl rfl ?_
                                      refine r_getJ rfl (fl_11_137 rfl) rfl hk1 ?_
                                      refine r_ldc2 rfl kc_11_241 ?_
                                      refine r_lcmp rfl ?_
                                      refine r_if_eq (tgt := 263) rfl (by decide) (fun hc20 => ?_) (fun hc20 => ?_)
                                      · have hE := ifP hc20 hE
                                        refine r_iconst 1 rfl ci_1 ?_
                                        refine r_goto (tgt := 268) rfl (by decide) ?_
                                        cases hE
                                        exact r_ret rfl (Or.inl ⟨rfl, _, _, rfl, rfl, rfl, rfl⟩)
                                      · have hE := ifN hc20 hE
                                        refine r_aload_n (t := some a0) 0 rfl rfl rfl ?_
                                        refine r_getJ rfl (fl_11_137 rfl) rfl hk1 ?_
                                        refine r_ldc2 rfl kc_11_243 ?_
                                        refine r_lcmp rfl ?_
                                        refine r_if_eq (tgt := 263) rfl (by decide) (fun hc21 => ?_) (fun hc21 => ?_)
                                        · have hE := ifP hc21 hE
                                          refine r_iconst 1 rfl ci_1 ?_
                                          refine r_goto (tgt := 268) rfl (by decide) ?_
                                          cases hE
                                          exact r_ret rfl (Or.inl ⟨rfl, _, _, rfl, rfl, rfl, rfl⟩)
                                        · have hE := ifN hc21 hE
                                          refine r_aload_n (t := some a0) 0 rfl rfl rfl ?_
                                          refine r_getJ rfl (fl_11_137 rfl) rfl hk1 ?_
                                          refine r_ldc2 rfl kc_11_245 ?_
                                          refine r_lcmp rfl ?_
                                          refine r_if_eq (tgt := 263) rfl (by decide) (fun hc22 => ?_) (fun hc22 => ?_)
                                          · have hE := ifP hc22 hE
                                            refine r_iconst 1 rfl ci_1 ?_
                                            refine r_goto (tgt := 268) rfl (by decide) ?_
                                            cases hE
                                            exact r_ret rfl (Or.inl ⟨rfl, _, _, rfl, rfl, rfl, rfl⟩)
                                          · have hE := ifN hc22 hE
                                            refine r_aload_n (t := some a0) 0 rfl rfl rfl ?_
                                            refine r_getJ rfl (fl_11_137 rfl) rfl hk1 ?_
                                            refine r_ldc2 rfl kc_11_175 ?_
                                            refine r_lcmp rfl ?_
                                            refine r_if_eq (tgt := 263) rfl (by decide) (fun hc23 => ?_) (fun hc23 => ?_)
                                            · have hE := ifP hc23 hE
                                              refine r_iconst 1 rfl ci_1 ?_
                                              refine r_goto (tgt := 268) rfl (by decide) ?_
                                              cases hE
                                              exact r_ret rfl (Or.inl ⟨rfl, _, _, rfl, rfl, rfl, rfl⟩)
                                            · have hE := ifN hc23 hE
                                              refine r_aload_n (t := some a0) 0 rfl rfl rfl ?_
                                              refine r_getJ rfl (fl_11_137 rfl) rfl hk1 ?_
                                              refine r_ldc2 rfl kc_11_194 ?_
                                              refine r_lcmp rfl ?_
                                              refine r_if_eq (tgt := 263) rfl (by decide) (fun hc24 => ?_) (fun hc24 => ?_)
                                              · have hE := ifP hc24 hE
                                                refine r_iconst 1 rfl ci_1 ?_
                                                refine r_goto (tgt := 268) rfl (by decide) ?_
                                                cases hE
                                                exact r_ret rfl (Or.inl ⟨rfl, _, _, rfl, rfl, rfl, rfl⟩)
                                              · have hE := ifN hc24 hE
                                                refine r_aload_n (t := some a0) 0 rfl rfl rfl ?_
                                                refine r_getJ rfl (fl_11_137 rfl) rfl hk1 ?_
                                                refine r_ldc2 rfl kc_11_196 ?_
                                                refine r_lcmp rfl ?_
                                                refine r_if_ne (tgt := 267) rfl (by decide) (fun hc25 => ?_) (fun hc25 => ?_)
                                                · have hE := ifP hc25 hE
                                                  refine r_iconst 1 rfl ci_1 ?_
                                                  refine r_goto (tgt := 268) rfl (by decide) ?_
                                                  cases hE
                                                  exact r_ret rfl (Or.inl ⟨rfl, _, _, rfl, rfl, rfl, rfl⟩)
                                                · have hE := ifN hc25 hE
                                                  refine r_iconst 0 rfl ci_0 ?_
                                                  cases hE
                                                  exact r_ret rfl (Or.inl ⟨rfl, _, _, rfl, rfl, rfl, rfl⟩)
  · have hE := ifN hc2 hE
    refine r_iconst 1 rfl ci_1 ?_
    cases hE
    exact r_ret rfl (Or.inl ⟨rfl, _, _, rfl, rfl, rfl, rfl⟩)
def Mo_fact (N : Nat) (a0 : Nat) (h : PH) : Option (Int32 × PH) :=
  ck ((hK h a0).1 = 11) <|
  if (hI h a0 6) = 1 then
    if (lg_cmp (hJ h a0 7) 7966953928) = 0 then
      some (1, h)
    else
      if (lg_cmp (hJ h a0 7) 7055522852) = 0 then
        some (2, h)
      else
        if (lg_cmp (hJ h a0 7) 400577) = 0 then
          some (3, h)
        else
          if (lg_cmp (hJ h a0 7) 358472) = 0 then
            some (4, h)
          else
            if (lg_cmp (hJ h a0 7) 161600) = 0 then
              some (5, h)
            else
              some (0, h)
  else
    some (0, h)
set_option maxRecDepth 20000 in
theorem Mo_fact_ok (g : GT) (N : Nat) (a0 : Nat) (h : PH) (v : Int32) (h' : PH) (hE : Mo_fact N a0 h = some (v, h')) (D : Nat) (hD : 0 ≤ D) : Calls g D pMo_fact [va_rf (some a0)] h (oI v) h' := by
  refine Calls.of cok_Mo_fact ht_Mo_fact pl_Mo_fact (fun ad => by rw [lg_len, sL_cat]; simp only [List.map_cons, List.map_nil, rf_cat, cat_i, cat_l, List.sum_cons, List.sum_nil]; decide) ?_
  rw [show lv_args 0 [va_rf (some a0)] = [(0, va_rf (some a0))] from (by simp only [lv_args, rf_cat, cat_i, cat_l]; try rfl)]
  unfold Mo_fact at hE
  refine r_aload_n (t := some a0) 0 rfl rfl rfl ?_
  obtain ⟨hk1, hE⟩ := ckE hE
  refine r_getI rfl (fl_11_144 rfl) (Or.inl rfl) rfl hk1 ?_
  refine r_iconst 1 rfl ci_1 ?_
  refine r_icmp_eq (tgt := 10) rfl (by decide) (fun hc2 => ?_) (fun hc2 => ?_)
  · have hE := ifP hc2 hE
    refine r_aload_n (t := some a0) 0 rfl rfl rfl ?_
    refine r_getJ rfl (fl_11_137 rfl) rfl hk1 ?_
    refine r_ldc2 rfl kc_11_161 ?_
    refine r_lcmp rfl ?_
    refine r_if_ne (tgt := 25) rfl (by decide) (fun hc3 => ?_) (fun hc3 => ?_)
    · have hE := ifP hc3 hE
      refine r_iconst 1 rfl ci_1 ?_
      refine r_goto (tgt := 86) rfl (by decide) ?_
      cases hE
      exact r_ret rfl (Or.inl ⟨rfl, _, _, rfl, rfl, rfl, rfl⟩)
    · have hE := ifN hc3 hE
      refine r_aload_n (t := some a0) 0 rfl rfl rfl ?_
      refine r_getJ rfl (fl_11_137 rfl) rfl hk1 ?_
      refine r_ldc2 rfl kc_11_163 ?_
      refine r_lcmp rfl ?_
      refine r_if_ne (tgt := 40) rfl (by decide) (fun hc4 => ?_) (fun hc4 => ?_)
      · have hE := ifP hc4 hE
        refine r_iconst 2 rfl ci_2 ?_
        refine r_goto (tgt := 86) rfl (by decide) ?_
        cases hE
        exact r_ret rfl (Or.inl ⟨rfl, _, _, rfl, rfl, rfl, rfl⟩)
      · have hE := ifN hc4 hE
        refine r_aload_n (t := some a0) 0 rfl rfl rfl ?_
        refine r_getJ rfl (fl_11_137 rfl) rfl hk1 ?_
        refine r_ldc2 rfl kc_11_165 ?_
        refine r_lcmp rfl ?_
        refine r_if_ne (tgt := 55) rfl (by decide) (fun hc5 => ?_) (fun hc5 => ?_)
        · have hE := ifP hc5 hE
          refine r_iconst 3 rfl ci_3 ?_
          refine r_goto (tgt := 86) rfl (by decide) ?_
          cases hE
          exact r_ret rfl (Or.inl ⟨rfl, _, _, rfl, rfl, rfl, rfl⟩)
        · have hE := ifN hc5 hE
          refine r_aload_n (t := some a0) 0 rfl rfl rfl ?_
          refine r_getJ rfl (fl_11_137 rfl) rfl hk1 ?_
          refine r_ldc2 rfl kc_11_167 ?_
          refine r_lcmp rfl ?_
          refine r_if_ne (tgt := 70) rfl (by decide) (fun hc6 => ?_) (fun hc6 => ?_)
          · have hE := ifP hc6 hE
            refine r_iconst 4 rfl ci_4 ?_
            refine r_goto (tgt := 86) rfl (by decide) ?_
            cases hE
            exact r_ret rfl (Or.inl ⟨rfl, _, _, rfl, rfl, rfl, rfl⟩)
          · have hE := ifN hc6 hE
            refine r_aload_n (t := some a0) 0 rfl rfl rfl ?_
            refine r_getJ rfl (fl_11_137 rfl) rfl hk1 ?_
            refine r_ldc2 rfl kc_11_169 ?_
            refine r_lcmp rfl ?_
            refine r_if_ne (tgt := 85) rfl (by decide) (fun hc7 => ?_) (fun hc7 => ?_)
            · have hE := ifP hc7 hE
              refine r_iconst 5 rfl ci_5 ?_
              refine r_goto (tgt := 86) rfl (by decide) ?_
              cases hE
              exact r_ret rfl (Or.inl ⟨rfl, _, _, rfl, rfl, rfl, rfl⟩)
            · have hE := ifN hc7 hE
              refine r_iconst 0 rfl ci_0 ?_
              cases hE
              exact r_ret rfl (Or.inl ⟨rfl, _, _, rfl, rfl, rfl, rfl⟩)
  · have hE := ifN hc2 hE
    refine r_iconst 0 rfl ci_0 ?_
    cases hE
    exact r_ret rfl (Or.inl ⟨rfl, _, _, rfl, rfl, rfl, rfl⟩)
def Mo_puts (N : Nat) (a0 : Nat) (x1 : Int32) (h : PH) : Option (Unit × PH) :=
  ck ((hK h a0).1 = 11) <|
  ((hR h a0 16)).bind fun a_2 =>
  ck ((hK h a_2).1 = 20) <|
  ck (inb (hI h a0 17) (hK h a_2).2 = true) <|
  lt0 (wI h a_2 (ix (hI h a0 17)) x1) fun h6 =>
  lt0 (wI h6 a0 17 ((hI h6 a0 17) + 1)) fun h8 =>
  some ((), h8)
set_option maxRecDepth 20000 in
theorem Mo_puts_ok (g : GT) (N : Nat) (a0 : Nat) (x1 : Int32) (h : PH) (v : Unit) (h' : PH) (hE : Mo_puts N a0 x1 h = some (v, h')) (D : Nat) (hD : 0 ≤ D) : Calls g D pMo_puts [va_rf (some a0), .int x1] h (oV v) h' := by
  refine Calls.of cok_Mo_puts ht_Mo_puts pl_Mo_puts (fun ad => by rw [lg_len, sL_cat]; simp only [List.map_cons, List.map_nil, rf_cat, cat_i, cat_l, List.sum_cons, List.sum_nil]; decide) ?_
  rw [show lv_args 0 [va_rf (some a0), .int x1] = [(0, va_rf (some a0)), (1, .int x1)] from (by simp only [lv_args, rf_cat, cat_i, cat_l]; try rfl)]
  unfold Mo_puts at hE
  refine r_aload_n (t := some a0) 0 rfl rfl rfl ?_
  obtain ⟨hk1, hE⟩ := ckE hE
  refine r_getR rfl (fl_11_33 rfl) (Or.inr ⟨_, rfl⟩) rfl hk1 ?_
  refine r_aload_n (t := some a0) 0 rfl rfl rfl ?_
  refine r_getI rfl (fl_11_158 rfl) (Or.inl rfl) rfl hk1 ?_
  refine r_iload_n 1 rfl rfl rfl ?_
  obtain ⟨a_2, ha3, hE⟩ := bnE hE
  obtain ⟨hk4, hE⟩ := ckE hE
  obtain ⟨hi5, hE⟩ := ckE hE
  obtain ⟨h6, he7, hE⟩ := ltE hE
  refine r_iast rfl ha3 hk4 hi5 he7 ?_
  refine r_aload_n (t := some a0) 0 rfl rfl rfl ?_
  refine r_dup rfl (rf_cat _) ?_
  refine r_getI rfl (fl_11_158 rfl) (Or.inl rfl) rfl (kwI he7 hk1) ?_
  refine r_iconst 1 rfl ci_1 ?_
  refine r_iadd rfl ?_
  obtain ⟨h8, he9, hE⟩ := ltE hE
  refine r_putI rfl (fl_11_158 rfl) finF rfl (kwI he7 hk1) he9 ?_
  cases hE
  exact r_ret rfl (Or.inr (Or.inr (Or.inr ⟨rfl, rfl, rfl, rfl⟩)))
def Mo_reads_b172 (N : Nat) (self_11 : Nat → Int32 → Int32 → PH → Option (Bool × PH)) (a0 : Nat) (x1 : Int32) (x2 : Int32) (h : PH) : Option (Bool × PH) :=
  ck ((hK h a0).1 = 11) <|
  bd (Mo_nextToken N a0 h) fun v2 h3 =>
  self_11 a0 x1 x2 h3
set_option maxRecDepth 20000 in
theorem Mo_reads_b172_ok (g : GT) (N : Nat) (D : Nat) (hD : 2 ≤ D) (self_11 : Nat → Int32 → Int32 → PH → Option (Bool × PH)) (hself_11 : ∀ (a0 : Nat) (x1 : Int32) (x2 : Int32) (h : PH) (v : Bool) (h' : PH), self_11 a0 x1 x2 h = some (v, h') → Run g pMo_reads D 11 [(0, va_rf (some a0)), (1, .int x1), (2, .int x2)] [] h (rZ v) h') : ∀ (a0 : Nat) (x1 : Int32) (x2 : Int32) (h : PH) (v : Bool) (h' : PH), Mo_reads_b172 N self_11 a0 x1 x2 h = some (v, h') → Run g pMo_reads D 172 [(0, va_rf (some a0)), (1, .int x1), (2, .int x2)] [] h (rZ v) h' := by
  obtain ⟨D2, rfl⟩ : ∃ d, D = d + 1 := ⟨D - 1, by omega⟩
  intro a0 x1 x2 h v h' hE
  unfold Mo_reads_b172 at hE
  refine r_aload_n (t := some a0) 0 rfl rfl rfl ?_
  obtain ⟨hk1, hE⟩ := ckE hE
  obtain ⟨v2, h3, hq4, hE⟩ := bdE hE
  refine r_callV0 (rest := []) (hc := (Mo_nextToken_ok g N _ _ _ _ hq4 D2 (by omega))) rfl pm_Mo_nextToken lw_11_191 im_Mo_nextToken sl_Mo_nextToken rfl rfl rfl (rcOK hk1 rfl) (by decide) ?_
  refine r_goto (tgt := 11) rfl (by decide) ?_
  first | exact r_sb (hself_11 _ _ _ _ _ _ hE) ⟨rfl, rfl, rfl, trivial⟩ | exact r_sb (hself_11 _ _ _ _ _ _ hE) (by simp only [su1, su2, dr1_rf, dr1_in, dr1_lo, dr2_rf, dr2_in, dr2_lo]; exact ⟨rfl, rfl, rfl, trivial⟩)
def Mo_reads_b120 (N : Nat) (self_11 : Nat → Int32 → Int32 → PH → Option (Bool × PH)) (s0 : Option Nat) (s1 : Int32) (s2 : Int32) (a0 : Nat) (x1 : Int32) (x2 : Int32) (h : PH) : Option (Bool × PH) :=
  (s0).bind fun a_1 =>
  ck ((hK h a_1).1 = 20) <|
  ck (inb s1 (hK h a_1).2 = true) <|
  lt0 (wI h a_1 (ix s1) s2) fun h5 =>
  ck ((hK h5 a0).1 = 11) <|
  ((hR h5 a0 20)).bind fun a_8 =>
  ck ((hK h5 a_8).1 = 21) <|
  ck (inb x1 (hK h5 a_8).2 = true) <|
  lt0 (wZ h5 a_8 (ix x1) (tb 0)) fun h12 =>
  Mo_reads_b172 N self_11  a0 x1 x2 h12
set_option maxRecDepth 20000 in
theorem Mo_reads_b120_ok (g : GT) (N : Nat) (D : Nat) (hD : 2 ≤ D) (self_11 : Nat → Int32 → Int32 → PH → Option (Bool × PH)) (hself_11 : ∀ (a0 : Nat) (x1 : Int32) (x2 : Int32) (h : PH) (v : Bool) (h' : PH), self_11 a0 x1 x2 h = some (v, h') → Run g pMo_reads D 11 [(0, va_rf (some a0)), (1, .int x1), (2, .int x2)] [] h (rZ v) h') : ∀ (s0 : Option Nat) (s1 : Int32) (s2 : Int32) (a0 : Nat) (x1 : Int32) (x2 : Int32) (h : PH) (v : Bool) (h' : PH), Mo_reads_b120 N self_11 s0 s1 s2 a0 x1 x2 h = some (v, h') → Run g pMo_reads D 120 [(0, va_rf (some a0)), (1, .int x1), (2, .int x2)] [.int s2, .int s1, va_rf s0] h (rZ v) h' := by
  obtain ⟨D2, rfl⟩ : ∃ d, D = d + 1 := ⟨D - 1, by omega⟩
  intro s0 s1 s2 a0 x1 x2 h v h' hE
  unfold Mo_reads_b120 at hE
  obtain ⟨a_1, ha2, hE⟩ := bnE hE
  obtain ⟨hk3, hE⟩ := ckE hE
  obtain ⟨hi4, hE⟩ := ckE hE
  obtain ⟨h5, he6, hE⟩ := ltE hE
  refine r_iast rfl ha2 hk3 hi4 he6 ?_
  refine r_aload_n (t := some a0) 0 rfl rfl rfl ?_
  obtain ⟨hk7, hE⟩ := ckE hE
  refine r_getR rfl (fl_11_39 rfl) (Or.inr ⟨_, rfl⟩) rfl hk7 ?_
  refine r_iload_n 1 rfl rfl rfl ?_
  refine r_iconst 0 rfl ci_0 ?_
  obtain ⟨a_8, ha9, hE⟩ := bnE hE
  obtain ⟨hk10, hE⟩ := ckE hE
  obtain ⟨hi11, hE⟩ := ckE hE
  obtain ⟨h12, he13, hE⟩ := ltE hE
  refine r_zast rfl ha9 hk10 hi11 rfl he13 ?_
  refine r_goto (tgt := 172) rfl (by decide) ?_
  first | exact r_sb (Mo_reads_b172_ok g N _ hD _ hself_11  _ _ _ _ _ _ hE) ⟨rfl, rfl, rfl, trivial⟩ | exact r_sb (Mo_reads_b172_ok g N _ hD _ hself_11  _ _ _ _ _ _ hE) (by simp only [su1, su2, dr1_rf, dr1_in, dr1_lo, dr2_rf, dr2_in, dr2_lo]; exact ⟨rfl, rfl, rfl, trivial⟩)
def Mo_reads_b99 (N : Nat) (self_11 : Nat → Int32 → Int32 → PH → Option (Bool × PH)) (s0 : Nat) (s1 : Int32) (a0 : Nat) (x1 : Int32) (x2 : Int32) (x4 : Int32) (h : PH) : Option (Bool × PH) :=
  ck ((hK h s0).1 = 11) <|
  bd (Mo_puts N s0 s1 h) fun v2 h3 =>
  ck ((hK h3 a0).1 = 11) <|
  if x4 = 0 then
    Mo_reads_b120 N self_11  (hR h3 a0 19) (x1 + 1) 2 a0 (x1 + 1) x2 h3
  else
    Mo_reads_b120 N self_11  (hR h3 a0 19) (x1 + 1) 1 a0 (x1 + 1) x2 h3
set_option maxRecDepth 20000 in
theorem Mo_reads_b99_ok (g : GT) (N : Nat) (D : Nat) (hD : 2 ≤ D) (self_11 : Nat → Int32 → Int32 → PH → Option (Bool × PH)) (hself_11 : ∀ (a0 : Nat) (x1 : Int32) (x2 : Int32) (h : PH) (v : Bool) (h' : PH), self_11 a0 x1 x2 h = some (v, h') → Run g pMo_reads D 11 [(0, va_rf (some a0)), (1, .int x1), (2, .int x2)] [] h (rZ v) h') : ∀ (s0 : Nat) (s1 : Int32) (a0 : Nat) (x1 : Int32) (x2 : Int32) (x4 : Int32) (h : PH) (v : Bool) (h' : PH), Mo_reads_b99 N self_11 s0 s1 a0 x1 x2 x4 h = some (v, h') → Run g pMo_reads D 99 [(0, va_rf (some a0)), (1, .int x1), (2, .int x2), (4, .int x4)] [.int s1, va_rf (some s0)] h (rZ v) h' := by
  obtain ⟨D2, rfl⟩ : ∃ d, D = d + 1 := ⟨D - 1, by omega⟩
  intro s0 s1 a0 x1 x2 x4 h v h' hE
  unfold Mo_reads_b99 at hE
  obtain ⟨hk1, hE⟩ := ckE hE
  obtain ⟨v2, h3, hq4, hE⟩ := bdE hE
  refine r_callV0 (rest := []) (hc := (Mo_puts_ok g N _ _ _ _ _ hq4 D2 (by omega))) rfl pm_Mo_puts lw_11_188 im_Mo_puts sl_Mo_puts rfl rfl rfl (rcOK hk1 rfl) (by decide) ?_
  refine r_iinc _ rfl rfl (congrArg _ ci_1) (by decide) ?_
  refine r_aload_n (t := some a0) 0 rfl rfl rfl ?_
  obtain ⟨hk5, hE⟩ := ckE hE
  refine r_getR rfl (fl_11_36 rfl) (Or.inr ⟨_, rfl⟩) rfl hk5 ?_
  refine r_iload_n 1 rfl rfl rfl ?_
  refine r_iload rfl rfl ?_
  refine r_if_eq (tgt := 119) rfl (by decide) (fun hc6 => ?_) (fun hc6 => ?_)
  · have hE := ifP hc6 hE
    refine r_iconst 2 rfl ci_2 ?_
    first | exact r_sb (Mo_reads_b120_ok g N _ hD _ hself_11  _ _ _ _ _ _ _ _ _ hE) ⟨rfl, rfl, rfl, trivial⟩ | exact r_sb (Mo_reads_b120_ok g N _ hD _ hself_11  _ _ _ _ _ _ _ _ _ hE) (by simp only [su1, su2, dr1_rf, dr1_in, dr1_lo, dr2_rf, dr2_in, dr2_lo]; exact ⟨rfl, rfl, rfl, trivial⟩)
  · have hE := ifN hc6 hE
    refine r_iconst 1 rfl ci_1 ?_
    refine r_goto (tgt := 120) rfl (by decide) ?_
    first | exact r_sb (Mo_reads_b120_ok g N _ hD _ hself_11  _ _ _ _ _ _ _ _ _ hE) ⟨rfl, rfl, rfl, trivial⟩ | exact r_sb (Mo_reads_b120_ok g N _ hD _ hself_11  _ _ _ _ _ _ _ _ _ hE) (by simp only [su1, su2, dr1_rf, dr1_in, dr1_lo, dr2_rf, dr2_in, dr2_lo]; exact ⟨rfl, rfl, rfl, trivial⟩)
def Mo_reads_b86 (N : Nat) (self_11 : Nat → Int32 → Int32 → PH → Option (Bool × PH)) (a0 : Nat) (x1 : Int32) (x2 : Int32) (x4 : Int32) (h : PH) : Option (Bool × PH) :=
  if x4 = 0 then
    Mo_reads_b99 N self_11  a0 28 a0 x1 x2 x4 h
  else
    Mo_reads_b99 N self_11  a0 30 a0 x1 x2 x4 h
set_option maxRecDepth 20000 in
theorem Mo_reads_b86_ok (g : GT) (N : Nat) (D : Nat) (hD : 2 ≤ D) (self_11 : Nat → Int32 → Int32 → PH → Option (Bool × PH)) (hself_11 : ∀ (a0 : Nat) (x1 : Int32) (x2 : Int32) (h : PH) (v : Bool) (h' : PH), self_11 a0 x1 x2 h = some (v, h') → Run g pMo_reads D 11 [(0, va_rf (some a0)), (1, .int x1), (2, .int x2)] [] h (rZ v) h') : ∀ (a0 : Nat) (x1 : Int32) (x2 : Int32) (x4 : Int32) (h : PH) (v : Bool) (h' : PH), Mo_reads_b86 N self_11 a0 x1 x2 x4 h = some (v, h') → Run g pMo_reads D 86 [(0, va_rf (some a0)), (1, .int x1), (2, .int x2), (4, .int x4)] [] h (rZ v) h' := by
  obtain ⟨D2, rfl⟩ : ∃ d, D = d + 1 := ⟨D - 1, by omega⟩
  intro a0 x1 x2 x4 h v h' hE
  unfold Mo_reads_b86 at hE
  refine r_aload_n (t := some a0) 0 rfl rfl rfl ?_
  refine r_iload rfl rfl ?_
  refine r_if_eq (tgt := 97) rfl (by decide) (fun hc1 => ?_) (fun hc1 => ?_)
  · have hE := ifP hc1 hE
    refine r_bipush 28 rfl cb_28 ?_
    first | exact r_sb (Mo_reads_b99_ok g N _ hD _ hself_11  _ _ _ _ _ _ _ _ _ hE) ⟨rfl, rfl, rfl, rfl, trivial⟩ | exact r_sb (Mo_reads_b99_ok g N _ hD _ hself_11  _ _ _ _ _ _ _ _ _ hE) (by simp only [su1, su2, dr1_rf, dr1_in, dr1_lo, dr2_rf, dr2_in, dr2_lo]; exact ⟨rfl, rfl, rfl, rfl, trivial⟩)
  · have hE := ifN hc1 hE
    refine r_bipush 30 rfl cb_30 ?_
    refine r_goto (tgt := 99) rfl (by decide) ?_
    first | exact r_sb (Mo_reads_b99_ok g N _ hD _ hself_11  _ _ _ _ _ _ _ _ _ hE) ⟨rfl, rfl, rfl, rfl, trivial⟩ | exact r_sb (Mo_reads_b99_ok g N _ hD _ hself_11  _ _ _ _ _ _ _ _ _ hE) (by simp only [su1, su2, dr1_rf, dr1_in, dr1_lo, dr2_rf, dr2_in, dr2_lo]; exact ⟨rfl, rfl, rfl, rfl, trivial⟩)
def Mo_reads_b152 (N : Nat) (self_11 : Nat → Int32 → Int32 → PH → Option (Bool × PH)) : Nat → Nat → Int32 → Int32 → PH → Option (Bool × PH)
  | 0 => fun _ _ _ _ => none
  | n + 1 => fun a0 x1 x2 h =>
    if x1 ≤ 0 then
      Mo_reads_b172 N self_11  a0 x1 x2 h
    else
      ck ((hK h a0).1 = 11) <|
      ((hR h a0 19)).bind fun a_3 =>
      ck ((hK h a_3).1 = 20) <|
      ck (inb x1 (hK h a_3).2 = true) <|
      if (hI h a_3 (ix x1)) = 1 then
        (Mo_reads_b152 N self_11 n) a0 (x1 + (-1)) x2 h
      else
        Mo_reads_b172 N self_11  a0 x1 x2 h
set_option maxRecDepth 20000 in
theorem Mo_reads_b152_ok (g : GT) (N : Nat) (D : Nat) (hD : 2 ≤ D) (self_11 : Nat → Int32 → Int32 → PH → Option (Bool × PH)) (hself_11 : ∀ (a0 : Nat) (x1 : Int32) (x2 : Int32) (h : PH) (v : Bool) (h' : PH), self_11 a0 x1 x2 h = some (v, h') → Run g pMo_reads D 11 [(0, va_rf (some a0)), (1, .int x1), (2, .int x2)] [] h (rZ v) h') : ∀ (n : Nat) (a0 : Nat) (x1 : Int32) (x2 : Int32) (h : PH) (v : Bool) (h' : PH), Mo_reads_b152 N self_11 n a0 x1 x2 h = some (v, h') → Run g pMo_reads D 152 [(0, va_rf (some a0)), (1, .int x1), (2, .int x2)] [] h (rZ v) h' := by
  obtain ⟨D2, rfl⟩ : ∃ d, D = d + 1 := ⟨D - 1, by omega⟩
  intro n
  induction n with
  | zero => exact fun _ _ _ _ _ _ hE => nomatch (show none = some _ from hE)
  | succ n ih =>
    intro a0 x1 x2 h v h' hE
    unfold Mo_reads_b152 at hE
    refine r_iload_n 1 rfl rfl rfl ?_
    refine r_if_le (tgt := 172) rfl (by decide) (fun hc1 => ?_) (fun hc1 => ?_)
    · have hE := ifP hc1 hE
      first | exact r_sb (Mo_reads_b172_ok g N _ hD _ hself_11  _ _ _ _ _ _ hE) ⟨rfl, rfl, rfl, trivial⟩ | exact r_sb (Mo_reads_b172_ok g N _ hD _ hself_11  _ _ _ _ _ _ hE) (by simp only [su1, su2, dr1_rf, dr1_in, dr1_lo, dr2_rf, dr2_in, dr2_lo]; exact ⟨rfl, rfl, rfl, trivial⟩)
    · have hE := ifN hc1 hE
      refine r_aload_n (t := some a0) 0 rfl rfl rfl ?_
      obtain ⟨hk2, hE⟩ := ckE hE
      refine r_getR rfl (fl_11_36 rfl) (Or.inr ⟨_, rfl⟩) rfl hk2 ?_
      refine r_iload_n 1 rfl rfl rfl ?_
      obtain ⟨a_3, ha4, hE⟩ := bnE hE
      obtain ⟨hk5, hE⟩ := ckE hE
      obtain ⟨hi6, hE⟩ := ckE hE
      refine r_iald rfl ha4 hk5 hi6 ?_
      refine r_iconst 1 rfl ci_1 ?_
      refine r_icmp_ne (tgt := 172) rfl (by decide) (fun hc7 => ?_) (fun hc7 => ?_)
      · have hE := ifP hc7 hE
        refine r_iinc _ rfl rfl (congrArg _ ci_m1) (by decide) ?_
        refine r_goto (tgt := 152) rfl (by decide) ?_
        first | exact r_sb (ih _ _ _ _ _ _ hE) ⟨rfl, rfl, rfl, trivial⟩ | exact r_sb (ih _ _ _ _ _ _ hE) (by simp only [su1, su2, dr1_rf, dr1_in, dr1_lo, dr2_rf, dr2_in, dr2_lo]; exact ⟨rfl, rfl, rfl, trivial⟩)
      · have hE := ifN hc7 hE
        first | exact r_sb (Mo_reads_b172_ok g N _ hD _ hself_11  _ _ _ _ _ _ hE) ⟨rfl, rfl, rfl, trivial⟩ | exact r_sb (Mo_reads_b172_ok g N _ hD _ hself_11  _ _ _ _ _ _ hE) (by simp only [su1, su2, dr1_rf, dr1_in, dr1_lo, dr2_rf, dr2_in, dr2_lo]; exact ⟨rfl, rfl, rfl, trivial⟩)
def Mo_reads_b147 (N : Nat) (self_11 : Nat → Int32 → Int32 → PH → Option (Bool × PH)) (s0 : Nat) (s1 : Int32) (a0 : Nat) (x1 : Int32) (h : PH) : Option (Bool × PH) :=
  ck ((hK h s0).1 = 11) <|
  bd (Mo_puts N s0 s1 h) fun v2 h3 =>
  Mo_reads_b152 N self_11 N a0 x1 0 h3
set_option maxRecDepth 20000 in
theorem Mo_reads_b147_ok (g : GT) (N : Nat) (D : Nat) (hD : 2 ≤ D) (self_11 : Nat → Int32 → Int32 → PH → Option (Bool × PH)) (hself_11 : ∀ (a0 : Nat) (x1 : Int32) (x2 : Int32) (h : PH) (v : Bool) (h' : PH), self_11 a0 x1 x2 h = some (v, h') → Run g pMo_reads D 11 [(0, va_rf (some a0)), (1, .int x1), (2, .int x2)] [] h (rZ v) h') : ∀ (s0 : Nat) (s1 : Int32) (a0 : Nat) (x1 : Int32) (h : PH) (v : Bool) (h' : PH), Mo_reads_b147 N self_11 s0 s1 a0 x1 h = some (v, h') → Run g pMo_reads D 147 [(0, va_rf (some a0)), (1, .int x1)] [.int s1, va_rf (some s0)] h (rZ v) h' := by
  obtain ⟨D2, rfl⟩ : ∃ d, D = d + 1 := ⟨D - 1, by omega⟩
  intro s0 s1 a0 x1 h v h' hE
  unfold Mo_reads_b147 at hE
  obtain ⟨hk1, hE⟩ := ckE hE
  obtain ⟨v2, h3, hq4, hE⟩ := bdE hE
  refine r_callV0 (rest := []) (hc := (Mo_puts_ok g N _ _ _ _ _ hq4 D2 (by omega))) rfl pm_Mo_puts lw_11_188 im_Mo_puts sl_Mo_puts rfl rfl rfl (rcOK hk1 rfl) (by decide) ?_
  refine r_iconst 0 rfl ci_0 ?_
  refine r_istore_n 2 rfl rfl (by decide) ?_
  first | exact r_sb (Mo_reads_b152_ok g N _ hD _ hself_11 N _ _ _ _ _ _ hE) ⟨rfl, rfl, rfl, trivial⟩ | exact r_sb (Mo_reads_b152_ok g N _ hD _ hself_11 N _ _ _ _ _ _ hE) (by simp only [su1, su2, dr1_rf, dr1_in, dr1_lo, dr2_rf, dr2_in, dr2_lo]; exact ⟨rfl, rfl, rfl, trivial⟩)
def Mo_reads_b65 (N : Nat) (self_11 : Nat → Int32 → Int32 → PH → Option (Bool × PH)) (a0 : Nat) (x1 : Int32) (x2 : Int32) (x3 : Int32) (x4 : Int32) (x5 : Int32) (h : PH) : Option (Bool × PH) :=
  if x1 = 5 then
    ck ((hK h a0).1 = 11) <|
    bd (Mo_fails N a0 5 h) fun v3 h4 =>
    some (v3, h4)
  else
    if x4 = 0 then
      if x5 = 0 then
        if x3 ≤ 0 then
          ck ((hK h a0).1 = 11) <|
          Mo_reads_b147 N self_11  a0 (100 + (hI h a0 8)) a0 x1 h
        else
          Mo_reads_b147 N self_11  a0 x3 a0 x1 h
      else
        Mo_reads_b86 N self_11  a0 x1 x2 x4 h
    else
      Mo_reads_b86 N self_11  a0 x1 x2 x4 h
set_option maxRecDepth 20000 in
theorem Mo_reads_b65_ok (g : GT) (N : Nat) (D : Nat) (hD : 2 ≤ D) (self_11 : Nat → Int32 → Int32 → PH → Option (Bool × PH)) (hself_11 : ∀ (a0 : Nat) (x1 : Int32) (x2 : Int32) (h : PH) (v : Bool) (h' : PH), self_11 a0 x1 x2 h = some (v, h') → Run g pMo_reads D 11 [(0, va_rf (some a0)), (1, .int x1), (2, .int x2)] [] h (rZ v) h') : ∀ (a0 : Nat) (x1 : Int32) (x2 : Int32) (x3 : Int32) (x4 : Int32) (x5 : Int32) (h : PH) (v : Bool) (h' : PH), Mo_reads_b65 N self_11 a0 x1 x2 x3 x4 x5 h = some (v, h') → Run g pMo_reads D 65 [(0, va_rf (some a0)), (1, .int x1), (2, .int x2), (3, .int x3), (4, .int x4), (5, .int x5)] [] h (rZ v) h' := by
  obtain ⟨D2, rfl⟩ : ∃ d, D = d + 1 := ⟨D - 1, by omega⟩
  intro a0 x1 x2 x3 x4 x5 h v h' hE
  unfold Mo_reads_b65 at hE
  refine r_iload_n 1 rfl rfl rfl ?_
  refine r_iconst 5 rfl ci_5 ?_
  refine r_icmp_ne (tgt := 76) rfl (by decide) (fun hc1 => ?_) (fun hc1 => ?_)
  · have hE := ifP hc1 hE
    refine r_aload_n (t := some a0) 0 rfl rfl rfl ?_
    refine r_iconst 5 rfl ci_5 ?_
    obtain ⟨hk2, hE⟩ := ckE hE
    obtain ⟨v3, h4, hq5, hE⟩ := bdE hE
    refine r_callV1 (rest := []) (hc := (Mo_fails_ok g N _ _ _ _ _ hq5 D2 (by omega))) rfl pm_Mo_fails lw_11_185 im_Mo_fails sl_Mo_fails rfl rfl rfl (rcOK hk2 rfl) (by decide) ?_
    cases hE
    exact r_ret rfl (Or.inl ⟨rfl, _, _, rfl, by first | rfl | rw [rZ, oZ, bI_tb (isB_bI _)], rfl, nar_B (isB_bI _)⟩)
  · have hE := ifN hc1 hE
    refine r_iload rfl rfl ?_
    refine r_if_ne (tgt := 86) rfl (by decide) (fun hc6 => ?_) (fun hc6 => ?_)
    · have hE := ifP hc6 hE
      refine r_iload rfl rfl ?_
      refine r_if_eq (tgt := 131) rfl (by decide) (fun hc7 => ?_) (fun hc7 => ?_)
      · have hE := ifP hc7 hE
        refine r_aload_n (t := some a0) 0 rfl rfl rfl ?_
        refine r_iload_n 3 rfl rfl rfl ?_
        refine r_if_le (tgt := 140) rfl (by decide) (fun hc8 => ?_) (fun hc8 => ?_)
        · have hE := ifP hc8 hE
          refine r_bipush 100 rfl cb_100 ?_
          refine r_aload_n (t := some a0) 0 rfl rfl rfl ?_
          obtain ⟨hk9, hE⟩ := ckE hE
          refine r_getI rfl (fl_11_141 rfl) (Or.inl rfl) rfl hk9 ?_
          refine r_iadd rfl ?_
          first | exact r_sb (Mo_reads_b147_ok g N _ hD _ hself_11  _ _ _ _ _ _ _ hE) ⟨rfl, rfl, trivial⟩ | exact r_sb (Mo_reads_b147_ok g N _ hD _ hself_11  _ _ _ _ _ _ _ hE) (by simp only [su1, su2, dr1_rf, dr1_in, dr1_lo, dr2_rf, dr2_in, dr2_lo]; exact ⟨rfl, rfl, trivial⟩)
        · have hE := ifN hc8 hE
          refine r_iload_n 3 rfl rfl rfl ?_
          refine r_goto (tgt := 147) rfl (by decide) ?_
          first | exact r_sb (Mo_reads_b147_ok g N _ hD _ hself_11  _ _ _ _ _ _ _ hE) ⟨rfl, rfl, trivial⟩ | exact r_sb (Mo_reads_b147_ok g N _ hD _ hself_11  _ _ _ _ _ _ _ hE) (by simp only [su1, su2, dr1_rf, dr1_in, dr1_lo, dr2_rf, dr2_in, dr2_lo]; exact ⟨rfl, rfl, trivial⟩)
      · have hE := ifN hc7 hE
        first | exact r_sb (Mo_reads_b86_ok g N _ hD _ hself_11  _ _ _ _ _ _ _ hE) ⟨rfl, rfl, rfl, rfl, trivial⟩ | exact r_sb (Mo_reads_b86_ok g N _ hD _ hself_11  _ _ _ _ _ _ _ hE) (by simp only [su1, su2, dr1_rf, dr1_in, dr1_lo, dr2_rf, dr2_in, dr2_lo]; exact ⟨rfl, rfl, rfl, rfl, trivial⟩)
    · have hE := ifN hc6 hE
      first | exact r_sb (Mo_reads_b86_ok g N _ hD _ hself_11  _ _ _ _ _ _ _ hE) ⟨rfl, rfl, rfl, rfl, trivial⟩ | exact r_sb (Mo_reads_b86_ok g N _ hD _ hself_11  _ _ _ _ _ _ _ hE) (by simp only [su1, su2, dr1_rf, dr1_in, dr1_lo, dr2_rf, dr2_in, dr2_lo]; exact ⟨rfl, rfl, rfl, rfl, trivial⟩)
def Mo_reads_b424 (N : Nat) (self_11 : Nat → Int32 → Int32 → PH → Option (Bool × PH)) (a0 : Nat) (x1 : Int32) (x2 : Int32) (h : PH) : Option (Bool × PH) :=
  ck ((hK h a0).1 = 11) <|
  bd (Mo_nextToken N a0 h) fun v2 h3 =>
  self_11 a0 x1 x2 h3
set_option maxRecDepth 20000 in
theorem Mo_reads_b424_ok (g : GT) (N : Nat) (D : Nat) (hD : 2 ≤ D) (self_11 : Nat → Int32 → Int32 → PH → Option (Bool × PH)) (hself_11 : ∀ (a0 : Nat) (x1 : Int32) (x2 : Int32) (h : PH) (v : Bool) (h' : PH), self_11 a0 x1 x2 h = some (v, h') → Run g pMo_reads D 11 [(0, va_rf (some a0)), (1, .int x1), (2, .int x2)] [] h (rZ v) h') : ∀ (a0 : Nat) (x1 : Int32) (x2 : Int32) (h : PH) (v : Bool) (h' : PH), Mo_reads_b424 N self_11 a0 x1 x2 h = some (v, h') → Run g pMo_reads D 424 [(0, va_rf (some a0)), (1, .int x1), (2, .int x2)] [] h (rZ v) h' := by
  obtain ⟨D2, rfl⟩ : ∃ d, D = d + 1 := ⟨D - 1, by omega⟩
  intro a0 x1 x2 h v h' hE
  unfold Mo_reads_b424 at hE
  refine r_aload_n (t := some a0) 0 rfl rfl rfl ?_
  obtain ⟨hk1, hE⟩ := ckE hE
  obtain ⟨v2, h3, hq4, hE⟩ := bdE hE
  refine r_callV0 (rest := []) (hc := (Mo_nextToken_ok g N _ _ _ _ hq4 D2 (by omega))) rfl pm_Mo_nextToken lw_11_191 im_Mo_nextToken sl_Mo_nextToken rfl rfl rfl (rcOK hk1 rfl) (by decide) ?_
  refine r_goto (tgt := 11) rfl (by decide) ?_
  first | exact r_sb (hself_11 _ _ _ _ _ _ hE) ⟨rfl, rfl, rfl, trivial⟩ | exact r_sb (hself_11 _ _ _ _ _ _ hE) (by simp only [su1, su2, dr1_rf, dr1_in, dr1_lo, dr2_rf, dr2_in, dr2_lo]; exact ⟨rfl, rfl, rfl, trivial⟩)
def Mo_reads_b237 (N : Nat) (self_11 : Nat → Int32 → Int32 → PH → Option (Bool × PH)) (s0 : Nat) (s1 : Int32) (a0 : Nat) (x1 : Int32) (h : PH) : Option (Bool × PH) :=
  ck ((hK h s0).1 = 11) <|
  bd (Mo_puts N s0 s1 h) fun v2 h3 =>
  Mo_reads_b424 N self_11  a0 x1 1 h3
set_option maxRecDepth 20000 in
theorem Mo_reads_b237_ok (g : GT) (N : Nat) (D : Nat) (hD : 2 ≤ D) (self_11 : Nat → Int32 → Int32 → PH → Option (Bool × PH)) (hself_11 : ∀ (a0 : Nat) (x1 : Int32) (x2 : Int32) (h : PH) (v : Bool) (h' : PH), self_11 a0 x1 x2 h = some (v, h') → Run g pMo_reads D 11 [(0, va_rf (some a0)), (1, .int x1), (2, .int x2)] [] h (rZ v) h') : ∀ (s0 : Nat) (s1 : Int32) (a0 : Nat) (x1 : Int32) (h : PH) (v : Bool) (h' : PH), Mo_reads_b237 N self_11 s0 s1 a0 x1 h = some (v, h') → Run g pMo_reads D 237 [(0, va_rf (some a0)), (1, .int x1)] [.int s1, va_rf (some s0)] h (rZ v) h' := by
  obtain ⟨D2, rfl⟩ : ∃ d, D = d + 1 := ⟨D - 1, by omega⟩
  intro s0 s1 a0 x1 h v h' hE
  unfold Mo_reads_b237 at hE
  obtain ⟨hk1, hE⟩ := ckE hE
  obtain ⟨v2, h3, hq4, hE⟩ := bdE hE
  refine r_callV0 (rest := []) (hc := (Mo_puts_ok g N _ _ _ _ _ hq4 D2 (by omega))) rfl pm_Mo_puts lw_11_188 im_Mo_puts sl_Mo_puts rfl rfl rfl (rcOK hk1 rfl) (by decide) ?_
  refine r_iconst 1 rfl ci_1 ?_
  refine r_istore_n 2 rfl rfl (by decide) ?_
  refine r_goto (tgt := 424) rfl (by decide) ?_
  first | exact r_sb (Mo_reads_b424_ok g N _ hD _ hself_11  _ _ _ _ _ _ hE) ⟨rfl, rfl, rfl, trivial⟩ | exact r_sb (Mo_reads_b424_ok g N _ hD _ hself_11  _ _ _ _ _ _ hE) (by simp only [su1, su2, dr1_rf, dr1_in, dr1_lo, dr2_rf, dr2_in, dr2_lo]; exact ⟨rfl, rfl, rfl, trivial⟩)
def Mo_reads_b206 (N : Nat) (self_11 : Nat → Int32 → Int32 → PH → Option (Bool × PH)) (a0 : Nat) (x1 : Int32) (h : PH) : Option (Bool × PH) :=
  ck ((hK h a0).1 = 11) <|
  bd (Mo_isSign N a0 43 h) fun v2 h3 =>
  if (bI v2) = 0 then
    ck ((hK h3 a0).1 = 11) <|
    bd (Mo_isSign N a0 45 h3) fun v7 h8 =>
    if (bI v7) = 0 then
      Mo_reads_b237 N self_11  a0 22 a0 x1 h8
    else
      Mo_reads_b237 N self_11  a0 21 a0 x1 h8
  else
    Mo_reads_b237 N self_11  a0 20 a0 x1 h3
set_option maxRecDepth 20000 in
theorem Mo_reads_b206_ok (g : GT) (N : Nat) (D : Nat) (hD : 2 ≤ D) (self_11 : Nat → Int32 → Int32 → PH → Option (Bool × PH)) (hself_11 : ∀ (a0 : Nat) (x1 : Int32) (x2 : Int32) (h : PH) (v : Bool) (h' : PH), self_11 a0 x1 x2 h = some (v, h') → Run g pMo_reads D 11 [(0, va_rf (some a0)), (1, .int x1), (2, .int x2)] [] h (rZ v) h') : ∀ (a0 : Nat) (x1 : Int32) (h : PH) (v : Bool) (h' : PH), Mo_reads_b206 N self_11 a0 x1 h = some (v, h') → Run g pMo_reads D 206 [(0, va_rf (some a0)), (1, .int x1)] [] h (rZ v) h' := by
  obtain ⟨D2, rfl⟩ : ∃ d, D = d + 1 := ⟨D - 1, by omega⟩
  intro a0 x1 h v h' hE
  unfold Mo_reads_b206 at hE
  refine r_aload_n (t := some a0) 0 rfl rfl rfl ?_
  refine r_aload_n (t := some a0) 0 rfl rfl rfl ?_
  refine r_bipush 43 rfl cb_43 ?_
  obtain ⟨hk1, hE⟩ := ckE hE
  obtain ⟨v2, h3, hq4, hE⟩ := bdE hE
  refine r_callV1 (rest := [va_rf (some a0)]) (hc := (Mo_isSign_ok g N _ _ _ _ _ hq4 D2 (by omega))) rfl pm_Mo_isSign lw_11_181 im_Mo_isSign sl_Mo_isSign rfl rfl rfl (rcOK hk1 rfl) (by simp only [List.map_cons, List.map_nil, rf_cat, cat_i, cat_l, List.sum_cons, List.sum_nil]; decide) ?_
  refine r_if_eq (tgt := 221) rfl (by decide) (fun hc5 => ?_) (fun hc5 => ?_)
  · have hE := ifP hc5 hE
    refine r_aload_n (t := some a0) 0 rfl rfl rfl ?_
    refine r_bipush 45 rfl cb_45 ?_
    obtain ⟨hk6, hE⟩ := ckE hE
    obtain ⟨v7, h8, hq9, hE⟩ := bdE hE
    refine r_callV1 (rest := [va_rf (some a0)]) (hc := (Mo_isSign_ok g N _ _ _ _ _ hq9 D2 (by omega))) rfl pm_Mo_isSign lw_11_181 im_Mo_isSign sl_Mo_isSign rfl rfl rfl (rcOK hk6 rfl) (by simp only [List.map_cons, List.map_nil, rf_cat, cat_i, cat_l, List.sum_cons, List.sum_nil]; decide) ?_
    refine r_if_eq (tgt := 235) rfl (by decide) (fun hc10 => ?_) (fun hc10 => ?_)
    · have hE := ifP hc10 hE
      refine r_bipush 22 rfl cb_22 ?_
      first | exact r_sb (Mo_reads_b237_ok g N _ hD _ hself_11  _ _ _ _ _ _ _ hE) ⟨rfl, rfl, trivial⟩ | exact r_sb (Mo_reads_b237_ok g N _ hD _ hself_11  _ _ _ _ _ _ _ hE) (by simp only [su1, su2, dr1_rf, dr1_in, dr1_lo, dr2_rf, dr2_in, dr2_lo]; exact ⟨rfl, rfl, trivial⟩)
    · have hE := ifN hc10 hE
      refine r_bipush 21 rfl cb_21 ?_
      refine r_goto (tgt := 237) rfl (by decide) ?_
      first | exact r_sb (Mo_reads_b237_ok g N _ hD _ hself_11  _ _ _ _ _ _ _ hE) ⟨rfl, rfl, trivial⟩ | exact r_sb (Mo_reads_b237_ok g N _ hD _ hself_11  _ _ _ _ _ _ _ hE) (by simp only [su1, su2, dr1_rf, dr1_in, dr1_lo, dr2_rf, dr2_in, dr2_lo]; exact ⟨rfl, rfl, trivial⟩)
  · have hE := ifN hc5 hE
    refine r_bipush 20 rfl cb_20 ?_
    refine r_goto (tgt := 237) rfl (by decide) ?_
    first | exact r_sb (Mo_reads_b237_ok g N _ hD _ hself_11  _ _ _ _ _ _ _ hE) ⟨rfl, rfl, trivial⟩ | exact r_sb (Mo_reads_b237_ok g N _ hD _ hself_11  _ _ _ _ _ _ _ hE) (by simp only [su1, su2, dr1_rf, dr1_in, dr1_lo, dr2_rf, dr2_in, dr2_lo]; exact ⟨rfl, rfl, trivial⟩)
def Mo_reads_b289 (N : Nat) (self_11 : Nat → Int32 → Int32 → PH → Option (Bool × PH)) (s0 : Nat) (s1 : Int32) (a0 : Nat) (x1 : Int32) (h : PH) : Option (Bool × PH) :=
  ck ((hK h s0).1 = 11) <|
  bd (Mo_puts N s0 s1 h) fun v2 h3 =>
  ck ((hK h3 a0).1 = 11) <|
  ((hR h3 a0 20)).bind fun a_6 =>
  ck ((hK h3 a_6).1 = 21) <|
  ck (inb x1 (hK h3 a_6).2 = true) <|
  lt0 (wZ h3 a_6 (ix x1) (tb 1)) fun h10 =>
  Mo_reads_b424 N self_11  a0 x1 1 h10
set_option maxRecDepth 20000 in
theorem Mo_reads_b289_ok (g : GT) (N : Nat) (D : Nat) (hD : 2 ≤ D) (self_11 : Nat → Int32 → Int32 → PH → Option (Bool × PH)) (hself_11 : ∀ (a0 : Nat) (x1 : Int32) (x2 : Int32) (h : PH) (v : Bool) (h' : PH), self_11 a0 x1 x2 h = some (v, h') → Run g pMo_reads D 11 [(0, va_rf (some a0)), (1, .int x1), (2, .int x2)] [] h (rZ v) h') : ∀ (s0 : Nat) (s1 : Int32) (a0 : Nat) (x1 : Int32) (h : PH) (v : Bool) (h' : PH), Mo_reads_b289 N self_11 s0 s1 a0 x1 h = some (v, h') → Run g pMo_reads D 289 [(0, va_rf (some a0)), (1, .int x1)] [.int s1, va_rf (some s0)] h (rZ v) h' := by
  obtain ⟨D2, rfl⟩ : ∃ d, D = d + 1 := ⟨D - 1, by omega⟩
  intro s0 s1 a0 x1 h v h' hE
  unfold Mo_reads_b289 at hE
  obtain ⟨hk1, hE⟩ := ckE hE
  obtain ⟨v2, h3, hq4, hE⟩ := bdE hE
  refine r_callV0 (rest := []) (hc := (Mo_puts_ok g N _ _ _ _ _ hq4 D2 (by omega))) rfl pm_Mo_puts lw_11_188 im_Mo_puts sl_Mo_puts rfl rfl rfl (rcOK hk1 rfl) (by decide) ?_
  refine r_aload_n (t := some a0) 0 rfl rfl rfl ?_
  obtain ⟨hk5, hE⟩ := ckE hE
  refine r_getR rfl (fl_11_39 rfl) (Or.inr ⟨_, rfl⟩) rfl hk5 ?_
  refine r_iload_n 1 rfl rfl rfl ?_
  refine r_iconst 1 rfl ci_1 ?_
  obtain ⟨a_6, ha7, hE⟩ := bnE hE
  obtain ⟨hk8, hE⟩ := ckE hE
  obtain ⟨hi9, hE⟩ := ckE hE
  obtain ⟨h10, he11, hE⟩ := ltE hE
  refine r_zast rfl ha7 hk8 hi9 rfl he11 ?_
  refine r_iconst 1 rfl ci_1 ?_
  refine r_istore_n 2 rfl rfl (by decide) ?_
  refine r_goto (tgt := 424) rfl (by decide) ?_
  first | exact r_sb (Mo_reads_b424_ok g N _ hD _ hself_11  _ _ _ _ _ _ hE) ⟨rfl, rfl, rfl, trivial⟩ | exact r_sb (Mo_reads_b424_ok g N _ hD _ hself_11  _ _ _ _ _ _ hE) (by simp only [su1, su2, dr1_rf, dr1_in, dr1_lo, dr2_rf, dr2_in, dr2_lo]; exact ⟨rfl, rfl, rfl, trivial⟩)
def Mo_reads_b342 (N : Nat) (self_11 : Nat → Int32 → Int32 → PH → Option (Bool × PH)) (s0 : Nat) (s1 : Int32) (a0 : Nat) (x1 : Int32) (h : PH) : Option (Bool × PH) :=
  ck ((hK h s0).1 = 11) <|
  bd (Mo_puts N s0 s1 h) fun v2 h3 =>
  ck ((hK h3 a0).1 = 11) <|
  ((hR h3 a0 20)).bind fun a_6 =>
  ck ((hK h3 a_6).1 = 21) <|
  ck (inb x1 (hK h3 a_6).2 = true) <|
  lt0 (wZ h3 a_6 (ix x1) (tb 0)) fun h10 =>
  Mo_reads_b424 N self_11  a0 x1 1 h10
set_option maxRecDepth 20000 in
theorem Mo_reads_b342_ok (g : GT) (N : Nat) (D : Nat) (hD : 2 ≤ D) (self_11 : Nat → Int32 → Int32 → PH → Option (Bool × PH)) (hself_11 : ∀ (a0 : Nat) (x1 : Int32) (x2 : Int32) (h : PH) (v : Bool) (h' : PH), self_11 a0 x1 x2 h = some (v, h') → Run g pMo_reads D 11 [(0, va_rf (some a0)), (1, .int x1), (2, .int x2)] [] h (rZ v) h') : ∀ (s0 : Nat) (s1 : Int32) (a0 : Nat) (x1 : Int32) (h : PH) (v : Bool) (h' : PH), Mo_reads_b342 N self_11 s0 s1 a0 x1 h = some (v, h') → Run g pMo_reads D 342 [(0, va_rf (some a0)), (1, .int x1)] [.int s1, va_rf (some s0)] h (rZ v) h' := by
  obtain ⟨D2, rfl⟩ : ∃ d, D = d + 1 := ⟨D - 1, by omega⟩
  intro s0 s1 a0 x1 h v h' hE
  unfold Mo_reads_b342 at hE
  obtain ⟨hk1, hE⟩ := ckE hE
  obtain ⟨v2, h3, hq4, hE⟩ := bdE hE
  refine r_callV0 (rest := []) (hc := (Mo_puts_ok g N _ _ _ _ _ hq4 D2 (by omega))) rfl pm_Mo_puts lw_11_188 im_Mo_puts sl_Mo_puts rfl rfl rfl (rcOK hk1 rfl) (by decide) ?_
  refine r_aload_n (t := some a0) 0 rfl rfl rfl ?_
  obtain ⟨hk5, hE⟩ := ckE hE
  refine r_getR rfl (fl_11_39 rfl) (Or.inr ⟨_, rfl⟩) rfl hk5 ?_
  refine r_iload_n 1 rfl rfl rfl ?_
  refine r_iconst 0 rfl ci_0 ?_
  obtain ⟨a_6, ha7, hE⟩ := bnE hE
  obtain ⟨hk8, hE⟩ := ckE hE
  obtain ⟨hi9, hE⟩ := ckE hE
  obtain ⟨h10, he11, hE⟩ := ltE hE
  refine r_zast rfl ha7 hk8 hi9 rfl he11 ?_
  refine r_iconst 1 rfl ci_1 ?_
  refine r_istore_n 2 rfl rfl (by decide) ?_
  refine r_goto (tgt := 424) rfl (by decide) ?_
  first | exact r_sb (Mo_reads_b424_ok g N _ hD _ hself_11  _ _ _ _ _ _ hE) ⟨rfl, rfl, rfl, trivial⟩ | exact r_sb (Mo_reads_b424_ok g N _ hD _ hself_11  _ _ _ _ _ _ hE) (by simp only [su1, su2, dr1_rf, dr1_in, dr1_lo, dr2_rf, dr2_in, dr2_lo]; exact ⟨rfl, rfl, rfl, trivial⟩)
def Mo_reads_b324 (N : Nat) (self_11 : Nat → Int32 → Int32 → PH → Option (Bool × PH)) (a0 : Nat) (x1 : Int32) (h : PH) : Option (Bool × PH) :=
  ck ((hK h a0).1 = 11) <|
  bd (Mo_isWord N a0 1111 h) fun v2 h3 =>
  if (bI v2) = 0 then
    Mo_reads_b342 N self_11  a0 27 a0 x1 h3
  else
    Mo_reads_b342 N self_11  a0 26 a0 x1 h3
set_option maxRecDepth 20000 in
theorem Mo_reads_b324_ok (g : GT) (N : Nat) (D : Nat) (hD : 2 ≤ D) (self_11 : Nat → Int32 → Int32 → PH → Option (Bool × PH)) (hself_11 : ∀ (a0 : Nat) (x1 : Int32) (x2 : Int32) (h : PH) (v : Bool) (h' : PH), self_11 a0 x1 x2 h = some (v, h') → Run g pMo_reads D 11 [(0, va_rf (some a0)), (1, .int x1), (2, .int x2)] [] h (rZ v) h') : ∀ (a0 : Nat) (x1 : Int32) (h : PH) (v : Bool) (h' : PH), Mo_reads_b324 N self_11 a0 x1 h = some (v, h') → Run g pMo_reads D 324 [(0, va_rf (some a0)), (1, .int x1)] [] h (rZ v) h' := by
  obtain ⟨D2, rfl⟩ : ∃ d, D = d + 1 := ⟨D - 1, by omega⟩
  intro a0 x1 h v h' hE
  unfold Mo_reads_b324 at hE
  refine r_aload_n (t := some a0) 0 rfl rfl rfl ?_
  refine r_aload_n (t := some a0) 0 rfl rfl rfl ?_
  refine r_ldc2 rfl kc_11_194 ?_
  obtain ⟨hk1, hE⟩ := ckE hE
  obtain ⟨v2, h3, hq4, hE⟩ := bdE hE
  refine r_callV1 (rest := [va_rf (some a0)]) (hc := (Mo_isWord_ok g N _ _ _ _ _ hq4 D2 (by omega))) rfl pm_Mo_isWord lw_11_177 im_Mo_isWord sl_Mo_isWord rfl rfl rfl (rcOK hk1 rfl) (by simp only [List.map_cons, List.map_nil, rf_cat, cat_i, cat_l, List.sum_cons, List.sum_nil]; decide) ?_
  refine r_if_eq (tgt := 340) rfl (by decide) (fun hc5 => ?_) (fun hc5 => ?_)
  · have hE := ifP hc5 hE
    refine r_bipush 27 rfl cb_27 ?_
    first | exact r_sb (Mo_reads_b342_ok g N _ hD _ hself_11  _ _ _ _ _ _ _ hE) ⟨rfl, rfl, trivial⟩ | exact r_sb (Mo_reads_b342_ok g N _ hD _ hself_11  _ _ _ _ _ _ _ hE) (by simp only [su1, su2, dr1_rf, dr1_in, dr1_lo, dr2_rf, dr2_in, dr2_lo]; exact ⟨rfl, rfl, trivial⟩)
  · have hE := ifN hc5 hE
    refine r_bipush 26 rfl cb_26 ?_
    refine r_goto (tgt := 342) rfl (by decide) ?_
    first | exact r_sb (Mo_reads_b342_ok g N _ hD _ hself_11  _ _ _ _ _ _ _ hE) ⟨rfl, rfl, trivial⟩ | exact r_sb (Mo_reads_b342_ok g N _ hD _ hself_11  _ _ _ _ _ _ _ hE) (by simp only [su1, su2, dr1_rf, dr1_in, dr1_lo, dr2_rf, dr2_in, dr2_lo]; exact ⟨rfl, rfl, trivial⟩)
def Mo_reads_b379 (N : Nat) (self_11 : Nat → Int32 → Int32 → PH → Option (Bool × PH)) : Nat → Nat → Int32 → Int32 → PH → Option (Bool × PH)
  | 0 => fun _ _ _ _ => none
  | n + 1 => fun a0 x1 x2 h =>
    if x1 ≤ 0 then
      Mo_reads_b424 N self_11  a0 x1 x2 h
    else
      ck ((hK h a0).1 = 11) <|
      ((hR h a0 19)).bind fun a_3 =>
      ck ((hK h a_3).1 = 20) <|
      ck (inb x1 (hK h a_3).2 = true) <|
      if (hI h a_3 (ix x1)) = 1 then
        (Mo_reads_b379 N self_11 n) a0 (x1 + (-1)) x2 h
      else
        Mo_reads_b424 N self_11  a0 x1 x2 h
set_option maxRecDepth 20000 in
theorem Mo_reads_b379_ok (g : GT) (N : Nat) (D : Nat) (hD : 2 ≤ D) (self_11 : Nat → Int32 → Int32 → PH → Option (Bool × PH)) (hself_11 : ∀ (a0 : Nat) (x1 : Int32) (x2 : Int32) (h : PH) (v : Bool) (h' : PH), self_11 a0 x1 x2 h = some (v, h') → Run g pMo_reads D 11 [(0, va_rf (some a0)), (1, .int x1), (2, .int x2)] [] h (rZ v) h') : ∀ (n : Nat) (a0 : Nat) (x1 : Int32) (x2 : Int32) (h : PH) (v : Bool) (h' : PH), Mo_reads_b379 N self_11 n a0 x1 x2 h = some (v, h') → Run g pMo_reads D 379 [(0, va_rf (some a0)), (1, .int x1), (2, .int x2)] [] h (rZ v) h' := by
  obtain ⟨D2, rfl⟩ : ∃ d, D = d + 1 := ⟨D - 1, by omega⟩
  intro n
  induction n with
  | zero => exact fun _ _ _ _ _ _ hE => nomatch (show none = some _ from hE)
  | succ n ih =>
    intro a0 x1 x2 h v h' hE
    unfold Mo_reads_b379 at hE
    refine r_iload_n 1 rfl rfl rfl ?_
    refine r_if_le (tgt := 424) rfl (by decide) (fun hc1 => ?_) (fun hc1 => ?_)
    · have hE := ifP hc1 hE
      first | exact r_sb (Mo_reads_b424_ok g N _ hD _ hself_11  _ _ _ _ _ _ hE) ⟨rfl, rfl, rfl, trivial⟩ | exact r_sb (Mo_reads_b424_ok g N _ hD _ hself_11  _ _ _ _ _ _ hE) (by simp only [su1, su2, dr1_rf, dr1_in, dr1_lo, dr2_rf, dr2_in, dr2_lo]; exact ⟨rfl, rfl, rfl, trivial⟩)
    · have hE := ifN hc1 hE
      refine r_aload_n (t := some a0) 0 rfl rfl rfl ?_
      obtain ⟨hk2, hE⟩ := ckE hE
      refine r_getR rfl (fl_11_36 rfl) (Or.inr ⟨_, rfl⟩) rfl hk2 ?_
      refine r_iload_n 1 rfl rfl rfl ?_
      obtain ⟨a_3, ha4, hE⟩ := bnE hE
      obtain ⟨hk5, hE⟩ := ckE hE
      obtain ⟨hi6, hE⟩ := ckE hE
      refine r_iald rfl ha4 hk5 hi6 ?_
      refine r_iconst 1 rfl ci_1 ?_
      refine r_icmp_ne (tgt := 424) rfl (by decide) (fun hc7 => ?_) (fun hc7 => ?_)
      · have hE := ifP hc7 hE
        refine r_iinc _ rfl rfl (congrArg _ ci_m1) (by decide) ?_
        refine r_goto (tgt := 379) rfl (by decide) ?_
        first | exact r_sb (ih _ _ _ _ _ _ hE) ⟨rfl, rfl, rfl, trivial⟩ | exact r_sb (ih _ _ _ _ _ _ hE) (by simp only [su1, su2, dr1_rf, dr1_in, dr1_lo, dr2_rf, dr2_in, dr2_lo]; exact ⟨rfl, rfl, rfl, trivial⟩)
      · have hE := ifN hc7 hE
        first | exact r_sb (Mo_reads_b424_ok g N _ hD _ hself_11  _ _ _ _ _ _ hE) ⟨rfl, rfl, rfl, trivial⟩ | exact r_sb (Mo_reads_b424_ok g N _ hD _ hself_11  _ _ _ _ _ _ hE) (by simp only [su1, su2, dr1_rf, dr1_in, dr1_lo, dr2_rf, dr2_in, dr2_lo]; exact ⟨rfl, rfl, rfl, trivial⟩)
def Mo_reads_b418 (N : Nat) (a0 : Nat) (h : PH) : Option (Bool × PH) :=
  ck ((hK h a0).1 = 11) <|
  bd (Mo_fails N a0 1 h) fun v2 h3 =>
  some (v2, h3)
set_option maxRecDepth 20000 in
theorem Mo_reads_b418_ok (g : GT) (N : Nat) (D : Nat) (hD : 2 ≤ D) : ∀ (a0 : Nat) (h : PH) (v : Bool) (h' : PH), Mo_reads_b418 N a0 h = some (v, h') → Run g pMo_reads D 418 [(0, va_rf (some a0))] [] h (rZ v) h' := by
  obtain ⟨D2, rfl⟩ : ∃ d, D = d + 1 := ⟨D - 1, by omega⟩
  intro a0 h v h' hE
  unfold Mo_reads_b418 at hE
  refine r_aload_n (t := some a0) 0 rfl rfl rfl ?_
  refine r_iconst 1 rfl ci_1 ?_
  obtain ⟨hk1, hE⟩ := ckE hE
  obtain ⟨v2, h3, hq4, hE⟩ := bdE hE
  refine r_callV1 (rest := []) (hc := (Mo_fails_ok g N _ _ _ _ _ hq4 D2 (by omega))) rfl pm_Mo_fails lw_11_185 im_Mo_fails sl_Mo_fails rfl rfl rfl (rcOK hk1 rfl) (by decide) ?_
  cases hE
  exact r_ret rfl (Or.inl ⟨rfl, _, _, rfl, by first | rfl | rw [rZ, oZ, bI_tb (isB_bI _)], rfl, nar_B (isB_bI _)⟩)
def Mo_reads_b399 (N : Nat) (a0 : Nat) (x1 : Int32) (h : PH) : Option (Bool × PH) :=
  if x1 = 0 then
    ck ((hK h a0).1 = 11) <|
    bd (Mo_isSign N a0 59 h) fun v3 h4 =>
    if (bI v3) = 0 then
      Mo_reads_b418 N  a0 h4
    else
      ck ((hK h4 a0).1 = 11) <|
      bd (Mo_nextToken N a0 h4) fun v8 h9 =>
      some (true, h9)
  else
    Mo_reads_b418 N  a0 h
set_option maxRecDepth 20000 in
theorem Mo_reads_b399_ok (g : GT) (N : Nat) (D : Nat) (hD : 2 ≤ D) : ∀ (a0 : Nat) (x1 : Int32) (h : PH) (v : Bool) (h' : PH), Mo_reads_b399 N a0 x1 h = some (v, h') → Run g pMo_reads D 399 [(0, va_rf (some a0)), (1, .int x1)] [] h (rZ v) h' := by
  obtain ⟨D2, rfl⟩ : ∃ d, D = d + 1 := ⟨D - 1, by omega⟩
  intro a0 x1 h v h' hE
  unfold Mo_reads_b399 at hE
  refine r_iload_n 1 rfl rfl rfl ?_
  refine r_if_ne (tgt := 418) rfl (by decide) (fun hc1 => ?_) (fun hc1 => ?_)
  · have hE := ifP hc1 hE
    refine r_aload_n (t := some a0) 0 rfl rfl rfl ?_
    refine r_bipush 59 rfl cb_59 ?_
    obtain ⟨hk2, hE⟩ := ckE hE
    obtain ⟨v3, h4, hq5, hE⟩ := bdE hE
    refine r_callV1 (rest := []) (hc := (Mo_isSign_ok g N _ _ _ _ _ hq5 D2 (by omega))) rfl pm_Mo_isSign lw_11_181 im_Mo_isSign sl_Mo_isSign rfl rfl rfl (rcOK hk2 rfl) (by decide) ?_
    refine r_if_eq (tgt := 418) rfl (by decide) (fun hc6 => ?_) (fun hc6 => ?_)
    · have hE := ifP hc6 hE
      first | exact r_sb (Mo_reads_b418_ok g N _ hD   _ _ _ _ hE) ⟨rfl, trivial⟩ | exact r_sb (Mo_reads_b418_ok g N _ hD   _ _ _ _ hE) (by simp only [su1, su2, dr1_rf, dr1_in, dr1_lo, dr2_rf, dr2_in, dr2_lo]; exact ⟨rfl, trivial⟩)
    · have hE := ifN hc6 hE
      refine r_aload_n (t := some a0) 0 rfl rfl rfl ?_
      obtain ⟨hk7, hE⟩ := ckE hE
      obtain ⟨v8, h9, hq10, hE⟩ := bdE hE
      refine r_callV0 (rest := []) (hc := (Mo_nextToken_ok g N _ _ _ _ hq10 D2 (by omega))) rfl pm_Mo_nextToken lw_11_191 im_Mo_nextToken sl_Mo_nextToken rfl rfl rfl (rcOK hk7 rfl) (by decide) ?_
      refine r_iconst 1 rfl ci_1 ?_
      cases hE
      exact r_ret rfl (Or.inl ⟨rfl, _, _, rfl, rfl, rfl, rfl⟩)
  · have hE := ifN hc1 hE
    first | exact r_sb (Mo_reads_b418_ok g N _ hD   _ _ _ _ hE) ⟨rfl, trivial⟩ | exact r_sb (Mo_reads_b418_ok g N _ hD   _ _ _ _ hE) (by simp only [su1, su2, dr1_rf, dr1_in, dr1_lo, dr2_rf, dr2_in, dr2_lo]; exact ⟨rfl, trivial⟩)
def Mo_reads_b304 (N : Nat) (self_11 : Nat → Int32 → Int32 → PH → Option (Bool × PH)) (a0 : Nat) (x1 : Int32) (x2 : Int32) (h : PH) : Option (Bool × PH) :=
  ck ((hK h a0).1 = 11) <|
  bd (Mo_isWord N a0 1111 h) fun v2 h3 =>
  if (bI v2) = 0 then
    ck ((hK h3 a0).1 = 11) <|
    bd (Mo_isWord N a0 423 h3) fun v7 h8 =>
    if (bI v7) = 0 then
      ck ((hK h8 a0).1 = 11) <|
      bd (Mo_isSign N a0 41 h8) fun v12 h13 =>
      if (bI v12) = 0 then
        Mo_reads_b399 N  a0 x1 h13
      else
        if x1 ≤ 0 then
          Mo_reads_b399 N  a0 x1 h13
        else
          ck ((hK h13 a0).1 = 11) <|
          bd (Mo_puts N a0 29 h13) fun v18 h19 =>
          Mo_reads_b379 N self_11 N a0 (x1 + (-1)) x2 h19
    else
      Mo_reads_b324 N self_11  a0 x1 h8
  else
    Mo_reads_b324 N self_11  a0 x1 h3
set_option maxRecDepth 20000 in
theorem Mo_reads_b304_ok (g : GT) (N : Nat) (D : Nat) (hD : 2 ≤ D) (self_11 : Nat → Int32 → Int32 → PH → Option (Bool × PH)) (hself_11 : ∀ (a0 : Nat) (x1 : Int32) (x2 : Int32) (h : PH) (v : Bool) (h' : PH), self_11 a0 x1 x2 h = some (v, h') → Run g pMo_reads D 11 [(0, va_rf (some a0)), (1, .int x1), (2, .int x2)] [] h (rZ v) h') : ∀ (a0 : Nat) (x1 : Int32) (x2 : Int32) (h : PH) (v : Bool) (h' : PH), Mo_reads_b304 N self_11 a0 x1 x2 h = some (v, h') → Run g pMo_reads D 304 [(0, va_rf (some a0)), (1, .int x1), (2, .int x2)] [] h (rZ v) h' := by
  obtain ⟨D2, rfl⟩ : ∃ d, D = d + 1 := ⟨D - 1, by omega⟩
  intro a0 x1 x2 h v h' hE
  unfold Mo_reads_b304 at hE
  refine r_aload_n (t := some a0) 0 rfl rfl rfl ?_
  refine r_ldc2 rfl kc_11_194 ?_
  obtain ⟨hk1, hE⟩ := ckE hE
  obtain ⟨v2, h3, hq4, hE⟩ := bdE hE
  refine r_callV1 (rest := []) (hc := (Mo_isWord_ok g N _ _ _ _ _ hq4 D2 (by omega))) rfl pm_Mo_isWord lw_11_177 im_Mo_isWord sl_Mo_isWord rfl rfl rfl (rcOK hk1 rfl) (by decide) ?_
  refine r_if_ne (tgt := 324) rfl (by decide) (fun hc5 => ?_) (fun hc5 => ?_)
  · have hE := ifP hc5 hE
    refine r_aload_n (t := some a0) 0 rfl rfl rfl ?_
    refine r_ldc2 rfl kc_11_196 ?_
    obtain ⟨hk6, hE⟩ := ckE hE
    obtain ⟨v7, h8, hq9, hE⟩ := bdE hE
    refine r_callV1 (rest := []) (hc := (Mo_isWord_ok g N _ _ _ _ _ hq9 D2 (by omega))) rfl pm_Mo_isWord lw_11_177 im_Mo_isWord sl_Mo_isWord rfl rfl rfl (rcOK hk6 rfl) (by decide) ?_
    refine r_if_eq (tgt := 357) rfl (by decide) (fun hc10 => ?_) (fun hc10 => ?_)
    · have hE := ifP hc10 hE
      refine r_aload_n (t := some a0) 0 rfl rfl rfl ?_
      refine r_bipush 41 rfl cb_41 ?_
      obtain ⟨hk11, hE⟩ := ckE hE
      obtain ⟨v12, h13, hq14, hE⟩ := bdE hE
      refine r_callV1 (rest := []) (hc := (Mo_isSign_ok g N _ _ _ _ _ hq14 D2 (by omega))) rfl pm_Mo_isSign lw_11_181 im_Mo_isSign sl_Mo_isSign rfl rfl rfl (rcOK hk11 rfl) (by decide) ?_
      refine r_if_eq (tgt := 399) rfl (by decide) (fun hc15 => ?_) (fun hc15 => ?_)
      · have hE := ifP hc15 hE
        first | exact r_sb (Mo_reads_b399_ok g N _ hD   _ _ _ _ _ hE) ⟨rfl, rfl, trivial⟩ | exact r_sb (Mo_reads_b399_ok g N _ hD   _ _ _ _ _ hE) (by simp only [su1, su2, dr1_rf, dr1_in, dr1_lo, dr2_rf, dr2_in, dr2_lo]; exact ⟨rfl, rfl, trivial⟩)
      · have hE := ifN hc15 hE
        refine r_iload_n 1 rfl rfl rfl ?_
        refine r_if_le (tgt := 399) rfl (by decide) (fun hc16 => ?_) (fun hc16 => ?_)
        · have hE := ifP hc16 hE
          first | exact r_sb (Mo_reads_b399_ok g N _ hD   _ _ _ _ _ hE) ⟨rfl, rfl, trivial⟩ | exact r_sb (Mo_reads_b399_ok g N _ hD   _ _ _ _ _ hE) (by simp only [su1, su2, dr1_rf, dr1_in, dr1_lo, dr2_rf, dr2_in, dr2_lo]; exact ⟨rfl, rfl, trivial⟩)
        · have hE := ifN hc16 hE
          refine r_aload_n (t := some a0) 0 rfl rfl rfl ?_
          refine r_bipush 29 rfl cb_29 ?_
          obtain ⟨hk17, hE⟩ := ckE hE
          obtain ⟨v18, h19, hq20, hE⟩ := bdE hE
          refine r_callV0 (rest := []) (hc := (Mo_puts_ok g N _ _ _ _ _ hq20 D2 (by omega))) rfl pm_Mo_puts lw_11_188 im_Mo_puts sl_Mo_puts rfl rfl rfl (rcOK hk17 rfl) (by decide) ?_
          refine r_iinc _ rfl rfl (congrArg _ ci_m1) (by decide) ?_
          first | exact r_sb (Mo_reads_b379_ok g N _ hD _ hself_11 N _ _ _ _ _ _ hE) ⟨rfl, rfl, rfl, trivial⟩ | exact r_sb (Mo_reads_b379_ok g N _ hD _ hself_11 N _ _ _ _ _ _ hE) (by simp only [su1, su2, dr1_rf, dr1_in, dr1_lo, dr2_rf, dr2_in, dr2_lo]; exact ⟨rfl, rfl, rfl, trivial⟩)
    · have hE := ifN hc10 hE
      first | exact r_sb (Mo_reads_b324_ok g N _ hD _ hself_11  _ _ _ _ _ hE) ⟨rfl, rfl, trivial⟩ | exact r_sb (Mo_reads_b324_ok g N _ hD _ hself_11  _ _ _ _ _ hE) (by simp only [su1, su2, dr1_rf, dr1_in, dr1_lo, dr2_rf, dr2_in, dr2_lo]; exact ⟨rfl, rfl, trivial⟩)
  · have hE := ifN hc5 hE
    first | exact r_sb (Mo_reads_b324_ok g N _ hD _ hself_11  _ _ _ _ _ hE) ⟨rfl, rfl, trivial⟩ | exact r_sb (Mo_reads_b324_ok g N _ hD _ hself_11  _ _ _ _ _ hE) (by simp only [su1, su2, dr1_rf, dr1_in, dr1_lo, dr2_rf, dr2_in, dr2_lo]; exact ⟨rfl, rfl, trivial⟩)
def Mo_reads_b263 (N : Nat) (self_11 : Nat → Int32 → Int32 → PH → Option (Bool × PH)) (a0 : Nat) (x1 : Int32) (x2 : Int32) (h : PH) : Option (Bool × PH) :=
  ck ((hK h a0).1 = 11) <|
  ((hR h a0 20)).bind fun a_2 =>
  ck ((hK h a_2).1 = 21) <|
  ck (inb x1 (hK h a_2).2 = true) <|
  if (bI (hZ h a_2 (ix x1))) = 0 then
    bd (Mo_isSign N a0 60 h) fun v7 h8 =>
    if (bI v7) = 0 then
      Mo_reads_b289 N self_11  a0 25 a0 x1 h8
    else
      Mo_reads_b289 N self_11  a0 24 a0 x1 h8
  else
    Mo_reads_b304 N self_11  a0 x1 x2 h
set_option maxRecDepth 20000 in
theorem Mo_reads_b263_ok (g : GT) (N : Nat) (D : Nat) (hD : 2 ≤ D) (self_11 : Nat → Int32 → Int32 → PH → Option (Bool × PH)) (hself_11 : ∀ (a0 : Nat) (x1 : Int32) (x2 : Int32) (h : PH) (v : Bool) (h' : PH), self_11 a0 x1 x2 h = some (v, h') → Run g pMo_reads D 11 [(0, va_rf (some a0)), (1, .int x1), (2, .int x2)] [] h (rZ v) h') : ∀ (a0 : Nat) (x1 : Int32) (x2 : Int32) (h : PH) (v : Bool) (h' : PH), Mo_reads_b263 N self_11 a0 x1 x2 h = some (v, h') → Run g pMo_reads D 263 [(0, va_rf (some a0)), (1, .int x1), (2, .int x2)] [] h (rZ v) h' := by
  obtain ⟨D2, rfl⟩ : ∃ d, D = d + 1 := ⟨D - 1, by omega⟩
  intro a0 x1 x2 h v h' hE
  unfold Mo_reads_b263 at hE
  refine r_aload_n (t := some a0) 0 rfl rfl rfl ?_
  obtain ⟨hk1, hE⟩ := ckE hE
  refine r_getR rfl (fl_11_39 rfl) (Or.inr ⟨_, rfl⟩) rfl hk1 ?_
  refine r_iload_n 1 rfl rfl rfl ?_
  obtain ⟨a_2, ha3, hE⟩ := bnE hE
  obtain ⟨hk4, hE⟩ := ckE hE
  obtain ⟨hi5, hE⟩ := ckE hE
  refine r_zald rfl ha3 hk4 hi5 ?_
  refine r_if_ne (tgt := 304) rfl (by decide) (fun hc6 => ?_) (fun hc6 => ?_)
  · have hE := ifP hc6 hE
    refine r_aload_n (t := some a0) 0 rfl rfl rfl ?_
    refine r_aload_n (t := some a0) 0 rfl rfl rfl ?_
    refine r_bipush 60 rfl cb_60 ?_
    obtain ⟨v7, h8, hq9, hE⟩ := bdE hE
    refine r_callV1 (rest := [va_rf (some a0)]) (hc := (Mo_isSign_ok g N _ _ _ _ _ hq9 D2 (by omega))) rfl pm_Mo_isSign lw_11_181 im_Mo_isSign sl_Mo_isSign rfl rfl rfl (rcOK hk1 rfl) (by simp only [List.map_cons, List.map_nil, rf_cat, cat_i, cat_l, List.sum_cons, List.sum_nil]; decide) ?_
    refine r_if_eq (tgt := 287) rfl (by decide) (fun hc10 => ?_) (fun hc10 => ?_)
    · have hE := ifP hc10 hE
      refine r_bipush 25 rfl cb_25 ?_
      first | exact r_sb (Mo_reads_b289_ok g N _ hD _ hself_11  _ _ _ _ _ _ _ hE) ⟨rfl, rfl, trivial⟩ | exact r_sb (Mo_reads_b289_ok g N _ hD _ hself_11  _ _ _ _ _ _ _ hE) (by simp only [su1, su2, dr1_rf, dr1_in, dr1_lo, dr2_rf, dr2_in, dr2_lo]; exact ⟨rfl, rfl, trivial⟩)
    · have hE := ifN hc10 hE
      refine r_bipush 24 rfl cb_24 ?_
      refine r_goto (tgt := 289) rfl (by decide) ?_
      first | exact r_sb (Mo_reads_b289_ok g N _ hD _ hself_11  _ _ _ _ _ _ _ hE) ⟨rfl, rfl, trivial⟩ | exact r_sb (Mo_reads_b289_ok g N _ hD _ hself_11  _ _ _ _ _ _ _ hE) (by simp only [su1, su2, dr1_rf, dr1_in, dr1_lo, dr2_rf, dr2_in, dr2_lo]; exact ⟨rfl, rfl, trivial⟩)
  · have hE := ifN hc6 hE
    first | exact r_sb (Mo_reads_b304_ok g N _ hD _ hself_11  _ _ _ _ _ _ hE) ⟨rfl, rfl, rfl, trivial⟩ | exact r_sb (Mo_reads_b304_ok g N _ hD _ hself_11  _ _ _ _ _ _ hE) (by simp only [su1, su2, dr1_rf, dr1_in, dr1_lo, dr2_rf, dr2_in, dr2_lo]; exact ⟨rfl, rfl, rfl, trivial⟩)
def Mo_reads_b11 (N : Nat) : Nat → Nat → Int32 → Int32 → PH → Option (Bool × PH)
  | 0 => fun _ _ _ _ => none
  | n + 1 => fun a0 x1 x2 h =>
    if x2 = 0 then
      ck ((hK h a0).1 = 11) <|
      bd (Mo_isSign N a0 43 h) fun v3 h4 =>
      if (bI v3) = 0 then
        ck ((hK h4 a0).1 = 11) <|
        bd (Mo_isSign N a0 45 h4) fun v8 h9 =>
        if (bI v8) = 0 then
          ck ((hK h9 a0).1 = 11) <|
          bd (Mo_isSign N a0 42 h9) fun v13 h14 =>
          if (bI v13) = 0 then
            ck ((hK h14 a0).1 = 11) <|
            bd (Mo_isSign N a0 60 h14) fun v18 h19 =>
            if (bI v18) = 0 then
              ck ((hK h19 a0).1 = 11) <|
              bd (Mo_isSign N a0 61 h19) fun v23 h24 =>
              if (bI v23) = 0 then
                Mo_reads_b304 N (Mo_reads_b11 N n)  a0 x1 x2 h24
              else
                Mo_reads_b263 N (Mo_reads_b11 N n)  a0 x1 x2 h24
            else
              Mo_reads_b263 N (Mo_reads_b11 N n)  a0 x1 x2 h19
          else
            Mo_reads_b206 N (Mo_reads_b11 N n)  a0 x1 h14
        else
          Mo_reads_b206 N (Mo_reads_b11 N n)  a0 x1 h9
      else
        Mo_reads_b206 N (Mo_reads_b11 N n)  a0 x1 h4
    else
      ck ((hK h a0).1 = 11) <|
      bd (Mo_fact N a0 h) fun v28 h29 =>
      ck ((hK h29 a0).1 = 11) <|
      bd (Mo_isWord N a0 10631 h29) fun v32 h33 =>
      ck ((hK h33 a0).1 = 11) <|
      bd (Mo_isSign N a0 40 h33) fun v36 h37 =>
      if v28 = 0 then
        if (bI v32) = 0 then
          if (bI v36) = 0 then
            ck ((hK h37 a0).1 = 11) <|
            if (hI h37 a0 6) = 2 then
              Mo_reads_b65 N (Mo_reads_b11 N n)  a0 x1 x2 v28 (bI v32) (bI v36) h37
            else
              bd (Mo_fails N a0 1 h37) fun v44 h45 =>
              some (v44, h45)
          else
            Mo_reads_b65 N (Mo_reads_b11 N n)  a0 x1 x2 v28 (bI v32) (bI v36) h37
        else
          Mo_reads_b65 N (Mo_reads_b11 N n)  a0 x1 x2 v28 (bI v32) (bI v36) h37
      else
        Mo_reads_b65 N (Mo_reads_b11 N n)  a0 x1 x2 v28 (bI v32) (bI v36) h37
set_option maxRecDepth 20000 in
theorem Mo_reads_b11_ok (g : GT) (N : Nat) (D : Nat) (hD : 2 ≤ D) : ∀ (n : Nat) (a0 : Nat) (x1 : Int32) (x2 : Int32) (h : PH) (v : Bool) (h' : PH), Mo_reads_b11 N n a0 x1 x2 h = some (v, h') → Run g pMo_reads D 11 [(0, va_rf (some a0)), (1, .int x1), (2, .int x2)] [] h (rZ v) h' := by
  obtain ⟨D2, rfl⟩ : ∃ d, D = d + 1 := ⟨D - 1, by omega⟩
  intro n
  induction n with
  | zero => exact fun _ _ _ _ _ _ hE => nomatch (show none = some _ from hE)
  | succ n ih =>
    intro a0 x1 x2 h v h' hE
    unfold Mo_reads_b11 at hE
    refine r_iload_n 2 rfl rfl rfl ?_
    refine r_if_eq (tgt := 179) rfl (by decide) (fun hc1 => ?_) (fun hc1 => ?_)
    · have hE := ifP hc1 hE
      refine r_aload_n (t := some a0) 0 rfl rfl rfl ?_
      refine r_bipush 43 rfl cb_43 ?_
      obtain ⟨hk2, hE⟩ := ckE hE
      obtain ⟨v3, h4, hq5, hE⟩ := bdE hE
      refine r_callV1 (rest := []) (hc := (Mo_isSign_ok g N _ _ _ _ _ hq5 D2 (by omega))) rfl pm_Mo_isSign lw_11_181 im_Mo_isSign sl_Mo_isSign rfl rfl rfl (rcOK hk2 rfl) (by decide) ?_
      refine r_if_ne (tgt := 206) rfl (by decide) (fun hc6 => ?_) (fun hc6 => ?_)
      · have hE := ifP hc6 hE
        refine r_aload_n (t := some a0) 0 rfl rfl rfl ?_
        refine r_bipush 45 rfl cb_45 ?_
        obtain ⟨hk7, hE⟩ := ckE hE
        obtain ⟨v8, h9, hq10, hE⟩ := bdE hE
        refine r_callV1 (rest := []) (hc := (Mo_isSign_ok g N _ _ _ _ _ hq10 D2 (by omega))) rfl pm_Mo_isSign lw_11_181 im_Mo_isSign sl_Mo_isSign rfl rfl rfl (rcOK hk7 rfl) (by decide) ?_
        refine r_if_ne (tgt := 206) rfl (by decide) (fun hc11 => ?_) (fun hc11 => ?_)
        · have hE := ifP hc11 hE
          refine r_aload_n (t := some a0) 0 rfl rfl rfl ?_
          refine r_bipush 42 rfl cb_42 ?_
          obtain ⟨hk12, hE⟩ := ckE hE
          obtain ⟨v13, h14, hq15, hE⟩ := bdE hE
          refine r_callV1 (rest := []) (hc := (Mo_isSign_ok g N _ _ _ _ _ hq15 D2 (by omega))) rfl pm_Mo_isSign lw_11_181 im_Mo_isSign sl_Mo_isSign rfl rfl rfl (rcOK hk12 rfl) (by decide) ?_
          refine r_if_eq (tgt := 245) rfl (by decide) (fun hc16 => ?_) (fun hc16 => ?_)
          · have hE := ifP hc16 hE
            refine r_aload_n (t := some a0) 0 rfl rfl rfl ?_
            refine r_bipush 60 rfl cb_60 ?_
            obtain ⟨hk17, hE⟩ := ckE hE
            obtain ⟨v18, h19, hq20, hE⟩ := bdE hE
            refine r_callV1 (rest := []) (hc := (Mo_isSign_ok g N _ _ _ _ _ hq20 D2 (by omega))) rfl pm_Mo_isSign lw_11_181 im_Mo_isSign sl_Mo_isSign rfl rfl rfl (rcOK hk17 rfl) (by decide) ?_
            refine r_if_ne (tgt := 263) rfl (by decide) (fun hc21 => ?_) (fun hc21 => ?_)
            · have hE := ifP hc21 hE
              refine r_aload_n (t := some a0) 0 rfl rfl rfl ?_
              refine r_bipush 61 rfl cb_61 ?_
              obtain ⟨hk22, hE⟩ := ckE hE
              obtain ⟨v23, h24, hq25, hE⟩ := bdE hE
              refine r_callV1 (rest := []) (hc := (Mo_isSign_ok g N _ _ _ _ _ hq25 D2 (by omega))) rfl pm_Mo_isSign lw_11_181 im_Mo_isSign sl_Mo_isSign rfl rfl rfl (rcOK hk22 rfl) (by decide) ?_
              refine r_if_eq (tgt := 304) rfl (by decide) (fun hc26 => ?_) (fun hc26 => ?_)
              · have hE := ifP hc26 hE
                first | exact r_sb (Mo_reads_b304_ok g N _ hD _ ih  _ _ _ _ _ _ hE) ⟨rfl, rfl, rfl, trivial⟩ | exact r_sb (Mo_reads_b304_ok g N _ hD _ ih  _ _ _ _ _ _ hE) (by simp only [su1, su2, dr1_rf, dr1_in, dr1_lo, dr2_rf, dr2_in, dr2_lo]; exact ⟨rfl, rfl, rfl, trivial⟩)
              · have hE := ifN hc26 hE
                first | exact r_sb (Mo_reads_b263_ok g N _ hD _ ih  _ _ _ _ _ _ hE) ⟨rfl, rfl, rfl, trivial⟩ | exact r_sb (Mo_reads_b263_ok g N _ hD _ ih  _ _ _ _ _ _ hE) (by simp only [su1, su2, dr1_rf, dr1_in, dr1_lo, dr2_rf, dr2_in, dr2_lo]; exact ⟨rfl, rfl, rfl, trivial⟩)
            · have hE := ifN hc21 hE
              first | exact r_sb (Mo_reads_b263_ok g N _ hD _ ih  _ _ _ _ _ _ hE) ⟨rfl, rfl, rfl, trivial⟩ | exact r_sb (Mo_reads_b263_ok g N _ hD _ ih  _ _ _ _ _ _ hE) (by simp only [su1, su2, dr1_rf, dr1_in, dr1_lo, dr2_rf, dr2_in, dr2_lo]; exact ⟨rfl, rfl, rfl, trivial⟩)
          · have hE := ifN hc16 hE
            first | exact r_sb (Mo_reads_b206_ok g N _ hD _ ih  _ _ _ _ _ hE) ⟨rfl, rfl, trivial⟩ | exact r_sb (Mo_reads_b206_ok g N _ hD _ ih  _ _ _ _ _ hE) (by simp only [su1, su2, dr1_rf, dr1_in, dr1_lo, dr2_rf, dr2_in, dr2_lo]; exact ⟨rfl, rfl, trivial⟩)
        · have hE := ifN hc11 hE
          first | exact r_sb (Mo_reads_b206_ok g N _ hD _ ih  _ _ _ _ _ hE) ⟨rfl, rfl, trivial⟩ | exact r_sb (Mo_reads_b206_ok g N _ hD _ ih  _ _ _ _ _ hE) (by simp only [su1, su2, dr1_rf, dr1_in, dr1_lo, dr2_rf, dr2_in, dr2_lo]; exact ⟨rfl, rfl, trivial⟩)
      · have hE := ifN hc6 hE
        first | exact r_sb (Mo_reads_b206_ok g N _ hD _ ih  _ _ _ _ _ hE) ⟨rfl, rfl, trivial⟩ | exact r_sb (Mo_reads_b206_ok g N _ hD _ ih  _ _ _ _ _ hE) (by simp only [su1, su2, dr1_rf, dr1_in, dr1_lo, dr2_rf, dr2_in, dr2_lo]; exact ⟨rfl, rfl, trivial⟩)
    · have hE := ifN hc1 hE
      refine r_aload_n (t := some a0) 0 rfl rfl rfl ?_
      obtain ⟨hk27, hE⟩ := ckE hE
      obtain ⟨v28, h29, hq30, hE⟩ := bdE hE
      refine r_callV1 (rest := []) (hc := (Mo_fact_ok g N _ _ _ _ hq30 D2 (by omega))) rfl pm_Mo_fact lw_11_171 im_Mo_fact sl_Mo_fact rfl rfl rfl (rcOK hk27 rfl) (by decide) ?_
      refine r_istore_n 3 rfl rfl (by decide) ?_
      refine r_aload_n (t := some a0) 0 rfl rfl rfl ?_
      refine r_ldc2 rfl kc_11_175 ?_
      obtain ⟨hk31, hE⟩ := ckE hE
      obtain ⟨v32, h33, hq34, hE⟩ := bdE hE
      refine r_callV1 (rest := []) (hc := (Mo_isWord_ok g N _ _ _ _ _ hq34 D2 (by omega))) rfl pm_Mo_isWord lw_11_177 im_Mo_isWord sl_Mo_isWord rfl rfl rfl (rcOK hk31 rfl) (by decide) ?_
      refine r_istore rfl (by decide) ?_
      refine r_aload_n (t := some a0) 0 rfl rfl rfl ?_
      refine r_bipush 40 rfl cb_40 ?_
      obtain ⟨hk35, hE⟩ := ckE hE
      obtain ⟨v36, h37, hq38, hE⟩ := bdE hE
      refine r_callV1 (rest := []) (hc := (Mo_isSign_ok g N _ _ _ _ _ hq38 D2 (by omega))) rfl pm_Mo_isSign lw_11_181 im_Mo_isSign sl_Mo_isSign rfl rfl rfl (rcOK hk35 rfl) (by decide) ?_
      refine r_istore rfl (by decide) ?_
      refine r_iload_n 3 rfl rfl rfl ?_
      refine r_if_ne (tgt := 65) rfl (by decide) (fun hc39 => ?_) (fun hc39 => ?_)
      · have hE := ifP hc39 hE
        refine r_iload rfl rfl ?_
        refine r_if_ne (tgt := 65) rfl (by decide) (fun hc40 => ?_) (fun hc40 => ?_)
        · have hE := ifP hc40 hE
          refine r_iload rfl rfl ?_
          refine r_if_ne (tgt := 65) rfl (by decide) (fun hc41 => ?_) (fun hc41 => ?_)
          · have hE := ifP hc41 hE
            refine r_aload_n (t := some a0) 0 rfl rfl rfl ?_
            obtain ⟨hk42, hE⟩ := ckE hE
            refine r_getI rfl (fl_11_144 rfl) (Or.inl rfl) rfl hk42 ?_
            refine r_iconst 2 rfl ci_2 ?_
            refine r_icmp_eq (tgt := 65) rfl (by decide) (fun hc43 => ?_) (fun hc43 => ?_)
            · have hE := ifP hc43 hE
              first | exact r_sb (Mo_reads_b65_ok g N _ hD _ ih  _ _ _ _ _ _ _ _ _ hE) ⟨rfl, rfl, rfl, rfl, rfl, rfl, trivial⟩ | exact r_sb (Mo_reads_b65_ok g N _ hD _ ih  _ _ _ _ _ _ _ _ _ hE) (by simp only [su1, su2, dr1_rf, dr1_in, dr1_lo, dr2_rf, dr2_in, dr2_lo]; exact ⟨rfl, rfl, rfl, rfl, rfl, rfl, trivial⟩)
            · have hE := ifN hc43 hE
              refine r_aload_n (t := some a0) 0 rfl rfl rfl ?_
              refine r_iconst 1 rfl ci_1 ?_
              obtain ⟨v44, h45, hq46, hE⟩ := bdE hE
              refine r_callV1 (rest := []) (hc := (Mo_fails_ok g N _ _ _ _ _ hq46 D2 (by omega))) rfl pm_Mo_fails lw_11_185 im_Mo_fails sl_Mo_fails rfl rfl rfl (rcOK hk42 rfl) (by decide) ?_
              cases hE
              exact r_ret rfl (Or.inl ⟨rfl, _, _, rfl, by first | rfl | rw [rZ, oZ, bI_tb (isB_bI _)], rfl, nar_B (isB_bI _)⟩)
          · have hE := ifN hc41 hE
            first | exact r_sb (Mo_reads_b65_ok g N _ hD _ ih  _ _ _ _ _ _ _ _ _ hE) ⟨rfl, rfl, rfl, rfl, rfl, rfl, trivial⟩ | exact r_sb (Mo_reads_b65_ok g N _ hD _ ih  _ _ _ _ _ _ _ _ _ hE) (by simp only [su1, su2, dr1_rf, dr1_in, dr1_lo, dr2_rf, dr2_in, dr2_lo]; exact ⟨rfl, rfl, rfl, rfl, rfl, rfl, trivial⟩)
        · have hE := ifN hc40 hE
          first | exact r_sb (Mo_reads_b65_ok g N _ hD _ ih  _ _ _ _ _ _ _ _ _ hE) ⟨rfl, rfl, rfl, rfl, rfl, rfl, trivial⟩ | exact r_sb (Mo_reads_b65_ok g N _ hD _ ih  _ _ _ _ _ _ _ _ _ hE) (by simp only [su1, su2, dr1_rf, dr1_in, dr1_lo, dr2_rf, dr2_in, dr2_lo]; exact ⟨rfl, rfl, rfl, rfl, rfl, rfl, trivial⟩)
      · have hE := ifN hc39 hE
        first | exact r_sb (Mo_reads_b65_ok g N _ hD _ ih  _ _ _ _ _ _ _ _ _ hE) ⟨rfl, rfl, rfl, rfl, rfl, rfl, trivial⟩ | exact r_sb (Mo_reads_b65_ok g N _ hD _ ih  _ _ _ _ _ _ _ _ _ hE) (by simp only [su1, su2, dr1_rf, dr1_in, dr1_lo, dr2_rf, dr2_in, dr2_lo]; exact ⟨rfl, rfl, rfl, rfl, rfl, rfl, trivial⟩)
def Mo_reads (N : Nat) (a0 : Nat) (h : PH) : Option (Bool × PH) :=
  ck ((hK h a0).1 = 11) <|
  ((hR h a0 20)).bind fun a_2 =>
  ck ((hK h a_2).1 = 21) <|
  ck (inb 0 (hK h a_2).2 = true) <|
  lt0 (wZ h a_2 (ix 0) (tb 0)) fun h6 =>
  Mo_reads_b11 N N a0 0 1 h6
set_option maxRecDepth 20000 in
theorem Mo_reads_ok (g : GT) (N : Nat) (a0 : Nat) (h : PH) (v : Bool) (h' : PH) (hE : Mo_reads N a0 h = some (v, h')) (D : Nat) (hD : 2 ≤ D) : Calls g D pMo_reads [va_rf (some a0)] h (oZ v) h' := by
  refine Calls.of cok_Mo_reads ht_Mo_reads pl_Mo_reads (fun ad => by rw [lg_len, sL_cat]; simp only [List.map_cons, List.map_nil, rf_cat, cat_i, cat_l, List.sum_cons, List.sum_nil]; decide) ?_
  rw [show lv_args 0 [va_rf (some a0)] = [(0, va_rf (some a0))] from (by simp only [lv_args, rf_cat, cat_i, cat_l]; try rfl)]
  obtain ⟨D2, rfl⟩ : ∃ d, D = d + 1 := ⟨D - 1, by omega⟩
  unfold Mo_reads at hE
  refine r_iconst 0 rfl ci_0 ?_
  refine r_istore_n 1 rfl rfl (by decide) ?_
  refine r_iconst 1 rfl ci_1 ?_
  refine r_istore_n 2 rfl rfl (by decide) ?_
  refine r_aload_n (t := some a0) 0 rfl rfl rfl ?_
  obtain ⟨hk1, hE⟩ := ckE hE
  refine r_getR rfl (fl_11_39 rfl) (Or.inr ⟨_, rfl⟩) rfl hk1 ?_
  refine r_iconst 0 rfl ci_0 ?_
  refine r_iconst 0 rfl ci_0 ?_
  obtain ⟨a_2, ha3, hE⟩ := bnE hE
  obtain ⟨hk4, hE⟩ := ckE hE
  obtain ⟨hi5, hE⟩ := ckE hE
  obtain ⟨h6, he7, hE⟩ := ltE hE
  refine r_zast rfl ha3 hk4 hi5 rfl he7 ?_
  first | exact r_sb (Mo_reads_b11_ok g N _ hD  N _ _ _ _ _ _ hE) ⟨rfl, rfl, rfl, trivial⟩ | exact r_sb (Mo_reads_b11_ok g N _ hD  N _ _ _ _ _ _ hE) (by simp only [su1, su2, dr1_rf, dr1_in, dr1_lo, dr2_rf, dr2_in, dr2_lo]; exact ⟨rfl, rfl, rfl, trivial⟩)
def Mo_readsHabit_b38 (N : Nat) : Nat → Nat → Int32 → Int32 → PH → Option (Bool × PH)
  | 0 => fun _ _ _ _ => none
  | n + 1 => fun a0 x1 x2 h =>
    if x1 ≤ x2 then
      ck ((hK h a0).1 = 11) <|
      ((hR h a0 13)).bind fun a_3 =>
      ck ((hK h a_3).1 = 23) <|
      ck (inb x1 (hK h a_3).2 = true) <|
      lt0 (wJ h a_3 (ix x1) (hJ h a0 7)) fun h7 =>
      bd (Mo_nextToken N a0 h7) fun v9 h10 =>
      ck ((hK h10 a0).1 = 11) <|
      ((hR h10 a0 14)).bind fun a_13 =>
      ck ((hK h10 a_13).1 = 20) <|
      ck (inb (4 + x1) (hK h10 a_13).2 = true) <|
      lt0 (wI h10 a_13 (ix (4 + x1)) (hI h10 a0 17)) fun h17 =>
      bd (Mo_reads N a0 h17) fun v19 h20 =>
      if (bI v19) = 0 then
        some (false, h20)
      else
        ck ((hK h20 a0).1 = 11) <|
        ((hR h20 a0 15)).bind fun a_24 =>
        ck ((hK h20 a_24).1 = 20) <|
        ck (inb (4 + x1) (hK h20 a_24).2 = true) <|
        lt0 (wI h20 a_24 (ix (4 + x1)) (hI h20 a0 17)) fun h28 =>
        ((hR h28 a0 10)).bind fun a_30 =>
        ck ((hK h28 a_30).1 = 20) <|
        ck (inb 33 (hK h28 a_30).2 = true) <|
        ck (inb 33 (hK h28 a_30).2 = true) <|
        lt0 (wI h28 a_30 (ix 33) ((hI h28 a_30 (ix 33)) + 1)) fun h35 =>
        some (true, h35)
    else
      ck ((hK h a0).1 = 11) <|
      ((hR h a0 13)).bind fun a_38 =>
      ck ((hK h a_38).1 = 23) <|
      ck (inb x2 (hK h a_38).2 = true) <|
      if (lg_cmp (hJ h a_38 (ix x2)) (hJ h a0 7)) = 0 then
        bd (Mo_fails N a0 3 h) fun v43 h44 =>
        some (v43, h44)
      else
        (Mo_readsHabit_b38 N n) a0 x1 (x2 + 1) h
set_option maxRecDepth 20000 in
theorem Mo_readsHabit_b38_ok (g : GT) (N : Nat) (D : Nat) (hD : 3 ≤ D) : ∀ (n : Nat) (a0 : Nat) (x1 : Int32) (x2 : Int32) (h : PH) (v : Bool) (h' : PH), Mo_readsHabit_b38 N n a0 x1 x2 h = some (v, h') → Run g pMo_readsHabit D 38 [(0, va_rf (some a0)), (1, .int x1), (2, .int x2)] [] h (rZ v) h' := by
  obtain ⟨D2, rfl⟩ : ∃ d, D = d + 1 := ⟨D - 1, by omega⟩
  intro n
  induction n with
  | zero => exact fun _ _ _ _ _ _ hE => nomatch (show none = some _ from hE)
  | succ n ih =>
    intro a0 x1 x2 h v h' hE
    unfold Mo_readsHabit_b38 at hE
    refine r_iload_n 2 rfl rfl rfl ?_
    refine r_iload_n 1 rfl rfl rfl ?_
    refine r_icmp_ge (tgt := 69) rfl (by decide) (fun hc1 => ?_) (fun hc1 => ?_)
    · have hE := ifP hc1 hE
      refine r_aload_n (t := some a0) 0 rfl rfl rfl ?_
      obtain ⟨hk2, hE⟩ := ckE hE
      refine r_getR rfl (fl_11_23 rfl) (Or.inr ⟨_, rfl⟩) rfl hk2 ?_
      refine r_iload_n 1 rfl rfl rfl ?_
      refine r_aload_n (t := some a0) 0 rfl rfl rfl ?_
      refine r_getJ rfl (fl_11_137 rfl) rfl hk2 ?_
      obtain ⟨a_3, ha4, hE⟩ := bnE hE
      obtain ⟨hk5, hE⟩ := ckE hE
      obtain ⟨hi6, hE⟩ := ckE hE
      obtain ⟨h7, he8, hE⟩ := ltE hE
      refine r_last rfl ha4 hk5 hi6 he8 ?_
      refine r_aload_n (t := some a0) 0 rfl rfl rfl ?_
      obtain ⟨v9, h10, hq11, hE⟩ := bdE hE
      refine r_callV0 (rest := []) (hc := (Mo_nextToken_ok g N _ _ _ _ hq11 D2 (by omega))) rfl pm_Mo_nextToken lw_11_191 im_Mo_nextToken sl_Mo_nextToken rfl rfl rfl (rcOK (kwJ he8 hk2) rfl) (by decide) ?_
      refine r_aload_n (t := some a0) 0 rfl rfl rfl ?_
      obtain ⟨hk12, hE⟩ := ckE hE
      refine r_getR rfl (fl_11_27 rfl) (Or.inr ⟨_, rfl⟩) rfl hk12 ?_
      refine r_iconst 4 rfl ci_4 ?_
      refine r_iload_n 1 rfl rfl rfl ?_
      refine r_iadd rfl ?_
      refine r_aload_n (t := some a0) 0 rfl rfl rfl ?_
      refine r_getI rfl (fl_11_158 rfl) (Or.inl rfl) rfl hk12 ?_
      obtain ⟨a_13, ha14, hE⟩ := bnE hE
      obtain ⟨hk15, hE⟩ := ckE hE
      obtain ⟨hi16, hE⟩ := ckE hE
      obtain ⟨h17, he18, hE⟩ := ltE hE
      refine r_iast rfl ha14 hk15 hi16 he18 ?_
      refine r_aload_n (t := some a0) 0 rfl rfl rfl ?_
      obtain ⟨v19, h20, hq21, hE⟩ := bdE hE
      refine r_callV1 (rest := []) (hc := (Mo_reads_ok g N _ _ _ _ hq21 D2 (by omega))) rfl pm_Mo_reads lw_11_278 im_Mo_reads sl_Mo_reads rfl rfl rfl (rcOK (kwI he18 hk12) rfl) (by decide) ?_
      refine r_if_ne (tgt := 104) rfl (by decide) (fun hc22 => ?_) (fun hc22 => ?_)
      · have hE := ifP hc22 hE
        refine r_iconst 0 rfl ci_0 ?_
        cases hE
        exact r_ret rfl (Or.inl ⟨rfl, _, _, rfl, rfl, rfl, rfl⟩)
      · have hE := ifN hc22 hE
        refine r_aload_n (t := some a0) 0 rfl rfl rfl ?_
        obtain ⟨hk23, hE⟩ := ckE hE
        refine r_getR rfl (fl_11_30 rfl) (Or.inr ⟨_, rfl⟩) rfl hk23 ?_
        refine r_iconst 4 rfl ci_4 ?_
        refine r_iload_n 1 rfl rfl rfl ?_
        refine r_iadd rfl ?_
        refine r_aload_n (t := some a0) 0 rfl rfl rfl ?_
        refine r_getI rfl (fl_11_158 rfl) (Or.inl rfl) rfl hk23 ?_
        obtain ⟨a_24, ha25, hE⟩ := bnE hE
        obtain ⟨hk26, hE⟩ := ckE hE
        obtain ⟨hi27, hE⟩ := ckE hE
        obtain ⟨h28, he29, hE⟩ := ltE hE
        refine r_iast rfl ha25 hk26 hi27 he29 ?_
        refine r_aload_n (t := some a0) 0 rfl rfl rfl ?_
        refine r_getR rfl (fl_11_13 rfl) (Or.inr ⟨_, rfl⟩) rfl (kwI he29 hk23) ?_
        refine r_bipush 33 rfl cb_33 ?_
        refine r_dup2 rfl rfl (rf_cat _) ?_
        obtain ⟨a_30, ha31, hE⟩ := bnE hE
        obtain ⟨hk32, hE⟩ := ckE hE
        obtain ⟨hi33, hE⟩ := ckE hE
        refine r_iald rfl ha31 hk32 hi33 ?_
        refine r_iconst 1 rfl ci_1 ?_
        refine r_iadd rfl ?_
        obtain ⟨hi34, hE⟩ := ckE hE
        obtain ⟨h35, he36, hE⟩ := ltE hE
        refine r_iast rfl ha31 hk32 hi34 he36 ?_
        refine r_iconst 1 rfl ci_1 ?_
        cases hE
        exact r_ret rfl (Or.inl ⟨rfl, _, _, rfl, rfl, rfl, rfl⟩)
    · have hE := ifN hc1 hE
      refine r_aload_n (t := some a0) 0 rfl rfl rfl ?_
      obtain ⟨hk37, hE⟩ := ckE hE
      refine r_getR rfl (fl_11_23 rfl) (Or.inr ⟨_, rfl⟩) rfl hk37 ?_
      refine r_iload_n 2 rfl rfl rfl ?_
      obtain ⟨a_38, ha39, hE⟩ := bnE hE
      obtain ⟨hk40, hE⟩ := ckE hE
      obtain ⟨hi41, hE⟩ := ckE hE
      refine r_lald rfl ha39 hk40 hi41 ?_
      refine r_aload_n (t := some a0) 0 rfl rfl rfl ?_
      refine r_getJ rfl (fl_11_137 rfl) rfl hk37 ?_
      refine r_lcmp rfl ?_
      refine r_if_ne (tgt := 63) rfl (by decide) (fun hc42 => ?_) (fun hc42 => ?_)
      · have hE := ifP hc42 hE
        refine r_aload_n (t := some a0) 0 rfl rfl rfl ?_
        refine r_iconst 3 rfl ci_3 ?_
        obtain ⟨v43, h44, hq45, hE⟩ := bdE hE
        refine r_callV1 (rest := []) (hc := (Mo_fails_ok g N _ _ _ _ _ hq45 D2 (by omega))) rfl pm_Mo_fails lw_11_185 im_Mo_fails sl_Mo_fails rfl rfl rfl (rcOK hk37 rfl) (by decide) ?_
        cases hE
        exact r_ret rfl (Or.inl ⟨rfl, _, _, rfl, by first | rfl | rw [rZ, oZ, bI_tb (isB_bI _)], rfl, nar_B (isB_bI _)⟩)
      · have hE := ifN hc42 hE
        refine r_iinc _ rfl rfl (congrArg _ ci_1) (by decide) ?_
        refine r_goto (tgt := 38) rfl (by decide) ?_
        first | exact r_sb (ih _ _ _ _ _ _ hE) ⟨rfl, rfl, rfl, trivial⟩ | exact r_sb (ih _ _ _ _ _ _ hE) (by simp only [su1, su2, dr1_rf, dr1_in, dr1_lo, dr2_rf, dr2_in, dr2_lo]; exact ⟨rfl, rfl, rfl, trivial⟩)
def Mo_readsHabit (N : Nat) (a0 : Nat) (h : PH) : Option (Bool × PH) :=
  ck ((hK h a0).1 = 11) <|
  ((hR h a0 10)).bind fun a_2 =>
  ck ((hK h a_2).1 = 20) <|
  ck (inb 33 (hK h a_2).2 = true) <|
  if (hI h a_2 (ix 33)) = 4 then
    bd (Mo_fails N a0 5 h) fun v7 h8 =>
    some (v7, h8)
  else
    bd (Mo_nextToken N a0 h) fun v10 h11 =>
    ck ((hK h11 a0).1 = 11) <|
    bd (Mo_isKept N a0 h11) fun v14 h15 =>
    if (bI v14) = 0 then
      Mo_readsHabit_b38 N N a0 (hI h a_2 (ix 33)) 0 h15
    else
      ck ((hK h15 a0).1 = 11) <|
      bd (Mo_fails N a0 1 h15) fun v19 h20 =>
      some (v19, h20)
set_option maxRecDepth 20000 in
theorem Mo_readsHabit_ok (g : GT) (N : Nat) (a0 : Nat) (h : PH) (v : Bool) (h' : PH) (hE : Mo_readsHabit N a0 h = some (v, h')) (D : Nat) (hD : 3 ≤ D) : Calls g D pMo_readsHabit [va_rf (some a0)] h (oZ v) h' := by
  refine Calls.of cok_Mo_readsHabit ht_Mo_readsHabit pl_Mo_readsHabit (fun ad => by rw [lg_len, sL_cat]; simp only [List.map_cons, List.map_nil, rf_cat, cat_i, cat_l, List.sum_cons, List.sum_nil]; decide) ?_
  rw [show lv_args 0 [va_rf (some a0)] = [(0, va_rf (some a0))] from (by simp only [lv_args, rf_cat, cat_i, cat_l]; try rfl)]
  obtain ⟨D2, rfl⟩ : ∃ d, D = d + 1 := ⟨D - 1, by omega⟩
  unfold Mo_readsHabit at hE
  refine r_aload_n (t := some a0) 0 rfl rfl rfl ?_
  obtain ⟨hk1, hE⟩ := ckE hE
  refine r_getR rfl (fl_11_13 rfl) (Or.inr ⟨_, rfl⟩) rfl hk1 ?_
  refine r_bipush 33 rfl cb_33 ?_
  obtain ⟨a_2, ha3, hE⟩ := bnE hE
  obtain ⟨hk4, hE⟩ := ckE hE
  obtain ⟨hi5, hE⟩ := ckE hE
  refine r_iald rfl ha3 hk4 hi5 ?_
  refine r_istore_n 1 rfl rfl (by decide) ?_
  refine r_iload_n 1 rfl rfl rfl ?_
  refine r_iconst 4 rfl ci_4 ?_
  refine r_icmp_ne (tgt := 19) rfl (by decide) (fun hc6 => ?_) (fun hc6 => ?_)
  · have hE := ifP hc6 hE
    refine r_aload_n (t := some a0) 0 rfl rfl rfl ?_
    refine r_iconst 5 rfl ci_5 ?_
    obtain ⟨v7, h8, hq9, hE⟩ := bdE hE
    refine r_callV1 (rest := []) (hc := (Mo_fails_ok g N _ _ _ _ _ hq9 D2 (by omega))) rfl pm_Mo_fails lw_11_185 im_Mo_fails sl_Mo_fails rfl rfl rfl (rcOK hk1 rfl) (by decide) ?_
    cases hE
    exact r_ret rfl (Or.inl ⟨rfl, _, _, rfl, by first | rfl | rw [rZ, oZ, bI_tb (isB_bI _)], rfl, nar_B (isB_bI _)⟩)
  · have hE := ifN hc6 hE
    refine r_aload_n (t := some a0) 0 rfl rfl rfl ?_
    obtain ⟨v10, h11, hq12, hE⟩ := bdE hE
    refine r_callV0 (rest := []) (hc := (Mo_nextToken_ok g N _ _ _ _ hq12 D2 (by omega))) rfl pm_Mo_nextToken lw_11_191 im_Mo_nextToken sl_Mo_nextToken rfl rfl rfl (rcOK hk1 rfl) (by decide) ?_
    refine r_aload_n (t := some a0) 0 rfl rfl rfl ?_
    obtain ⟨hk13, hE⟩ := ckE hE
    obtain ⟨v14, h15, hq16, hE⟩ := bdE hE
    refine r_callV1 (rest := []) (hc := (Mo_isKept_ok g N _ _ _ _ hq16 D2 (by omega))) rfl pm_Mo_isKept lw_11_275 im_Mo_isKept sl_Mo_isKept rfl rfl rfl (rcOK hk13 rfl) (by decide) ?_
    refine r_if_eq (tgt := 36) rfl (by decide) (fun hc17 => ?_) (fun hc17 => ?_)
    · have hE := ifP hc17 hE
      refine r_iconst 0 rfl ci_0 ?_
      refine r_istore_n 2 rfl rfl (by decide) ?_
      first | exact r_sb (Mo_readsHabit_b38_ok g N _ hD  N _ _ _ _ _ _ hE) ⟨rfl, rfl, rfl, trivial⟩ | exact r_sb (Mo_readsHabit_b38_ok g N _ hD  N _ _ _ _ _ _ hE) (by simp only [su1, su2, dr1_rf, dr1_in, dr1_lo, dr2_rf, dr2_in, dr2_lo]; exact ⟨rfl, rfl, rfl, trivial⟩)
    · have hE := ifN hc17 hE
      refine r_aload_n (t := some a0) 0 rfl rfl rfl ?_
      refine r_iconst 1 rfl ci_1 ?_
      obtain ⟨hk18, hE⟩ := ckE hE
      obtain ⟨v19, h20, hq21, hE⟩ := bdE hE
      refine r_callV1 (rest := []) (hc := (Mo_fails_ok g N _ _ _ _ _ hq21 D2 (by omega))) rfl pm_Mo_fails lw_11_185 im_Mo_fails sl_Mo_fails rfl rfl rfl (rcOK hk18 rfl) (by decide) ?_
      cases hE
      exact r_ret rfl (Or.inl ⟨rfl, _, _, rfl, by first | rfl | rw [rZ, oZ, bI_tb (isB_bI _)], rfl, nar_B (isB_bI _)⟩)
def Mo_readsAll_b305 (N : Nat) (self_56 : Nat → PH → Option (Bool × PH)) (s0 : Int32) (a0 : Nat) (h : PH) : Option (Bool × PH) :=
  if s0 = 0 then
    some (false, h)
  else
    self_56 a0 h
set_option maxRecDepth 20000 in
theorem Mo_readsAll_b305_ok (g : GT) (N : Nat) (D : Nat) (hD : 5 ≤ D) (self_56 : Nat → PH → Option (Bool × PH)) (hself_56 : ∀ (a0 : Nat) (h : PH) (v : Bool) (h' : PH), self_56 a0 h = some (v, h') → Run g pMo_readsAll D 56 [(0, va_rf (some a0))] [] h (rZ v) h') : ∀ (s0 : Int32) (a0 : Nat) (h : PH) (v : Bool) (h' : PH), Mo_readsAll_b305 N self_56 s0 a0 h = some (v, h') → Run g pMo_readsAll D 305 [(0, va_rf (some a0))] [.int s0] h (rZ v) h' := by
  obtain ⟨D2, rfl⟩ : ∃ d, D = d + 1 := ⟨D - 1, by omega⟩
  intro s0 a0 h v h' hE
  unfold Mo_readsAll_b305 at hE
  refine r_istore_n 1 rfl rfl (by decide) ?_
  refine r_iload_n 1 rfl rfl rfl ?_
  refine r_if_ne (tgt := 312) rfl (by decide) (fun hc1 => ?_) (fun hc1 => ?_)
  · have hE := ifP hc1 hE
    refine r_iconst 0 rfl ci_0 ?_
    cases hE
    exact r_ret rfl (Or.inl ⟨rfl, _, _, rfl, rfl, rfl, rfl⟩)
  · have hE := ifN hc1 hE
    refine r_goto (tgt := 56) rfl (by decide) ?_
    first | exact r_sb (hself_56 _ _ _ _ hE) ⟨rfl, trivial⟩ | exact r_sb (hself_56 _ _ _ _ hE) (by simp only [su1, su2, dr1_rf, dr1_in, dr1_lo, dr2_rf, dr2_in, dr2_lo]; exact ⟨rfl, trivial⟩)
def Mo_readsAll_b56 (N : Nat) : Nat → Nat → PH → Option (Bool × PH)
  | 0 => fun _ _ => none
  | n + 1 => fun a0 h =>
    ck ((hK h a0).1 = 11) <|
    if (hI h a0 6) = 0 then
      some (true, h)
    else
      bd (Mo_isWord N a0 50934 h) fun v3 h4 =>
      if (bI v3) = 0 then
        ck ((hK h4 a0).1 = 11) <|
        bd (Mo_isWord N a0 23175793 h4) fun v8 h9 =>
        if (bI v8) = 0 then
          ck ((hK h9 a0).1 = 11) <|
          bd (Mo_isWord N a0 338365585 h9) fun v13 h14 =>
          if (bI v13) = 0 then
            ck ((hK h14 a0).1 = 11) <|
            bd (Mo_isWord N a0 240023 h14) fun v18 h19 =>
            if (bI v18) = 0 then
              ck ((hK h19 a0).1 = 11) <|
              bd (Mo_isWord N a0 9050609216 h19) fun v23 h24 =>
              if (bI v23) = 0 then
                ck ((hK h24 a0).1 = 11) <|
                bd (Mo_isWord N a0 103726 h24) fun v28 h29 =>
                if (bI v28) = 0 then
                  ck ((hK h29 a0).1 = 11) <|
                  bd (Mo_isWord N a0 464134 h29) fun v33 h34 =>
                  if (bI v33) = 0 then
                    ck ((hK h34 a0).1 = 11) <|
                    bd (Mo_isWord N a0 79958 h34) fun v38 h39 =>
                    if (bI v38) = 0 then
                      ck ((hK h39 a0).1 = 11) <|
                      bd (Mo_isWord N a0 355280 h39) fun v43 h44 =>
                      if (bI v43) = 0 then
                        ck ((hK h44 a0).1 = 11) <|
                        bd (Mo_isWord N a0 11088176 h44) fun v48 h49 =>
                        if (bI v48) = 0 then
                          ck ((hK h49 a0).1 = 11) <|
                          bd (Mo_isWord N a0 1623097 h49) fun v53 h54 =>
                          if (bI v53) = 0 then
                            ck ((hK h54 a0).1 = 11) <|
                            bd (Mo_isWord N a0 4272932 h54) fun v58 h59 =>
                            if (bI v58) = 0 then
                              ck ((hK h59 a0).1 = 11) <|
                              bd (Mo_fails N a0 1 h59) fun v63 h64 =>
                              Mo_readsAll_b305 N (Mo_readsAll_b56 N n)  (bI v63) a0 h64
                            else
                              ck ((hK h59 a0).1 = 11) <|
                              bd (Mo_readsHabit N a0 h59) fun v67 h68 =>
                              Mo_readsAll_b305 N (Mo_readsAll_b56 N n)  (bI v67) a0 h68
                          else
                            ck ((hK h54 a0).1 = 11) <|
                            bd (Mo_readsCalls N a0 h54) fun v71 h72 =>
                            Mo_readsAll_b305 N (Mo_readsAll_b56 N n)  (bI v71) a0 h72
                        else
                          ck ((hK h49 a0).1 = 11) <|
                          bd (Mo_readsOne N a0 14 0 10 h49) fun v75 h76 =>
                          Mo_readsAll_b305 N (Mo_readsAll_b56 N n)  (bI v75) a0 h76
                      else
                        ck ((hK h44 a0).1 = 11) <|
                        bd (Mo_readsOne N a0 13 0 10 h44) fun v79 h80 =>
                        Mo_readsAll_b305 N (Mo_readsAll_b56 N n)  (bI v79) a0 h80
                    else
                      ck ((hK h39 a0).1 = 11) <|
                      bd (Mo_readsOne N a0 12 0 99 h39) fun v83 h84 =>
                      Mo_readsAll_b305 N (Mo_readsAll_b56 N n)  (bI v83) a0 h84
                  else
                    ck ((hK h34 a0).1 = 11) <|
                    bd (Mo_readsOne N a0 11 1 3 h34) fun v87 h88 =>
                    Mo_readsAll_b305 N (Mo_readsAll_b56 N n)  (bI v87) a0 h88
                else
                  ck ((hK h29 a0).1 = 11) <|
                  bd (Mo_readsEggs N a0 h29) fun v91 h92 =>
                  Mo_readsAll_b305 N (Mo_readsAll_b56 N n)  (bI v91) a0 h92
              else
                ck ((hK h24 a0).1 = 11) <|
                bd (Mo_readsOne N a0 8 0 99 h24) fun v95 h96 =>
                Mo_readsAll_b305 N (Mo_readsAll_b56 N n)  (bI v95) a0 h96
            else
              ck ((hK h19 a0).1 = 11) <|
              bd (Mo_readsOne N a0 7 0 99 h19) fun v99 h100 =>
              Mo_readsAll_b305 N (Mo_readsAll_b56 N n)  (bI v99) a0 h100
          else
            ck ((hK h14 a0).1 = 11) <|
            bd (Mo_readsWorths N a0 h14) fun v103 h104 =>
            Mo_readsAll_b305 N (Mo_readsAll_b56 N n)  (bI v103) a0 h104
        else
          ck ((hK h9 a0).1 = 11) <|
          bd (Mo_readsApples N a0 h9) fun v107 h108 =>
          Mo_readsAll_b305 N (Mo_readsAll_b56 N n)  (bI v107) a0 h108
      else
        ck ((hK h4 a0).1 = 11) <|
        bd (Mo_readsOne N a0 1 0 120 h4) fun v111 h112 =>
        Mo_readsAll_b305 N (Mo_readsAll_b56 N n)  (bI v111) a0 h112
set_option maxRecDepth 20000 in
theorem Mo_readsAll_b56_ok (g : GT) (N : Nat) (D : Nat) (hD : 5 ≤ D) : ∀ (n : Nat) (a0 : Nat) (h : PH) (v : Bool) (h' : PH), Mo_readsAll_b56 N n a0 h = some (v, h') → Run g pMo_readsAll D 56 [(0, va_rf (some a0))] [] h (rZ v) h' := by
  obtain ⟨D2, rfl⟩ : ∃ d, D = d + 1 := ⟨D - 1, by omega⟩
  intro n
  induction n with
  | zero => exact fun _ _ _ _ hE => nomatch (show none = some _ from hE)
  | succ n ih =>
    intro a0 h v h' hE
    unfold Mo_readsAll_b56 at hE
    refine r_aload_n (t := some a0) 0 rfl rfl rfl ?_
    obtain ⟨hk1, hE⟩ := ckE hE
    refine r_getI rfl (fl_11_144 rfl) (Or.inl rfl) rfl hk1 ?_
    refine r_if_eq (tgt := 315) rfl (by decide) (fun hc2 => ?_) (fun hc2 => ?_)
    · have hE := ifP hc2 hE
      refine r_iconst 1 rfl ci_1 ?_
      cases hE
      exact r_ret rfl (Or.inl ⟨rfl, _, _, rfl, rfl, rfl, rfl⟩)
    · have hE := ifN hc2 hE
      refine r_aload_n (t := some a0) 0 rfl rfl rfl ?_
      refine r_ldc2 rfl kc_11_209 ?_
      obtain ⟨v3, h4, hq5, hE⟩ := bdE hE
      refine r_callV1 (rest := []) (hc := (Mo_isWord_ok g N _ _ _ _ _ hq5 D2 (by omega))) rfl pm_Mo_isWord lw_11_177 im_Mo_isWord sl_Mo_isWord rfl rfl rfl (rcOK hk1 rfl) (by decide) ?_
      refine r_if_eq (tgt := 84) rfl (by decide) (fun hc6 => ?_) (fun hc6 => ?_)
      · have hE := ifP hc6 hE
        refine r_aload_n (t := some a0) 0 rfl rfl rfl ?_
        refine r_ldc2 rfl kc_11_211 ?_
        obtain ⟨hk7, hE⟩ := ckE hE
        obtain ⟨v8, h9, hq10, hE⟩ := bdE hE
        refine r_callV1 (rest := []) (hc := (Mo_isWord_ok g N _ _ _ _ _ hq10 D2 (by omega))) rfl pm_Mo_isWord lw_11_177 im_Mo_isWord sl_Mo_isWord rfl rfl rfl (rcOK hk7 rfl) (by decide) ?_
        refine r_if_eq (tgt := 101) rfl (by decide) (fun hc11 => ?_) (fun hc11 => ?_)
        · have hE := ifP hc11 hE
          refine r_aload_n (t := some a0) 0 rfl rfl rfl ?_
          refine r_ldc2 rfl kc_11_215 ?_
          obtain ⟨hk12, hE⟩ := ckE hE
          obtain ⟨v13, h14, hq15, hE⟩ := bdE hE
          refine r_callV1 (rest := []) (hc := (Mo_isWord_ok g N _ _ _ _ _ hq15 D2 (by omega))) rfl pm_Mo_isWord lw_11_177 im_Mo_isWord sl_Mo_isWord rfl rfl rfl (rcOK hk12 rfl) (by decide) ?_
          refine r_if_eq (tgt := 118) rfl (by decide) (fun hc16 => ?_) (fun hc16 => ?_)
          · have hE := ifP hc16 hE
            refine r_aload_n (t := some a0) 0 rfl rfl rfl ?_
            refine r_ldc2 rfl kc_11_217 ?_
            obtain ⟨hk17, hE⟩ := ckE hE
            obtain ⟨v18, h19, hq20, hE⟩ := bdE hE
            refine r_callV1 (rest := []) (hc := (Mo_isWord_ok g N _ _ _ _ _ hq20 D2 (by omega))) rfl pm_Mo_isWord lw_11_177 im_Mo_isWord sl_Mo_isWord rfl rfl rfl (rcOK hk17 rfl) (by decide) ?_
            refine r_if_eq (tgt := 140) rfl (by decide) (fun hc21 => ?_) (fun hc21 => ?_)
            · have hE := ifP hc21 hE
              refine r_aload_n (t := some a0) 0 rfl rfl rfl ?_
              refine r_ldc2 rfl kc_11_219 ?_
              obtain ⟨hk22, hE⟩ := ckE hE
              obtain ⟨v23, h24, hq25, hE⟩ := bdE hE
              refine r_callV1 (rest := []) (hc := (Mo_isWord_ok g N _ _ _ _ _ hq25 D2 (by omega))) rfl pm_Mo_isWord lw_11_177 im_Mo_isWord sl_Mo_isWord rfl rfl rfl (rcOK hk22 rfl) (by decide) ?_
              refine r_if_eq (tgt := 162) rfl (by decide) (fun hc26 => ?_) (fun hc26 => ?_)
              · have hE := ifP hc26 hE
                refine r_aload_n (t := some a0) 0 rfl rfl rfl ?_
                refine r_ldc2 rfl kc_11_221 ?_
                obtain ⟨hk27, hE⟩ := ckE hE
                obtain ⟨v28, h29, hq30, hE⟩ := bdE hE
                refine r_callV1 (rest := []) (hc := (Mo_isWord_ok g N _ _ _ _ _ hq30 D2 (by omega))) rfl pm_Mo_isWord lw_11_177 im_Mo_isWord sl_Mo_isWord rfl rfl rfl (rcOK hk27 rfl) (by decide) ?_
                refine r_if_eq (tgt := 179) rfl (by decide) (fun hc31 => ?_) (fun hc31 => ?_)
                · have hE := ifP hc31 hE
                  refine r_aload_n (t := some a0) 0 rfl rfl rfl ?_
                  refine r_ldc2 rfl kc_11_225 ?_
                  obtain ⟨hk32, hE⟩ := ckE hE
                  obtain ⟨v33, h34, hq35, hE⟩ := bdE hE
                  refine r_callV1 (rest := []) (hc := (Mo_isWord_ok g N _ _ _ _ _ hq35 D2 (by omega))) rfl pm_Mo_isWord lw_11_177 im_Mo_isWord sl_Mo_isWord rfl rfl rfl (rcOK hk32 rfl) (by decide) ?_
                  refine r_if_eq (tgt := 200) rfl (by decide) (fun hc36 => ?_) (fun hc36 => ?_)
                  · have hE := ifP hc36 hE
                    refine r_aload_n (t := some a0) 0 rfl rfl rfl ?_
                    refine r_ldc2 rfl kc_11_227 ?_
                    obtain ⟨hk37, hE⟩ := ckE hE
                    obtain ⟨v38, h39, hq40, hE⟩ := bdE hE
                    refine r_callV1 (rest := []) (hc := (Mo_isWord_ok g N _ _ _ _ _ hq40 D2 (by omega))) rfl pm_Mo_isWord lw_11_177 im_Mo_isWord sl_Mo_isWord rfl rfl rfl (rcOK hk37 rfl) (by decide) ?_
                    refine r_if_eq (tgt := 222) rfl (by decide) (fun hc41 => ?_) (fun hc41 => ?_)
                    · have hE := ifP hc41 hE
                      refine r_aload_n (t := some a0) 0 rfl rfl rfl ?_
                      refine r_ldc2 rfl kc_11_229 ?_
                      obtain ⟨hk42, hE⟩ := ckE hE
                      obtain ⟨v43, h44, hq45, hE⟩ := bdE hE
                      refine r_callV1 (rest := []) (hc := (Mo_isWord_ok g N _ _ _ _ _ hq45 D2 (by omega))) rfl pm_Mo_isWord lw_11_177 im_Mo_isWord sl_Mo_isWord rfl rfl rfl (rcOK hk42 rfl) (by decide) ?_
                      refine r_if_eq (tgt := 244) rfl (by decide) (fun hc46 => ?_) (fun hc46 => ?_)
                      · have hE := ifP hc46 hE
                        refine r_aload_n (t := some a0) 0 rfl rfl rfl ?_
                        refine r_ldc2 rfl kc_11_231 ?_
                        obtain ⟨hk47, hE⟩ := ckE hE
                        obtain ⟨v48, h49, hq50, hE⟩ := bdE hE
                        refine r_callV1 (rest := []) (hc := (Mo_isWord_ok g N _ _ _ _ _ hq50 D2 (by omega))) rfl pm_Mo_isWord lw_11_177 im_Mo_isWord sl_Mo_isWord rfl rfl rfl (rcOK hk47 rfl) (by decide) ?_
                        refine r_if_eq (tgt := 266) rfl (by decide) (fun hc51 => ?_) (fun hc51 => ?_)
                        · have hE := ifP hc51 hE
                          refine r_aload_n (t := some a0) 0 rfl rfl rfl ?_
                          refine r_ldc2 rfl kc_11_233 ?_
                          obtain ⟨hk52, hE⟩ := ckE hE
                          obtain ⟨v53, h54, hq55, hE⟩ := bdE hE
                          refine r_callV1 (rest := []) (hc := (Mo_isWord_ok g N _ _ _ _ _ hq55 D2 (by omega))) rfl pm_Mo_isWord lw_11_177 im_Mo_isWord sl_Mo_isWord rfl rfl rfl (rcOK hk52 rfl) (by decide) ?_
                          refine r_if_eq (tgt := 283) rfl (by decide) (fun hc56 => ?_) (fun hc56 => ?_)
                          · have hE := ifP hc56 hE
                            refine r_aload_n (t := some a0) 0 rfl rfl rfl ?_
                            refine r_ldc2 rfl kc_11_237 ?_
                            obtain ⟨hk57, hE⟩ := ckE hE
                            obtain ⟨v58, h59, hq60, hE⟩ := bdE hE
                            refine r_callV1 (rest := []) (hc := (Mo_isWord_ok g N _ _ _ _ _ hq60 D2 (by omega))) rfl pm_Mo_isWord lw_11_177 im_Mo_isWord sl_Mo_isWord rfl rfl rfl (rcOK hk57 rfl) (by decide) ?_
                            refine r_if_eq (tgt := 300) rfl (by decide) (fun hc61 => ?_) (fun hc61 => ?_)
                            · have hE := ifP hc61 hE
                              refine r_aload_n (t := some a0) 0 rfl rfl rfl ?_
                              refine r_iconst 1 rfl ci_1 ?_
                              obtain ⟨hk62, hE⟩ := ckE hE
                              obtain ⟨v63, h64, hq65, hE⟩ := bdE hE
                              refine r_callV1 (rest := []) (hc := (Mo_fails_ok g N _ _ _ _ _ hq65 D2 (by omega))) rfl pm_Mo_fails lw_11_185 im_Mo_fails sl_Mo_fails rfl rfl rfl (rcOK hk62 rfl) (by decide) ?_
                              first | exact r_sb (Mo_readsAll_b305_ok g N _ hD _ ih  _ _ _ _ _ hE) ⟨rfl, trivial⟩ | exact r_sb (Mo_readsAll_b305_ok g N _ hD _ ih  _ _ _ _ _ hE) (by simp only [su1, su2, dr1_rf, dr1_in, dr1_lo, dr2_rf, dr2_in, dr2_lo]; exact ⟨rfl, trivial⟩)
                            · have hE := ifN hc61 hE
                              refine r_aload_n (t := some a0) 0 rfl rfl rfl ?_
                              obtain ⟨hk66, hE⟩ := ckE hE
                              obtain ⟨v67, h68, hq69, hE⟩ := bdE hE
                              refine r_callV1 (rest := []) (hc := (Mo_readsHabit_ok g N _ _ _ _ hq69 D2 (by omega))) rfl pm_Mo_readsHabit lw_11_299 im_Mo_readsHabit sl_Mo_readsHabit rfl rfl rfl (rcOK hk66 rfl) (by decide) ?_
                              refine r_goto (tgt := 305) rfl (by decide) ?_
                              first | exact r_sb (Mo_readsAll_b305_ok g N _ hD _ ih  _ _ _ _ _ hE) ⟨rfl, trivial⟩ | exact r_sb (Mo_readsAll_b305_ok g N _ hD _ ih  _ _ _ _ _ hE) (by simp only [su1, su2, dr1_rf, dr1_in, dr1_lo, dr2_rf, dr2_in, dr2_lo]; exact ⟨rfl, trivial⟩)
                          · have hE := ifN hc56 hE
                            refine r_aload_n (t := some a0) 0 rfl rfl rfl ?_
                            obtain ⟨hk70, hE⟩ := ckE hE
                            obtain ⟨v71, h72, hq73, hE⟩ := bdE hE
                            refine r_callV1 (rest := []) (hc := (Mo_readsCalls_ok g N _ _ _ _ hq73 D2 (by omega))) rfl pm_Mo_readsCalls lw_11_296 im_Mo_readsCalls sl_Mo_readsCalls rfl rfl rfl (rcOK hk70 rfl) (by decide) ?_
                            refine r_goto (tgt := 305) rfl (by decide) ?_
                            first | exact r_sb (Mo_readsAll_b305_ok g N _ hD _ ih  _ _ _ _ _ hE) ⟨rfl, trivial⟩ | exact r_sb (Mo_readsAll_b305_ok g N _ hD _ ih  _ _ _ _ _ hE) (by simp only [su1, su2, dr1_rf, dr1_in, dr1_lo, dr2_rf, dr2_in, dr2_lo]; exact ⟨rfl, trivial⟩)
                        · have hE := ifN hc51 hE
                          refine r_aload_n (t := some a0) 0 rfl rfl rfl ?_
                          refine r_bipush 14 rfl cb_14 ?_
                          refine r_iconst 0 rfl ci_0 ?_
                          refine r_bipush 10 rfl cb_10 ?_
                          obtain ⟨hk74, hE⟩ := ckE hE
                          obtain ⟨v75, h76, hq77, hE⟩ := bdE hE
                          refine r_callV1 (rest := []) (hc := (Mo_readsOne_ok g N _ _ _ _ _ _ _ hq77 D2 (by omega))) rfl pm_Mo_readsOne lw_11_284 im_Mo_readsOne sl_Mo_readsOne rfl rfl rfl (rcOK hk74 rfl) (by decide) ?_
                          refine r_goto (tgt := 305) rfl (by decide) ?_
                          first | exact r_sb (Mo_readsAll_b305_ok g N _ hD _ ih  _ _ _ _ _ hE) ⟨rfl, trivial⟩ | exact r_sb (Mo_readsAll_b305_ok g N _ hD _ ih  _ _ _ _ _ hE) (by simp only [su1, su2, dr1_rf, dr1_in, dr1_lo, dr2_rf, dr2_in, dr2_lo]; exact ⟨rfl, trivial⟩)
                      · have hE := ifN hc46 hE
                        refine r_aload_n (t := some a0) 0 rfl rfl rfl ?_
                        refine r_bipush 13 rfl cb_13 ?_
                        refine r_iconst 0 rfl ci_0 ?_
                        refine r_bipush 10 rfl cb_10 ?_
                        obtain ⟨hk78, hE⟩ := ckE hE
                        obtain ⟨v79, h80, hq81, hE⟩ := bdE hE
                        refine r_callV1 (rest := []) (hc := (Mo_readsOne_ok g N _ _ _ _ _ _ _ hq81 D2 (by omega))) rfl pm_Mo_readsOne lw_11_284 im_Mo_readsOne sl_Mo_readsOne rfl rfl rfl (rcOK hk78 rfl) (by decide) ?_
                        refine r_goto (tgt := 305) rfl (by decide) ?_
                        first | exact r_sb (Mo_readsAll_b305_ok g N _ hD _ ih  _ _ _ _ _ hE) ⟨rfl, trivial⟩ | exact r_sb (Mo_readsAll_b305_ok g N _ hD _ ih  _ _ _ _ _ hE) (by simp only [su1, su2, dr1_rf, dr1_in, dr1_lo, dr2_rf, dr2_in, dr2_lo]; exact ⟨rfl, trivial⟩)
                    · have hE := ifN hc41 hE
                      refine r_aload_n (t := some a0) 0 rfl rfl rfl ?_
                      refine r_bipush 12 rfl cb_12 ?_
                      refine r_iconst 0 rfl ci_0 ?_
                      refine r_bipush 99 rfl cb_99 ?_
                      obtain ⟨hk82, hE⟩ := ckE hE
                      obtain ⟨v83, h84, hq85, hE⟩ := bdE hE
                      refine r_callV1 (rest := []) (hc := (Mo_readsOne_ok g N _ _ _ _ _ _ _ hq85 D2 (by omega))) rfl pm_Mo_readsOne lw_11_284 im_Mo_readsOne sl_Mo_readsOne rfl rfl rfl (rcOK hk82 rfl) (by decide) ?_
                      refine r_goto (tgt := 305) rfl (by decide) ?_
                      first | exact r_sb (Mo_readsAll_b305_ok g N _ hD _ ih  _ _ _ _ _ hE) ⟨rfl, trivial⟩ | exact r_sb (Mo_readsAll_b305_ok g N _ hD _ ih  _ _ _ _ _ hE) (by simp only [su1, su2, dr1_rf, dr1_in, dr1_lo, dr2_rf, dr2_in, dr2_lo]; exact ⟨rfl, trivial⟩)
                  · have hE := ifN hc36 hE
                    refine r_aload_n (t := some a0) 0 rfl rfl rfl ?_
                    refine r_bipush 11 rfl cb_11 ?_
                    refine r_iconst 1 rfl ci_1 ?_
                    refine r_iconst 3 rfl ci_3 ?_
                    obtain ⟨hk86, hE⟩ := ckE hE
                    obtain ⟨v87, h88, hq89, hE⟩ := bdE hE
                    refine r_callV1 (rest := []) (hc := (Mo_readsOne_ok g N _ _ _ _ _ _ _ hq89 D2 (by omega))) rfl pm_Mo_readsOne lw_11_284 im_Mo_readsOne sl_Mo_readsOne rfl rfl rfl (rcOK hk86 rfl) (by decide) ?_
                    refine r_goto (tgt := 305) rfl (by decide) ?_
                    first | exact r_sb (Mo_readsAll_b305_ok g N _ hD _ ih  _ _ _ _ _ hE) ⟨rfl, trivial⟩ | exact r_sb (Mo_readsAll_b305_ok g N _ hD _ ih  _ _ _ _ _ hE) (by simp only [su1, su2, dr1_rf, dr1_in, dr1_lo, dr2_rf, dr2_in, dr2_lo]; exact ⟨rfl, trivial⟩)
                · have hE := ifN hc31 hE
                  refine r_aload_n (t := some a0) 0 rfl rfl rfl ?_
                  obtain ⟨hk90, hE⟩ := ckE hE
                  obtain ⟨v91, h92, hq93, hE⟩ := bdE hE
                  refine r_callV1 (rest := []) (hc := (Mo_readsEggs_ok g N _ _ _ _ hq93 D2 (by omega))) rfl pm_Mo_readsEggs lw_11_293 im_Mo_readsEggs sl_Mo_readsEggs rfl rfl rfl (rcOK hk90 rfl) (by decide) ?_
                  refine r_goto (tgt := 305) rfl (by decide) ?_
                  first | exact r_sb (Mo_readsAll_b305_ok g N _ hD _ ih  _ _ _ _ _ hE) ⟨rfl, trivial⟩ | exact r_sb (Mo_readsAll_b305_ok g N _ hD _ ih  _ _ _ _ _ hE) (by simp only [su1, su2, dr1_rf, dr1_in, dr1_lo, dr2_rf, dr2_in, dr2_lo]; exact ⟨rfl, trivial⟩)
              · have hE := ifN hc26 hE
                refine r_aload_n (t := some a0) 0 rfl rfl rfl ?_
                refine r_bipush 8 rfl cb_8 ?_
                refine r_iconst 0 rfl ci_0 ?_
                refine r_bipush 99 rfl cb_99 ?_
                obtain ⟨hk94, hE⟩ := ckE hE
                obtain ⟨v95, h96, hq97, hE⟩ := bdE hE
                refine r_callV1 (rest := []) (hc := (Mo_readsOne_ok g N _ _ _ _ _ _ _ hq97 D2 (by omega))) rfl pm_Mo_readsOne lw_11_284 im_Mo_readsOne sl_Mo_readsOne rfl rfl rfl (rcOK hk94 rfl) (by decide) ?_
                refine r_goto (tgt := 305) rfl (by decide) ?_
                first | exact r_sb (Mo_readsAll_b305_ok g N _ hD _ ih  _ _ _ _ _ hE) ⟨rfl, trivial⟩ | exact r_sb (Mo_readsAll_b305_ok g N _ hD _ ih  _ _ _ _ _ hE) (by simp only [su1, su2, dr1_rf, dr1_in, dr1_lo, dr2_rf, dr2_in, dr2_lo]; exact ⟨rfl, trivial⟩)
            · have hE := ifN hc21 hE
              refine r_aload_n (t := some a0) 0 rfl rfl rfl ?_
              refine r_bipush 7 rfl cb_7 ?_
              refine r_iconst 0 rfl ci_0 ?_
              refine r_bipush 99 rfl cb_99 ?_
              obtain ⟨hk98, hE⟩ := ckE hE
              obtain ⟨v99, h100, hq101, hE⟩ := bdE hE
              refine r_callV1 (rest := []) (hc := (Mo_readsOne_ok g N _ _ _ _ _ _ _ hq101 D2 (by omega))) rfl pm_Mo_readsOne lw_11_284 im_Mo_readsOne sl_Mo_readsOne rfl rfl rfl (rcOK hk98 rfl) (by decide) ?_
              refine r_goto (tgt := 305) rfl (by decide) ?_
              first | exact r_sb (Mo_readsAll_b305_ok g N _ hD _ ih  _ _ _ _ _ hE) ⟨rfl, trivial⟩ | exact r_sb (Mo_readsAll_b305_ok g N _ hD _ ih  _ _ _ _ _ hE) (by simp only [su1, su2, dr1_rf, dr1_in, dr1_lo, dr2_rf, dr2_in, dr2_lo]; exact ⟨rfl, trivial⟩)
          · have hE := ifN hc16 hE
            refine r_aload_n (t := some a0) 0 rfl rfl rfl ?_
            obtain ⟨hk102, hE⟩ := ckE hE
            obtain ⟨v103, h104, hq105, hE⟩ := bdE hE
            refine r_callV1 (rest := []) (hc := (Mo_readsWorths_ok g N _ _ _ _ hq105 D2 (by omega))) rfl pm_Mo_readsWorths lw_11_290 im_Mo_readsWorths sl_Mo_readsWorths rfl rfl rfl (rcOK hk102 rfl) (by decide) ?_
            refine r_goto (tgt := 305) rfl (by decide) ?_
            first | exact r_sb (Mo_readsAll_b305_ok g N _ hD _ ih  _ _ _ _ _ hE) ⟨rfl, trivial⟩ | exact r_sb (Mo_readsAll_b305_ok g N _ hD _ ih  _ _ _ _ _ hE) (by simp only [su1, su2, dr1_rf, dr1_in, dr1_lo, dr2_rf, dr2_in, dr2_lo]; exact ⟨rfl, trivial⟩)
        · have hE := ifN hc11 hE
          refine r_aload_n (t := some a0) 0 rfl rfl rfl ?_
          obtain ⟨hk106, hE⟩ := ckE hE
          obtain ⟨v107, h108, hq109, hE⟩ := bdE hE
          refine r_callV1 (rest := []) (hc := (Mo_readsApples_ok g N _ _ _ _ hq109 D2 (by omega))) rfl pm_Mo_readsApples lw_11_287 im_Mo_readsApples sl_Mo_readsApples rfl rfl rfl (rcOK hk106 rfl) (by decide) ?_
          refine r_goto (tgt := 305) rfl (by decide) ?_
          first | exact r_sb (Mo_readsAll_b305_ok g N _ hD _ ih  _ _ _ _ _ hE) ⟨rfl, trivial⟩ | exact r_sb (Mo_readsAll_b305_ok g N _ hD _ ih  _ _ _ _ _ hE) (by simp only [su1, su2, dr1_rf, dr1_in, dr1_lo, dr2_rf, dr2_in, dr2_lo]; exact ⟨rfl, trivial⟩)
      · have hE := ifN hc6 hE
        refine r_aload_n (t := some a0) 0 rfl rfl rfl ?_
        refine r_iconst 1 rfl ci_1 ?_
        refine r_iconst 0 rfl ci_0 ?_
        refine r_bipush 120 rfl cb_120 ?_
        obtain ⟨hk110, hE⟩ := ckE hE
        obtain ⟨v111, h112, hq113, hE⟩ := bdE hE
        refine r_callV1 (rest := []) (hc := (Mo_readsOne_ok g N _ _ _ _ _ _ _ hq113 D2 (by omega))) rfl pm_Mo_readsOne lw_11_284 im_Mo_readsOne sl_Mo_readsOne rfl rfl rfl (rcOK hk110 rfl) (by decide) ?_
        refine r_goto (tgt := 305) rfl (by decide) ?_
        first | exact r_sb (Mo_readsAll_b305_ok g N _ hD _ ih  _ _ _ _ _ hE) ⟨rfl, trivial⟩ | exact r_sb (Mo_readsAll_b305_ok g N _ hD _ ih  _ _ _ _ _ hE) (by simp only [su1, su2, dr1_rf, dr1_in, dr1_lo, dr2_rf, dr2_in, dr2_lo]; exact ⟨rfl, trivial⟩)
def Mo_readsAll (N : Nat) (a0 : Nat) (h : PH) : Option (Bool × PH) :=
  ck ((hK h a0).1 = 11) <|
  bd (Mo_plain N a0 1 h) fun v2 h3 =>
  ck ((hK h3 a0).1 = 11) <|
  lt0 (wI h3 a0 18 0) fun h6 =>
  lt0 (wI h6 a0 17 1000) fun h8 =>
  bd (Mo_starts N a0 h8) fun v10 h11 =>
  ck ((hK h11 a0).1 = 11) <|
  bd (Mo_needsBoth N a0 4562600 1 24 h11) fun v14 h15 =>
  if (bI v14) = 0 then
    some (false, h15)
  else
    ck ((hK h15 a0).1 = 11) <|
    ((hR h15 a0 10)).bind fun a_19 =>
    ck ((hK h15 a_19).1 = 20) <|
    ck (inb 18 (hK h15 a_19).2 = true) <|
    lt0 (wI h15 a_19 (ix 18) (hI h15 a0 31)) fun h23 =>
    bd (Mo_closes N a0 h23) fun v25 h26 =>
    if (bI v25) = 0 then
      some (false, h26)
    else
      Mo_readsAll_b56 N N a0 h26
set_option maxRecDepth 20000 in
theorem Mo_readsAll_ok (g : GT) (N : Nat) (a0 : Nat) (h : PH) (v : Bool) (h' : PH) (hE : Mo_readsAll N a0 h = some (v, h')) (D : Nat) (hD : 5 ≤ D) : Calls g D pMo_readsAll [va_rf (some a0)] h (oZ v) h' := by
  refine Calls.of cok_Mo_readsAll ht_Mo_readsAll pl_Mo_readsAll (fun ad => by rw [lg_len, sL_cat]; simp only [List.map_cons, List.map_nil, rf_cat, cat_i, cat_l, List.sum_cons, List.sum_nil]; decide) ?_
  rw [show lv_args 0 [va_rf (some a0)] = [(0, va_rf (some a0))] from (by simp only [lv_args, rf_cat, cat_i, cat_l]; try rfl)]
  obtain ⟨D2, rfl⟩ : ∃ d, D = d + 1 := ⟨D - 1, by omega⟩
  unfold Mo_readsAll at hE
  refine r_aload_n (t := some a0) 0 rfl rfl rfl ?_
  refine r_iconst 1 rfl ci_1 ?_
  obtain ⟨hk1, hE⟩ := ckE hE
  obtain ⟨v2, h3, hq4, hE⟩ := bdE hE
  refine r_callV0 (rest := []) (hc := (Mo_plain_ok g N _ _ _ _ _ hq4 D2 (by omega))) rfl pm_Mo_plain lw_11_112 im_Mo_plain sl_Mo_plain rfl rfl rfl (rcOK hk1 rfl) (by decide) ?_
  refine r_aload_n (t := some a0) 0 rfl rfl rfl ?_
  refine r_iconst 0 rfl ci_0 ?_
  obtain ⟨hk5, hE⟩ := ckE hE
  obtain ⟨h6, he7, hE⟩ := ltE hE
  refine r_putI rfl (fl_11_261 rfl) finF rfl hk5 he7 ?_
  refine r_aload_n (t := some a0) 0 rfl rfl rfl ?_
  refine r_sipush 1000 rfl cs_1000 ?_
  obtain ⟨h8, he9, hE⟩ := ltE hE
  refine r_putI rfl (fl_11_158 rfl) finF rfl (kwI he7 hk5) he9 ?_
  refine r_aload_n (t := some a0) 0 rfl rfl rfl ?_
  obtain ⟨v10, h11, hq12, hE⟩ := bdE hE
  refine r_callV0 (rest := []) (hc := (Mo_starts_ok g N _ _ _ _ hq12 D2 (by omega))) rfl pm_Mo_starts lw_11_281 im_Mo_starts sl_Mo_starts rfl rfl rfl (rcOK (kwI he9 (kwI he7 hk5)) rfl) (by decide) ?_
  refine r_aload_n (t := some a0) 0 rfl rfl rfl ?_
  refine r_ldc2 rfl kc_11_207 ?_
  refine r_iconst 1 rfl ci_1 ?_
  refine r_bipush 24 rfl cb_24 ?_
  obtain ⟨hk13, hE⟩ := ckE hE
  obtain ⟨v14, h15, hq16, hE⟩ := bdE hE
  refine r_callV1 (rest := []) (hc := (Mo_needsBoth_ok g N _ _ _ _ _ _ _ hq16 D2 (by omega))) rfl pm_Mo_needsBoth lw_11_271 im_Mo_needsBoth sl_Mo_needsBoth rfl rfl rfl (rcOK hk13 rfl) (by decide) ?_
  refine r_if_ne (tgt := 36) rfl (by decide) (fun hc17 => ?_) (fun hc17 => ?_)
  · have hE := ifP hc17 hE
    refine r_iconst 0 rfl ci_0 ?_
    cases hE
    exact r_ret rfl (Or.inl ⟨rfl, _, _, rfl, rfl, rfl, rfl⟩)
  · have hE := ifN hc17 hE
    refine r_aload_n (t := some a0) 0 rfl rfl rfl ?_
    obtain ⟨hk18, hE⟩ := ckE hE
    refine r_getR rfl (fl_11_13 rfl) (Or.inr ⟨_, rfl⟩) rfl hk18 ?_
    refine r_bipush 18 rfl cb_18 ?_
    refine r_aload_n (t := some a0) 0 rfl rfl rfl ?_
    refine r_getI rfl (fl_11_251 rfl) (Or.inl rfl) rfl hk18 ?_
    obtain ⟨a_19, ha20, hE⟩ := bnE hE
    obtain ⟨hk21, hE⟩ := ckE hE
    obtain ⟨hi22, hE⟩ := ckE hE
    obtain ⟨h23, he24, hE⟩ := ltE hE
    refine r_iast rfl ha20 hk21 hi22 he24 ?_
    refine r_aload_n (t := some a0) 0 rfl rfl rfl ?_
    obtain ⟨v25, h26, hq27, hE⟩ := bdE hE
    refine r_callV1 (rest := []) (hc := (Mo_closes_ok g N _ _ _ _ hq27 D2 (by omega))) rfl pm_Mo_closes lw_11_267 im_Mo_closes sl_Mo_closes rfl rfl rfl (rcOK (kwI he24 hk18) rfl) (by decide) ?_
    refine r_if_ne (tgt := 56) rfl (by decide) (fun hc28 => ?_) (fun hc28 => ?_)
    · have hE := ifP hc28 hE
      refine r_iconst 0 rfl ci_0 ?_
      cases hE
      exact r_ret rfl (Or.inl ⟨rfl, _, _, rfl, rfl, rfl, rfl⟩)
    · have hE := ifN hc28 hE
      first | exact r_sb (Mo_readsAll_b56_ok g N _ hD  N _ _ _ _ hE) ⟨rfl, trivial⟩ | exact r_sb (Mo_readsAll_b56_ok g N _ hD  N _ _ _ _ hE) (by simp only [su1, su2, dr1_rf, dr1_in, dr1_lo, dr2_rf, dr2_in, dr2_lo]; exact ⟨rfl, trivial⟩)
def Mo_lays_b91 (N : Nat) : Nat → Nat → Int32 → PH → Option (Unit × PH)
  | 0 => fun _ _ _ => none
  | n + 1 => fun a0 x1 h =>
    if 4 ≤ x1 then
      some ((), h)
    else
      ck ((hK h a0).1 = 11) <|
      ((hR h a0 14)).bind fun a_3 =>
      ck ((hK h a_3).1 = 20) <|
      ck (inb (4 + x1) (hK h a_3).2 = true) <|
      ck (inb x1 (hK h a_3).2 = true) <|
      lt0 (wI h a_3 (ix x1) ((hI h a_3 (ix (4 + x1))) - 1000)) fun h8 =>
      ((hR h8 a0 15)).bind fun a_10 =>
      ck ((hK h8 a_10).1 = 20) <|
      ck (inb (4 + x1) (hK h8 a_10).2 = true) <|
      ck (inb x1 (hK h8 a_10).2 = true) <|
      lt0 (wI h8 a_10 (ix x1) ((hI h8 a_10 (ix (4 + x1))) - 1000)) fun h15 =>
      (Mo_lays_b91 N n) a0 (x1 + 1) h15
set_option maxRecDepth 20000 in
theorem Mo_lays_b91_ok (g : GT) (N : Nat) (D : Nat) (hD : 0 ≤ D) : ∀ (n : Nat) (a0 : Nat) (x1 : Int32) (h : PH) (v : Unit) (h' : PH), Mo_lays_b91 N n a0 x1 h = some (v, h') → Run g pMo_lays D 91 [(0, va_rf (some a0)), (1, .int x1)] [] h (rV v) h' := by
  intro n
  induction n with
  | zero => exact fun _ _ _ _ _ hE => nomatch (show none = some _ from hE)
  | succ n ih =>
    intro a0 x1 h v h' hE
    unfold Mo_lays_b91 at hE
    refine r_iload_n 1 rfl rfl rfl ?_
    refine r_iconst 4 rfl ci_4 ?_
    refine r_icmp_ge (tgt := 138) rfl (by decide) (fun hc1 => ?_) (fun hc1 => ?_)
    · have hE := ifP hc1 hE
      cases hE
      exact r_ret rfl (Or.inr (Or.inr (Or.inr ⟨rfl, rfl, rfl, rfl⟩)))
    · have hE := ifN hc1 hE
      refine r_aload_n (t := some a0) 0 rfl rfl rfl ?_
      obtain ⟨hk2, hE⟩ := ckE hE
      refine r_getR rfl (fl_11_27 rfl) (Or.inr ⟨_, rfl⟩) rfl hk2 ?_
      refine r_iload_n 1 rfl rfl rfl ?_
      refine r_aload_n (t := some a0) 0 rfl rfl rfl ?_
      refine r_getR rfl (fl_11_27 rfl) (Or.inr ⟨_, rfl⟩) rfl hk2 ?_
      refine r_iconst 4 rfl ci_4 ?_
      refine r_iload_n 1 rfl rfl rfl ?_
      refine r_iadd rfl ?_
      obtain ⟨a_3, ha4, hE⟩ := bnE hE
      obtain ⟨hk5, hE⟩ := ckE hE
      obtain ⟨hi6, hE⟩ := ckE hE
      refine r_iald rfl ha4 hk5 hi6 ?_
      refine r_sipush 1000 rfl cs_1000 ?_
      refine r_isub rfl ?_
      obtain ⟨hi7, hE⟩ := ckE hE
      obtain ⟨h8, he9, hE⟩ := ltE hE
      refine r_iast rfl ha4 hk5 hi7 he9 ?_
      refine r_aload_n (t := some a0) 0 rfl rfl rfl ?_
      refine r_getR rfl (fl_11_30 rfl) (Or.inr ⟨_, rfl⟩) rfl (kwI he9 hk2) ?_
      refine r_iload_n 1 rfl rfl rfl ?_
      refine r_aload_n (t := some a0) 0 rfl rfl rfl ?_
      refine r_getR rfl (fl_11_30 rfl) (Or.inr ⟨_, rfl⟩) rfl (kwI he9 hk2) ?_
      refine r_iconst 4 rfl ci_4 ?_
      refine r_iload_n 1 rfl rfl rfl ?_
      refine r_iadd rfl ?_
      obtain ⟨a_10, ha11, hE⟩ := bnE hE
      obtain ⟨hk12, hE⟩ := ckE hE
      obtain ⟨hi13, hE⟩ := ckE hE
      refine r_iald rfl ha11 hk12 hi13 ?_
      refine r_sipush 1000 rfl cs_1000 ?_
      refine r_isub rfl ?_
      obtain ⟨hi14, hE⟩ := ckE hE
      obtain ⟨h15, he16, hE⟩ := ltE hE
      refine r_iast rfl ha11 hk12 hi14 he16 ?_
      refine r_iinc _ rfl rfl (congrArg _ ci_1) (by decide) ?_
      refine r_goto (tgt := 91) rfl (by decide) ?_
      first | exact r_sb (ih _ _ _ _ _ hE) ⟨rfl, rfl, trivial⟩ | exact r_sb (ih _ _ _ _ _ hE) (by simp only [su1, su2, dr1_rf, dr1_in, dr1_lo, dr2_rf, dr2_in, dr2_lo]; exact ⟨rfl, rfl, trivial⟩)
def Mo_lays_b60 (N : Nat) : Nat → Nat → Int32 → PH → Option (Unit × PH)
  | 0 => fun _ _ _ => none
  | n + 1 => fun a0 x1 h =>
    if 1000 ≤ x1 then
      Mo_lays_b91 N N a0 0 h
    else
      ck ((hK h a0).1 = 11) <|
      ((hR h a0 16)).bind fun a_3 =>
      ck ((hK h a_3).1 = 20) <|
      ck (inb (1000 + x1) (hK h a_3).2 = true) <|
      ck (inb x1 (hK h a_3).2 = true) <|
      lt0 (wI h a_3 (ix x1) (hI h a_3 (ix (1000 + x1)))) fun h8 =>
      (Mo_lays_b60 N n) a0 (x1 + 1) h8
set_option maxRecDepth 20000 in
theorem Mo_lays_b60_ok (g : GT) (N : Nat) (D : Nat) (hD : 0 ≤ D) : ∀ (n : Nat) (a0 : Nat) (x1 : Int32) (h : PH) (v : Unit) (h' : PH), Mo_lays_b60 N n a0 x1 h = some (v, h') → Run g pMo_lays D 60 [(0, va_rf (some a0)), (1, .int x1)] [] h (rV v) h' := by
  intro n
  induction n with
  | zero => exact fun _ _ _ _ _ hE => nomatch (show none = some _ from hE)
  | succ n ih =>
    intro a0 x1 h v h' hE
    unfold Mo_lays_b60 at hE
    refine r_iload_n 1 rfl rfl rfl ?_
    refine r_sipush 1000 rfl cs_1000 ?_
    refine r_icmp_ge (tgt := 89) rfl (by decide) (fun hc1 => ?_) (fun hc1 => ?_)
    · have hE := ifP hc1 hE
      refine r_iconst 0 rfl ci_0 ?_
      refine r_istore_n 1 rfl rfl (by decide) ?_
      first | exact r_sb (Mo_lays_b91_ok g N _ hD  N _ _ _ _ _ hE) ⟨rfl, rfl, trivial⟩ | exact r_sb (Mo_lays_b91_ok g N _ hD  N _ _ _ _ _ hE) (by simp only [su1, su2, dr1_rf, dr1_in, dr1_lo, dr2_rf, dr2_in, dr2_lo]; exact ⟨rfl, rfl, trivial⟩)
    · have hE := ifN hc1 hE
      refine r_aload_n (t := some a0) 0 rfl rfl rfl ?_
      obtain ⟨hk2, hE⟩ := ckE hE
      refine r_getR rfl (fl_11_33 rfl) (Or.inr ⟨_, rfl⟩) rfl hk2 ?_
      refine r_iload_n 1 rfl rfl rfl ?_
      refine r_aload_n (t := some a0) 0 rfl rfl rfl ?_
      refine r_getR rfl (fl_11_33 rfl) (Or.inr ⟨_, rfl⟩) rfl hk2 ?_
      refine r_sipush 1000 rfl cs_1000 ?_
      refine r_iload_n 1 rfl rfl rfl ?_
      refine r_iadd rfl ?_
      obtain ⟨a_3, ha4, hE⟩ := bnE hE
      obtain ⟨hk5, hE⟩ := ckE hE
      obtain ⟨hi6, hE⟩ := ckE hE
      refine r_iald rfl ha4 hk5 hi6 ?_
      obtain ⟨hi7, hE⟩ := ckE hE
      obtain ⟨h8, he9, hE⟩ := ltE hE
      refine r_iast rfl ha4 hk5 hi7 he9 ?_
      refine r_iinc _ rfl rfl (congrArg _ ci_1) (by decide) ?_
      refine r_goto (tgt := 60) rfl (by decide) ?_
      first | exact r_sb (ih _ _ _ _ _ hE) ⟨rfl, rfl, trivial⟩ | exact r_sb (ih _ _ _ _ _ hE) (by simp only [su1, su2, dr1_rf, dr1_in, dr1_lo, dr2_rf, dr2_in, dr2_lo]; exact ⟨rfl, rfl, trivial⟩)
def Mo_lays_b31 (N : Nat) : Nat → Nat → Int32 → PH → Option (Unit × PH)
  | 0 => fun _ _ _ => none
  | n + 1 => fun a0 x1 h =>
    if 96 ≤ x1 then
      Mo_lays_b60 N N a0 0 h
    else
      ck ((hK h a0).1 = 11) <|
      ((hR h a0 11)).bind fun a_3 =>
      ck ((hK h a_3).1 = 20) <|
      ck (inb (96 + x1) (hK h a_3).2 = true) <|
      ck (inb x1 (hK h a_3).2 = true) <|
      lt0 (wI h a_3 (ix x1) (hI h a_3 (ix (96 + x1)))) fun h8 =>
      (Mo_lays_b31 N n) a0 (x1 + 1) h8
set_option maxRecDepth 20000 in
theorem Mo_lays_b31_ok (g : GT) (N : Nat) (D : Nat) (hD : 0 ≤ D) : ∀ (n : Nat) (a0 : Nat) (x1 : Int32) (h : PH) (v : Unit) (h' : PH), Mo_lays_b31 N n a0 x1 h = some (v, h') → Run g pMo_lays D 31 [(0, va_rf (some a0)), (1, .int x1)] [] h (rV v) h' := by
  intro n
  induction n with
  | zero => exact fun _ _ _ _ _ hE => nomatch (show none = some _ from hE)
  | succ n ih =>
    intro a0 x1 h v h' hE
    unfold Mo_lays_b31 at hE
    refine r_iload_n 1 rfl rfl rfl ?_
    refine r_bipush 96 rfl cb_96 ?_
    refine r_icmp_ge (tgt := 58) rfl (by decide) (fun hc1 => ?_) (fun hc1 => ?_)
    · have hE := ifP hc1 hE
      refine r_iconst 0 rfl ci_0 ?_
      refine r_istore_n 1 rfl rfl (by decide) ?_
      first | exact r_sb (Mo_lays_b60_ok g N _ hD  N _ _ _ _ _ hE) ⟨rfl, rfl, trivial⟩ | exact r_sb (Mo_lays_b60_ok g N _ hD  N _ _ _ _ _ hE) (by simp only [su1, su2, dr1_rf, dr1_in, dr1_lo, dr2_rf, dr2_in, dr2_lo]; exact ⟨rfl, rfl, trivial⟩)
    · have hE := ifN hc1 hE
      refine r_aload_n (t := some a0) 0 rfl rfl rfl ?_
      obtain ⟨hk2, hE⟩ := ckE hE
      refine r_getR rfl (fl_11_16 rfl) (Or.inr ⟨_, rfl⟩) rfl hk2 ?_
      refine r_iload_n 1 rfl rfl rfl ?_
      refine r_aload_n (t := some a0) 0 rfl rfl rfl ?_
      refine r_getR rfl (fl_11_16 rfl) (Or.inr ⟨_, rfl⟩) rfl hk2 ?_
      refine r_bipush 96 rfl cb_96 ?_
      refine r_iload_n 1 rfl rfl rfl ?_
      refine r_iadd rfl ?_
      obtain ⟨a_3, ha4, hE⟩ := bnE hE
      obtain ⟨hk5, hE⟩ := ckE hE
      obtain ⟨hi6, hE⟩ := ckE hE
      refine r_iald rfl ha4 hk5 hi6 ?_
      obtain ⟨hi7, hE⟩ := ckE hE
      obtain ⟨h8, he9, hE⟩ := ltE hE
      refine r_iast rfl ha4 hk5 hi7 he9 ?_
      refine r_iinc _ rfl rfl (congrArg _ ci_1) (by decide) ?_
      refine r_goto (tgt := 31) rfl (by decide) ?_
      first | exact r_sb (ih _ _ _ _ _ hE) ⟨rfl, rfl, trivial⟩ | exact r_sb (ih _ _ _ _ _ hE) (by simp only [su1, su2, dr1_rf, dr1_in, dr1_lo, dr2_rf, dr2_in, dr2_lo]; exact ⟨rfl, rfl, trivial⟩)
def Mo_lays_b2 (N : Nat) : Nat → Nat → Int32 → PH → Option (Unit × PH)
  | 0 => fun _ _ _ => none
  | n + 1 => fun a0 x1 h =>
    if 18 ≤ x1 then
      Mo_lays_b31 N N a0 0 h
    else
      ck ((hK h a0).1 = 11) <|
      ((hR h a0 10)).bind fun a_3 =>
      ck ((hK h a_3).1 = 20) <|
      ck (inb (18 + x1) (hK h a_3).2 = true) <|
      ck (inb x1 (hK h a_3).2 = true) <|
      lt0 (wI h a_3 (ix x1) (hI h a_3 (ix (18 + x1)))) fun h8 =>
      (Mo_lays_b2 N n) a0 (x1 + 1) h8
set_option maxRecDepth 20000 in
theorem Mo_lays_b2_ok (g : GT) (N : Nat) (D : Nat) (hD : 0 ≤ D) : ∀ (n : Nat) (a0 : Nat) (x1 : Int32) (h : PH) (v : Unit) (h' : PH), Mo_lays_b2 N n a0 x1 h = some (v, h') → Run g pMo_lays D 2 [(0, va_rf (some a0)), (1, .int x1)] [] h (rV v) h' := by
  intro n
  induction n with
  | zero => exact fun _ _ _ _ _ hE => nomatch (show none = some _ from hE)
  | succ n ih =>
    intro a0 x1 h v h' hE
    unfold Mo_lays_b2 at hE
    refine r_iload_n 1 rfl rfl rfl ?_
    refine r_bipush 18 rfl cb_18 ?_
    refine r_icmp_ge (tgt := 29) rfl (by decide) (fun hc1 => ?_) (fun hc1 => ?_)
    · have hE := ifP hc1 hE
      refine r_iconst 0 rfl ci_0 ?_
      refine r_istore_n 1 rfl rfl (by decide) ?_
      first | exact r_sb (Mo_lays_b31_ok g N _ hD  N _ _ _ _ _ hE) ⟨rfl, rfl, trivial⟩ | exact r_sb (Mo_lays_b31_ok g N _ hD  N _ _ _ _ _ hE) (by simp only [su1, su2, dr1_rf, dr1_in, dr1_lo, dr2_rf, dr2_in, dr2_lo]; exact ⟨rfl, rfl, trivial⟩)
    · have hE := ifN hc1 hE
      refine r_aload_n (t := some a0) 0 rfl rfl rfl ?_
      obtain ⟨hk2, hE⟩ := ckE hE
      refine r_getR rfl (fl_11_13 rfl) (Or.inr ⟨_, rfl⟩) rfl hk2 ?_
      refine r_iload_n 1 rfl rfl rfl ?_
      refine r_aload_n (t := some a0) 0 rfl rfl rfl ?_
      refine r_getR rfl (fl_11_13 rfl) (Or.inr ⟨_, rfl⟩) rfl hk2 ?_
      refine r_bipush 18 rfl cb_18 ?_
      refine r_iload_n 1 rfl rfl rfl ?_
      refine r_iadd rfl ?_
      obtain ⟨a_3, ha4, hE⟩ := bnE hE
      obtain ⟨hk5, hE⟩ := ckE hE
      obtain ⟨hi6, hE⟩ := ckE hE
      refine r_iald rfl ha4 hk5 hi6 ?_
      obtain ⟨hi7, hE⟩ := ckE hE
      obtain ⟨h8, he9, hE⟩ := ltE hE
      refine r_iast rfl ha4 hk5 hi7 he9 ?_
      refine r_iinc _ rfl rfl (congrArg _ ci_1) (by decide) ?_
      refine r_goto (tgt := 2) rfl (by decide) ?_
      first | exact r_sb (ih _ _ _ _ _ hE) ⟨rfl, rfl, trivial⟩ | exact r_sb (ih _ _ _ _ _ hE) (by simp only [su1, su2, dr1_rf, dr1_in, dr1_lo, dr2_rf, dr2_in, dr2_lo]; exact ⟨rfl, rfl, trivial⟩)
def Mo_lays (N : Nat) (a0 : Nat) (h : PH) : Option (Unit × PH) :=
  Mo_lays_b2 N N a0 0 h
set_option maxRecDepth 20000 in
theorem Mo_lays_ok (g : GT) (N : Nat) (a0 : Nat) (h : PH) (v : Unit) (h' : PH) (hE : Mo_lays N a0 h = some (v, h')) (D : Nat) (hD : 0 ≤ D) : Calls g D pMo_lays [va_rf (some a0)] h (oV v) h' := by
  refine Calls.of cok_Mo_lays ht_Mo_lays pl_Mo_lays (fun ad => by rw [lg_len, sL_cat]; simp only [List.map_cons, List.map_nil, rf_cat, cat_i, cat_l, List.sum_cons, List.sum_nil]; decide) ?_
  rw [show lv_args 0 [va_rf (some a0)] = [(0, va_rf (some a0))] from (by simp only [lv_args, rf_cat, cat_i, cat_l]; try rfl)]
  unfold Mo_lays at hE
  refine r_iconst 0 rfl ci_0 ?_
  refine r_istore_n 1 rfl rfl (by decide) ?_
  first | exact r_sb (Mo_lays_b2_ok g N _ hD  N _ _ _ _ _ hE) ⟨rfl, rfl, trivial⟩ | exact r_sb (Mo_lays_b2_ok g N _ hD  N _ _ _ _ _ hE) (by simp only [su1, su2, dr1_rf, dr1_in, dr1_lo, dr2_rf, dr2_in, dr2_lo]; exact ⟨rfl, rfl, trivial⟩)
def Mo_house_b39 (N : Nat) : Nat → Nat → Int32 → PH → Option (Int32 × PH)
  | 0 => fun _ _ _ => none
  | n + 1 => fun a0 x1 h =>
    if 4 ≤ x1 then
      some (0, h)
    else
      ck ((hK h a0).1 = 11) <|
      ((hR h a0 39)).bind fun a_3 =>
      ck ((hK h a_3).1 = 21) <|
      ck (inb x1 (hK h a_3).2 = true) <|
      lt0 (wZ h a_3 (ix x1) (tb 0)) fun h7 =>
      (Mo_house_b39 N n) a0 (x1 + 1) h7
set_option maxRecDepth 20000 in
theorem Mo_house_b39_ok (g : GT) (N : Nat) (D : Nat) (hD : 6 ≤ D) : ∀ (n : Nat) (a0 : Nat) (x1 : Int32) (h : PH) (v : Int32) (h' : PH), Mo_house_b39 N n a0 x1 h = some (v, h') → Run g pMo_house D 39 [(0, va_rf (some a0)), (1, .int x1)] [] h (rI v) h' := by
  obtain ⟨D2, rfl⟩ : ∃ d, D = d + 1 := ⟨D - 1, by omega⟩
  intro n
  induction n with
  | zero => exact fun _ _ _ _ _ hE => nomatch (show none = some _ from hE)
  | succ n ih =>
    intro a0 x1 h v h' hE
    unfold Mo_house_b39 at hE
    refine r_iload_n 1 rfl rfl rfl ?_
    refine r_iconst 4 rfl ci_4 ?_
    refine r_icmp_ge (tgt := 57) rfl (by decide) (fun hc1 => ?_) (fun hc1 => ?_)
    · have hE := ifP hc1 hE
      refine r_iconst 0 rfl ci_0 ?_
      cases hE
      exact r_ret rfl (Or.inl ⟨rfl, _, _, rfl, rfl, rfl, rfl⟩)
    · have hE := ifN hc1 hE
      refine r_aload_n (t := some a0) 0 rfl rfl rfl ?_
      obtain ⟨hk2, hE⟩ := ckE hE
      refine r_getR rfl (fl_11_93 rfl) (Or.inr ⟨_, rfl⟩) rfl hk2 ?_
      refine r_iload_n 1 rfl rfl rfl ?_
      refine r_iconst 0 rfl ci_0 ?_
      obtain ⟨a_3, ha4, hE⟩ := bnE hE
      obtain ⟨hk5, hE⟩ := ckE hE
      obtain ⟨hi6, hE⟩ := ckE hE
      obtain ⟨h7, he8, hE⟩ := ltE hE
      refine r_zast rfl ha4 hk5 hi6 rfl he8 ?_
      refine r_iinc _ rfl rfl (congrArg _ ci_1) (by decide) ?_
      refine r_goto (tgt := 39) rfl (by decide) ?_
      first | exact r_sb (ih _ _ _ _ _ hE) ⟨rfl, rfl, trivial⟩ | exact r_sb (ih _ _ _ _ _ hE) (by simp only [su1, su2, dr1_rf, dr1_in, dr1_lo, dr2_rf, dr2_in, dr2_lo]; exact ⟨rfl, rfl, trivial⟩)
def Mo_house (N : Nat) (a0 : Nat) (h : PH) : Option (Int32 × PH) :=
  ck ((hK h a0).1 = 11) <|
  lt0 (wI h a0 0 0) fun h2 =>
  bd (Mo_readsAll N a0 h2) fun v4 h5 =>
  if (bI v4) = 0 then
    ck ((hK h5 a0).1 = 11) <|
    some ((hI h5 a0 9), h5)
  else
    ck ((hK h5 a0).1 = 11) <|
    bd (Mo_lays N a0 h5) fun v10 h11 =>
    ck ((hK h11 a0).1 = 11) <|
    bd (Mo_fresh N a0 h11) fun v14 h15 =>
    ck ((hK h15 a0).1 = 11) <|
    ((hR h15 a0 32)).bind fun a_18 =>
    ck ((hK h15 a_18).1 = 20) <|
    ck (inb 0 (hK h15 a_18).2 = true) <|
    lt0 (wI h15 a_18 (ix 0) 0) fun h22 =>
    lt0 (wI h22 a0 40 0) fun h24 =>
    Mo_house_b39 N N a0 0 h24
set_option maxRecDepth 20000 in
theorem Mo_house_ok (g : GT) (N : Nat) (a0 : Nat) (h : PH) (v : Int32) (h' : PH) (hE : Mo_house N a0 h = some (v, h')) (D : Nat) (hD : 6 ≤ D) : Calls g D pMo_house [va_rf (some a0)] h (oI v) h' := by
  refine Calls.of cok_Mo_house ht_Mo_house pl_Mo_house (fun ad => by rw [lg_len, sL_cat]; simp only [List.map_cons, List.map_nil, rf_cat, cat_i, cat_l, List.sum_cons, List.sum_nil]; decide) ?_
  rw [show lv_args 0 [va_rf (some a0)] = [(0, va_rf (some a0))] from (by simp only [lv_args, rf_cat, cat_i, cat_l]; try rfl)]
  obtain ⟨D2, rfl⟩ : ∃ d, D = d + 1 := ⟨D - 1, by omega⟩
  unfold Mo_house at hE
  refine r_aload_n (t := some a0) 0 rfl rfl rfl ?_
  refine r_iconst 0 rfl ci_0 ?_
  obtain ⟨hk1, hE⟩ := ckE hE
  obtain ⟨h2, he3, hE⟩ := ltE hE
  refine r_putI rfl (fl_11_119 rfl) finF rfl hk1 he3 ?_
  refine r_aload_n (t := some a0) 0 rfl rfl rfl ?_
  obtain ⟨v4, h5, hq6, hE⟩ := bdE hE
  refine r_callV1 (rest := []) (hc := (Mo_readsAll_ok g N _ _ _ _ hq6 D2 (by omega))) rfl pm_Mo_readsAll lw_11_303 im_Mo_readsAll sl_Mo_readsAll rfl rfl rfl (rcOK (kwI he3 hk1) rfl) (by decide) ?_
  refine r_if_ne (tgt := 17) rfl (by decide) (fun hc7 => ?_) (fun hc7 => ?_)
  · have hE := ifP hc7 hE
    refine r_aload_n (t := some a0) 0 rfl rfl rfl ?_
    obtain ⟨hk8, hE⟩ := ckE hE
    refine r_getI rfl (fl_11_155 rfl) (Or.inl rfl) rfl hk8 ?_
    cases hE
    exact r_ret rfl (Or.inl ⟨rfl, _, _, rfl, rfl, rfl, rfl⟩)
  · have hE := ifN hc7 hE
    refine r_aload_n (t := some a0) 0 rfl rfl rfl ?_
    obtain ⟨hk9, hE⟩ := ckE hE
    obtain ⟨v10, h11, hq12, hE⟩ := bdE hE
    refine r_callV0 (rest := []) (hc := (Mo_lays_ok g N _ _ _ _ hq12 D2 (by omega))) rfl pm_Mo_lays lw_11_306 im_Mo_lays sl_Mo_lays rfl rfl rfl (rcOK hk9 rfl) (by decide) ?_
    refine r_aload_n (t := some a0) 0 rfl rfl rfl ?_
    obtain ⟨hk13, hE⟩ := ckE hE
    obtain ⟨v14, h15, hq16, hE⟩ := bdE hE
    refine r_callV0 (rest := []) (hc := (Mo_fresh_ok g N _ _ _ _ hq16 D2 (by omega))) rfl pm_Mo_fresh lw_11_116 im_Mo_fresh sl_Mo_fresh rfl rfl rfl (rcOK hk13 rfl) (by decide) ?_
    refine r_aload_n (t := some a0) 0 rfl rfl rfl ?_
    obtain ⟨hk17, hE⟩ := ckE hE
    refine r_getR rfl (fl_11_72 rfl) (Or.inr ⟨_, rfl⟩) rfl hk17 ?_
    refine r_iconst 0 rfl ci_0 ?_
    refine r_iconst 0 rfl ci_0 ?_
    obtain ⟨a_18, ha19, hE⟩ := bnE hE
    obtain ⟨hk20, hE⟩ := ckE hE
    obtain ⟨hi21, hE⟩ := ckE hE
    obtain ⟨h22, he23, hE⟩ := ltE hE
    refine r_iast rfl ha19 hk20 hi21 he23 ?_
    refine r_aload_n (t := some a0) 0 rfl rfl rfl ?_
    refine r_iconst 0 rfl ci_0 ?_
    obtain ⟨h24, he25, hE⟩ := ltE hE
    refine r_putI rfl (fl_11_309 rfl) finF rfl (kwI he23 hk17) he25 ?_
    refine r_iconst 0 rfl ci_0 ?_
    refine r_istore_n 1 rfl rfl (by decide) ?_
    first | exact r_sb (Mo_house_b39_ok g N _ hD  N _ _ _ _ _ hE) ⟨rfl, rfl, trivial⟩ | exact r_sb (Mo_house_b39_ok g N _ hD  N _ _ _ _ _ hE) (by simp only [su1, su2, dr1_rf, dr1_in, dr1_lo, dr2_rf, dr2_in, dr2_lo]; exact ⟨rfl, rfl, trivial⟩)
def Mo_readsLine_b124 (N : Nat) (a0 : Nat) (x1 : Int32) (h : PH) : Option (Bool × PH) :=
  ck ((hK h a0).1 = 11) <|
  ((hR h a0 32)).bind fun a_2 =>
  ck ((hK h a_2).1 = 20) <|
  ck (inb 5 (hK h a_2).2 = true) <|
  ((hR h a0 33)).bind fun a_6 =>
  ck ((hK h a_6).1 = 20) <|
  ck (inb (300 + (hI h a_2 (ix 5))) (hK h a_6).2 = true) <|
  lt0 (wI h a_6 (ix (300 + (hI h a_2 (ix 5)))) x1) fun h10 =>
  ((hR h10 a0 32)).bind fun a_12 =>
  ck ((hK h10 a_12).1 = 20) <|
  ck (inb 5 (hK h10 a_12).2 = true) <|
  ck (inb 5 (hK h10 a_12).2 = true) <|
  lt0 (wI h10 a_12 (ix 5) ((hI h10 a_12 (ix 5)) + 1)) fun h17 =>
  bd (Mo_closes N a0 h17) fun v19 h20 =>
  some (v19, h20)
set_option maxRecDepth 20000 in
theorem Mo_readsLine_b124_ok (g : GT) (N : Nat) (D : Nat) (hD : 3 ≤ D) : ∀ (a0 : Nat) (x1 : Int32) (h : PH) (v : Bool) (h' : PH), Mo_readsLine_b124 N a0 x1 h = some (v, h') → Run g pMo_readsLine D 124 [(0, va_rf (some a0)), (1, .int x1)] [] h (rZ v) h' := by
  obtain ⟨D2, rfl⟩ : ∃ d, D = d + 1 := ⟨D - 1, by omega⟩
  intro a0 x1 h v h' hE
  unfold Mo_readsLine_b124 at hE
  refine r_aload_n (t := some a0) 0 rfl rfl rfl ?_
  obtain ⟨hk1, hE⟩ := ckE hE
  refine r_getR rfl (fl_11_75 rfl) (Or.inr ⟨_, rfl⟩) rfl hk1 ?_
  refine r_sipush 300 rfl cs_300 ?_
  refine r_aload_n (t := some a0) 0 rfl rfl rfl ?_
  refine r_getR rfl (fl_11_72 rfl) (Or.inr ⟨_, rfl⟩) rfl hk1 ?_
  refine r_iconst 5 rfl ci_5 ?_
  obtain ⟨a_2, ha3, hE⟩ := bnE hE
  obtain ⟨hk4, hE⟩ := ckE hE
  obtain ⟨hi5, hE⟩ := ckE hE
  refine r_iald rfl ha3 hk4 hi5 ?_
  refine r_iadd rfl ?_
  refine r_iload_n 1 rfl rfl rfl ?_
  obtain ⟨a_6, ha7, hE⟩ := bnE hE
  obtain ⟨hk8, hE⟩ := ckE hE
  obtain ⟨hi9, hE⟩ := ckE hE
  obtain ⟨h10, he11, hE⟩ := ltE hE
  refine r_iast rfl ha7 hk8 hi9 he11 ?_
  refine r_aload_n (t := some a0) 0 rfl rfl rfl ?_
  refine r_getR rfl (fl_11_72 rfl) (Or.inr ⟨_, rfl⟩) rfl (kwI he11 hk1) ?_
  refine r_iconst 5 rfl ci_5 ?_
  refine r_dup2 rfl rfl (rf_cat _) ?_
  obtain ⟨a_12, ha13, hE⟩ := bnE hE
  obtain ⟨hk14, hE⟩ := ckE hE
  obtain ⟨hi15, hE⟩ := ckE hE
  refine r_iald rfl ha13 hk14 hi15 ?_
  refine r_iconst 1 rfl ci_1 ?_
  refine r_iadd rfl ?_
  obtain ⟨hi16, hE⟩ := ckE hE
  obtain ⟨h17, he18, hE⟩ := ltE hE
  refine r_iast rfl ha13 hk14 hi16 he18 ?_
  refine r_aload_n (t := some a0) 0 rfl rfl rfl ?_
  obtain ⟨v19, h20, hq21, hE⟩ := bdE hE
  refine r_callV1 (rest := []) (hc := (Mo_closes_ok g N _ _ _ _ hq21 D2 (by omega))) rfl pm_Mo_closes lw_11_267 im_Mo_closes sl_Mo_closes rfl rfl rfl (rcOK (kwI he18 (kwI he11 hk1)) rfl) (by decide) ?_
  cases hE
  exact r_ret rfl (Or.inl ⟨rfl, _, _, rfl, by first | rfl | rw [rZ, oZ, bI_tb (isB_bI _)], rfl, nar_B (isB_bI _)⟩)
def Mo_readsLine_b57 (N : Nat) (s0 : Int32) (a0 : Nat) (h : PH) : Option (Bool × PH) :=
  if 0 ≤ s0 then
    ck ((hK h a0).1 = 11) <|
    ((hR h a0 32)).bind fun a_3 =>
    ck ((hK h a_3).1 = 20) <|
    ck (inb 5 (hK h a_3).2 = true) <|
    if (hI h a_3 (ix 5)) = 60 then
      bd (Mo_fails N a0 5 h) fun v8 h9 =>
      some (v8, h9)
    else
      bd (Mo_nextToken N a0 h) fun v11 h12 =>
      if 2 ≤ s0 then
        Mo_readsLine_b124 N  a0 s0 h12
      else
        ck ((hK h12 a0).1 = 11) <|
        bd (Mo_needsNumber N a0 0 4 h12) fun v16 h17 =>
        if (bI v16) = 0 then
          some (false, h17)
        else
          ck ((hK h17 a0).1 = 11) <|
          ((hR h17 a0 32)).bind fun a_21 =>
          ck ((hK h17 a_21).1 = 20) <|
          ck (inb 5 (hK h17 a_21).2 = true) <|
          ((hR h17 a0 34)).bind fun a_25 =>
          ck ((hK h17 a_25).1 = 20) <|
          ck (inb (300 + (hI h17 a_21 (ix 5))) (hK h17 a_25).2 = true) <|
          lt0 (wI h17 a_25 (ix (300 + (hI h17 a_21 (ix 5)))) (hI h17 a0 31)) fun h29 =>
          Mo_readsLine_b124 N  a0 s0 h29
  else
    ck ((hK h a0).1 = 11) <|
    bd (Mo_fails N a0 1 h) fun v32 h33 =>
    some (v32, h33)
set_option maxRecDepth 20000 in
theorem Mo_readsLine_b57_ok (g : GT) (N : Nat) (D : Nat) (hD : 3 ≤ D) : ∀ (s0 : Int32) (a0 : Nat) (h : PH) (v : Bool) (h' : PH), Mo_readsLine_b57 N s0 a0 h = some (v, h') → Run g pMo_readsLine D 57 [(0, va_rf (some a0))] [.int s0] h (rZ v) h' := by
  obtain ⟨D2, rfl⟩ : ∃ d, D = d + 1 := ⟨D - 1, by omega⟩
  intro s0 a0 h v h' hE
  unfold Mo_readsLine_b57 at hE
  refine r_istore_n 1 rfl rfl (by decide) ?_
  refine r_iload_n 1 rfl rfl rfl ?_
  refine r_if_ge (tgt := 68) rfl (by decide) (fun hc1 => ?_) (fun hc1 => ?_)
  · have hE := ifP hc1 hE
    refine r_aload_n (t := some a0) 0 rfl rfl rfl ?_
    obtain ⟨hk2, hE⟩ := ckE hE
    refine r_getR rfl (fl_11_72 rfl) (Or.inr ⟨_, rfl⟩) rfl hk2 ?_
    refine r_iconst 5 rfl ci_5 ?_
    obtain ⟨a_3, ha4, hE⟩ := bnE hE
    obtain ⟨hk5, hE⟩ := ckE hE
    obtain ⟨hi6, hE⟩ := ckE hE
    refine r_iald rfl ha4 hk5 hi6 ?_
    refine r_bipush 60 rfl cb_60 ?_
    refine r_icmp_ne (tgt := 85) rfl (by decide) (fun hc7 => ?_) (fun hc7 => ?_)
    · have hE := ifP hc7 hE
      refine r_aload_n (t := some a0) 0 rfl rfl rfl ?_
      refine r_iconst 5 rfl ci_5 ?_
      obtain ⟨v8, h9, hq10, hE⟩ := bdE hE
      refine r_callV1 (rest := []) (hc := (Mo_fails_ok g N _ _ _ _ _ hq10 D2 (by omega))) rfl pm_Mo_fails lw_11_185 im_Mo_fails sl_Mo_fails rfl rfl rfl (rcOK hk2 rfl) (by decide) ?_
      cases hE
      exact r_ret rfl (Or.inl ⟨rfl, _, _, rfl, by first | rfl | rw [rZ, oZ, bI_tb (isB_bI _)], rfl, nar_B (isB_bI _)⟩)
    · have hE := ifN hc7 hE
      refine r_aload_n (t := some a0) 0 rfl rfl rfl ?_
      obtain ⟨v11, h12, hq13, hE⟩ := bdE hE
      refine r_callV0 (rest := []) (hc := (Mo_nextToken_ok g N _ _ _ _ hq13 D2 (by omega))) rfl pm_Mo_nextToken lw_11_191 im_Mo_nextToken sl_Mo_nextToken rfl rfl rfl (rcOK hk2 rfl) (by decide) ?_
      refine r_iload_n 1 rfl rfl rfl ?_
      refine r_iconst 2 rfl ci_2 ?_
      refine r_icmp_ge (tgt := 124) rfl (by decide) (fun hc14 => ?_) (fun hc14 => ?_)
      · have hE := ifP hc14 hE
        first | exact r_sb (Mo_readsLine_b124_ok g N _ hD   _ _ _ _ _ hE) ⟨rfl, rfl, trivial⟩ | exact r_sb (Mo_readsLine_b124_ok g N _ hD   _ _ _ _ _ hE) (by simp only [su1, su2, dr1_rf, dr1_in, dr1_lo, dr2_rf, dr2_in, dr2_lo]; exact ⟨rfl, rfl, trivial⟩)
      · have hE := ifN hc14 hE
        refine r_aload_n (t := some a0) 0 rfl rfl rfl ?_
        refine r_iconst 0 rfl ci_0 ?_
        refine r_iconst 4 rfl ci_4 ?_
        obtain ⟨hk15, hE⟩ := ckE hE
        obtain ⟨v16, h17, hq18, hE⟩ := bdE hE
        refine r_callV1 (rest := []) (hc := (Mo_needsNumber_ok g N _ _ _ _ _ _ hq18 D2 (by omega))) rfl pm_Mo_needsNumber lw_11_257 im_Mo_needsNumber sl_Mo_needsNumber rfl rfl rfl (rcOK hk15 rfl) (by decide) ?_
        refine r_if_ne (tgt := 105) rfl (by decide) (fun hc19 => ?_) (fun hc19 => ?_)
        · have hE := ifP hc19 hE
          refine r_iconst 0 rfl ci_0 ?_
          cases hE
          exact r_ret rfl (Or.inl ⟨rfl, _, _, rfl, rfl, rfl, rfl⟩)
        · have hE := ifN hc19 hE
          refine r_aload_n (t := some a0) 0 rfl rfl rfl ?_
          obtain ⟨hk20, hE⟩ := ckE hE
          refine r_getR rfl (fl_11_78 rfl) (Or.inr ⟨_, rfl⟩) rfl hk20 ?_
          refine r_sipush 300 rfl cs_300 ?_
          refine r_aload_n (t := some a0) 0 rfl rfl rfl ?_
          refine r_getR rfl (fl_11_72 rfl) (Or.inr ⟨_, rfl⟩) rfl hk20 ?_
          refine r_iconst 5 rfl ci_5 ?_
          obtain ⟨a_21, ha22, hE⟩ := bnE hE
          obtain ⟨hk23, hE⟩ := ckE hE
          obtain ⟨hi24, hE⟩ := ckE hE
          refine r_iald rfl ha22 hk23 hi24 ?_
          refine r_iadd rfl ?_
          refine r_aload_n (t := some a0) 0 rfl rfl rfl ?_
          refine r_getI rfl (fl_11_251 rfl) (Or.inl rfl) rfl hk20 ?_
          obtain ⟨a_25, ha26, hE⟩ := bnE hE
          obtain ⟨hk27, hE⟩ := ckE hE
          obtain ⟨hi28, hE⟩ := ckE hE
          obtain ⟨h29, he30, hE⟩ := ltE hE
          refine r_iast rfl ha26 hk27 hi28 he30 ?_
          first | exact r_sb (Mo_readsLine_b124_ok g N _ hD   _ _ _ _ _ hE) ⟨rfl, rfl, trivial⟩ | exact r_sb (Mo_readsLine_b124_ok g N _ hD   _ _ _ _ _ hE) (by simp only [su1, su2, dr1_rf, dr1_in, dr1_lo, dr2_rf, dr2_in, dr2_lo]; exact ⟨rfl, rfl, trivial⟩)
  · have hE := ifN hc1 hE
    refine r_aload_n (t := some a0) 0 rfl rfl rfl ?_
    refine r_iconst 1 rfl ci_1 ?_
    obtain ⟨hk31, hE⟩ := ckE hE
    obtain ⟨v32, h33, hq34, hE⟩ := bdE hE
    refine r_callV1 (rest := []) (hc := (Mo_fails_ok g N _ _ _ _ _ hq34 D2 (by omega))) rfl pm_Mo_fails lw_11_185 im_Mo_fails sl_Mo_fails rfl rfl rfl (rcOK hk31 rfl) (by decide) ?_
    cases hE
    exact r_ret rfl (Or.inl ⟨rfl, _, _, rfl, by first | rfl | rw [rZ, oZ, bI_tb (isB_bI _)], rfl, nar_B (isB_bI _)⟩)
def Mo_readsLine (N : Nat) (a0 : Nat) (h : PH) : Option (Bool × PH) :=
  ck ((hK h a0).1 = 11) <|
  bd (Mo_isWord N a0 70340 h) fun v2 h3 =>
  if (bI v2) = 0 then
    ck ((hK h3 a0).1 = 11) <|
    bd (Mo_isWord N a0 144941 h3) fun v7 h8 =>
    if (bI v7) = 0 then
      ck ((hK h8 a0).1 = 11) <|
      bd (Mo_isWord N a0 6888375828 h8) fun v12 h13 =>
      if (bI v12) = 0 then
        ck ((hK h13 a0).1 = 11) <|
        bd (Mo_isWord N a0 11103 h13) fun v17 h18 =>
        if (bI v17) = 0 then
          Mo_readsLine_b57 N  (-1) a0 h18
        else
          Mo_readsLine_b57 N  3 a0 h18
      else
        Mo_readsLine_b57 N  2 a0 h13
    else
      Mo_readsLine_b57 N  1 a0 h8
  else
    Mo_readsLine_b57 N  0 a0 h3
set_option maxRecDepth 20000 in
theorem Mo_readsLine_ok (g : GT) (N : Nat) (a0 : Nat) (h : PH) (v : Bool) (h' : PH) (hE : Mo_readsLine N a0 h = some (v, h')) (D : Nat) (hD : 3 ≤ D) : Calls g D pMo_readsLine [va_rf (some a0)] h (oZ v) h' := by
  refine Calls.of cok_Mo_readsLine ht_Mo_readsLine pl_Mo_readsLine (fun ad => by rw [lg_len, sL_cat]; simp only [List.map_cons, List.map_nil, rf_cat, cat_i, cat_l, List.sum_cons, List.sum_nil]; decide) ?_
  rw [show lv_args 0 [va_rf (some a0)] = [(0, va_rf (some a0))] from (by simp only [lv_args, rf_cat, cat_i, cat_l]; try rfl)]
  obtain ⟨D2, rfl⟩ : ∃ d, D = d + 1 := ⟨D - 1, by omega⟩
  unfold Mo_readsLine at hE
  refine r_aload_n (t := some a0) 0 rfl rfl rfl ?_
  refine r_ldc2 rfl kc_11_239 ?_
  obtain ⟨hk1, hE⟩ := ckE hE
  obtain ⟨v2, h3, hq4, hE⟩ := bdE hE
  refine r_callV1 (rest := []) (hc := (Mo_isWord_ok g N _ _ _ _ _ hq4 D2 (by omega))) rfl pm_Mo_isWord lw_11_177 im_Mo_isWord sl_Mo_isWord rfl rfl rfl (rcOK hk1 rfl) (by decide) ?_
  refine r_if_eq (tgt := 14) rfl (by decide) (fun hc5 => ?_) (fun hc5 => ?_)
  · have hE := ifP hc5 hE
    refine r_aload_n (t := some a0) 0 rfl rfl rfl ?_
    refine r_ldc2 rfl kc_11_241 ?_
    obtain ⟨hk6, hE⟩ := ckE hE
    obtain ⟨v7, h8, hq9, hE⟩ := bdE hE
    refine r_callV1 (rest := []) (hc := (Mo_isWord_ok g N _ _ _ _ _ hq9 D2 (by omega))) rfl pm_Mo_isWord lw_11_177 im_Mo_isWord sl_Mo_isWord rfl rfl rfl (rcOK hk6 rfl) (by decide) ?_
    refine r_if_eq (tgt := 28) rfl (by decide) (fun hc10 => ?_) (fun hc10 => ?_)
    · have hE := ifP hc10 hE
      refine r_aload_n (t := some a0) 0 rfl rfl rfl ?_
      refine r_ldc2 rfl kc_11_243 ?_
      obtain ⟨hk11, hE⟩ := ckE hE
      obtain ⟨v12, h13, hq14, hE⟩ := bdE hE
      refine r_callV1 (rest := []) (hc := (Mo_isWord_ok g N _ _ _ _ _ hq14 D2 (by omega))) rfl pm_Mo_isWord lw_11_177 im_Mo_isWord sl_Mo_isWord rfl rfl rfl (rcOK hk11 rfl) (by decide) ?_
      refine r_if_eq (tgt := 42) rfl (by decide) (fun hc15 => ?_) (fun hc15 => ?_)
      · have hE := ifP hc15 hE
        refine r_aload_n (t := some a0) 0 rfl rfl rfl ?_
        refine r_ldc2 rfl kc_11_245 ?_
        obtain ⟨hk16, hE⟩ := ckE hE
        obtain ⟨v17, h18, hq19, hE⟩ := bdE hE
        refine r_callV1 (rest := []) (hc := (Mo_isWord_ok g N _ _ _ _ _ hq19 D2 (by omega))) rfl pm_Mo_isWord lw_11_177 im_Mo_isWord sl_Mo_isWord rfl rfl rfl (rcOK hk16 rfl) (by decide) ?_
        refine r_if_eq (tgt := 56) rfl (by decide) (fun hc20 => ?_) (fun hc20 => ?_)
        · have hE := ifP hc20 hE
          refine r_iconst (-1) rfl ci_m1 ?_
          first | exact r_sb (Mo_readsLine_b57_ok g N _ hD   _ _ _ _ _ hE) ⟨rfl, trivial⟩ | exact r_sb (Mo_readsLine_b57_ok g N _ hD   _ _ _ _ _ hE) (by simp only [su1, su2, dr1_rf, dr1_in, dr1_lo, dr2_rf, dr2_in, dr2_lo]; exact ⟨rfl, trivial⟩)
        · have hE := ifN hc20 hE
          refine r_iconst 3 rfl ci_3 ?_
          refine r_goto (tgt := 57) rfl (by decide) ?_
          first | exact r_sb (Mo_readsLine_b57_ok g N _ hD   _ _ _ _ _ hE) ⟨rfl, trivial⟩ | exact r_sb (Mo_readsLine_b57_ok g N _ hD   _ _ _ _ _ hE) (by simp only [su1, su2, dr1_rf, dr1_in, dr1_lo, dr2_rf, dr2_in, dr2_lo]; exact ⟨rfl, trivial⟩)
      · have hE := ifN hc15 hE
        refine r_iconst 2 rfl ci_2 ?_
        refine r_goto (tgt := 57) rfl (by decide) ?_
        first | exact r_sb (Mo_readsLine_b57_ok g N _ hD   _ _ _ _ _ hE) ⟨rfl, trivial⟩ | exact r_sb (Mo_readsLine_b57_ok g N _ hD   _ _ _ _ _ hE) (by simp only [su1, su2, dr1_rf, dr1_in, dr1_lo, dr2_rf, dr2_in, dr2_lo]; exact ⟨rfl, trivial⟩)
    · have hE := ifN hc10 hE
      refine r_iconst 1 rfl ci_1 ?_
      refine r_goto (tgt := 57) rfl (by decide) ?_
      first | exact r_sb (Mo_readsLine_b57_ok g N _ hD   _ _ _ _ _ hE) ⟨rfl, trivial⟩ | exact r_sb (Mo_readsLine_b57_ok g N _ hD   _ _ _ _ _ hE) (by simp only [su1, su2, dr1_rf, dr1_in, dr1_lo, dr2_rf, dr2_in, dr2_lo]; exact ⟨rfl, trivial⟩)
  · have hE := ifN hc5 hE
    refine r_iconst 0 rfl ci_0 ?_
    refine r_goto (tgt := 57) rfl (by decide) ?_
    first | exact r_sb (Mo_readsLine_b57_ok g N _ hD   _ _ _ _ _ hE) ⟨rfl, trivial⟩ | exact r_sb (Mo_readsLine_b57_ok g N _ hD   _ _ _ _ _ hE) (by simp only [su1, su2, dr1_rf, dr1_in, dr1_lo, dr2_rf, dr2_in, dr2_lo]; exact ⟨rfl, trivial⟩)
def Mo_laysLines_b14 (N : Nat) : Nat → Nat → Int32 → Int32 → Int32 → PH → Option (Unit × PH)
  | 0 => fun _ _ _ _ _ => none
  | n + 1 => fun a0 x1 x2 x3 h =>
    if 60 ≤ x3 then
      some ((), h)
    else
      ck ((hK h a0).1 = 11) <|
      ((hR h a0 33)).bind fun a_3 =>
      ck ((hK h a_3).1 = 20) <|
      ck (inb ((60 * x1) + x3) (hK h a_3).2 = true) <|
      ck (inb ((60 * x2) + x3) (hK h a_3).2 = true) <|
      lt0 (wI h a_3 (ix ((60 * x2) + x3)) (hI h a_3 (ix ((60 * x1) + x3)))) fun h8 =>
      ((hR h8 a0 34)).bind fun a_10 =>
      ck ((hK h8 a_10).1 = 20) <|
      ck (inb ((60 * x1) + x3) (hK h8 a_10).2 = true) <|
      ck (inb ((60 * x2) + x3) (hK h8 a_10).2 = true) <|
      lt0 (wI h8 a_10 (ix ((60 * x2) + x3)) (hI h8 a_10 (ix ((60 * x1) + x3)))) fun h15 =>
      (Mo_laysLines_b14 N n) a0 x1 x2 (x3 + 1) h15
set_option maxRecDepth 20000 in
theorem Mo_laysLines_b14_ok (g : GT) (N : Nat) (D : Nat) (hD : 0 ≤ D) : ∀ (n : Nat) (a0 : Nat) (x1 : Int32) (x2 : Int32) (x3 : Int32) (h : PH) (v : Unit) (h' : PH), Mo_laysLines_b14 N n a0 x1 x2 x3 h = some (v, h') → Run g pMo_laysLines D 14 [(0, va_rf (some a0)), (1, .int x1), (2, .int x2), (3, .int x3)] [] h (rV v) h' := by
  intro n
  induction n with
  | zero => exact fun _ _ _ _ _ _ _ hE => nomatch (show none = some _ from hE)
  | succ n ih =>
    intro a0 x1 x2 x3 h v h' hE
    unfold Mo_laysLines_b14 at hE
    refine r_iload_n 3 rfl rfl rfl ?_
    refine r_bipush 60 rfl cb_60 ?_
    refine r_icmp_ge (tgt := 70) rfl (by decide) (fun hc1 => ?_) (fun hc1 => ?_)
    · have hE := ifP hc1 hE
      cases hE
      exact r_ret rfl (Or.inr (Or.inr (Or.inr ⟨rfl, rfl, rfl, rfl⟩)))
    · have hE := ifN hc1 hE
      refine r_aload_n (t := some a0) 0 rfl rfl rfl ?_
      obtain ⟨hk2, hE⟩ := ckE hE
      refine r_getR rfl (fl_11_75 rfl) (Or.inr ⟨_, rfl⟩) rfl hk2 ?_
      refine r_bipush 60 rfl cb_60 ?_
      refine r_iload_n 2 rfl rfl rfl ?_
      refine r_imul rfl ?_
      refine r_iload_n 3 rfl rfl rfl ?_
      refine r_iadd rfl ?_
      refine r_aload_n (t := some a0) 0 rfl rfl rfl ?_
      refine r_getR rfl (fl_11_75 rfl) (Or.inr ⟨_, rfl⟩) rfl hk2 ?_
      refine r_bipush 60 rfl cb_60 ?_
      refine r_iload_n 1 rfl rfl rfl ?_
      refine r_imul rfl ?_
      refine r_iload_n 3 rfl rfl rfl ?_
      refine r_iadd rfl ?_
      obtain ⟨a_3, ha4, hE⟩ := bnE hE
      obtain ⟨hk5, hE⟩ := ckE hE
      obtain ⟨hi6, hE⟩ := ckE hE
      refine r_iald rfl ha4 hk5 hi6 ?_
      obtain ⟨hi7, hE⟩ := ckE hE
      obtain ⟨h8, he9, hE⟩ := ltE hE
      refine r_iast rfl ha4 hk5 hi7 he9 ?_
      refine r_aload_n (t := some a0) 0 rfl rfl rfl ?_
      refine r_getR rfl (fl_11_78 rfl) (Or.inr ⟨_, rfl⟩) rfl (kwI he9 hk2) ?_
      refine r_bipush 60 rfl cb_60 ?_
      refine r_iload_n 2 rfl rfl rfl ?_
      refine r_imul rfl ?_
      refine r_iload_n 3 rfl rfl rfl ?_
      refine r_iadd rfl ?_
      refine r_aload_n (t := some a0) 0 rfl rfl rfl ?_
      refine r_getR rfl (fl_11_78 rfl) (Or.inr ⟨_, rfl⟩) rfl (kwI he9 hk2) ?_
      refine r_bipush 60 rfl cb_60 ?_
      refine r_iload_n 1 rfl rfl rfl ?_
      refine r_imul rfl ?_
      refine r_iload_n 3 rfl rfl rfl ?_
      refine r_iadd rfl ?_
      obtain ⟨a_10, ha11, hE⟩ := bnE hE
      obtain ⟨hk12, hE⟩ := ckE hE
      obtain ⟨hi13, hE⟩ := ckE hE
      refine r_iald rfl ha11 hk12 hi13 ?_
      obtain ⟨hi14, hE⟩ := ckE hE
      obtain ⟨h15, he16, hE⟩ := ltE hE
      refine r_iast rfl ha11 hk12 hi14 he16 ?_
      refine r_iinc _ rfl rfl (congrArg _ ci_1) (by decide) ?_
      refine r_goto (tgt := 14) rfl (by decide) ?_
      first | exact r_sb (ih _ _ _ _ _ _ _ hE) ⟨rfl, rfl, rfl, rfl, trivial⟩ | exact r_sb (ih _ _ _ _ _ _ _ hE) (by simp only [su1, su2, dr1_rf, dr1_in, dr1_lo, dr2_rf, dr2_in, dr2_lo]; exact ⟨rfl, rfl, rfl, rfl, trivial⟩)
def Mo_laysLines (N : Nat) (a0 : Nat) (x1 : Int32) (x2 : Int32) (h : PH) : Option (Unit × PH) :=
  ck ((hK h a0).1 = 11) <|
  ((hR h a0 32)).bind fun a_2 =>
  ck ((hK h a_2).1 = 20) <|
  ck (inb x1 (hK h a_2).2 = true) <|
  ck (inb x2 (hK h a_2).2 = true) <|
  lt0 (wI h a_2 (ix x2) (hI h a_2 (ix x1))) fun h7 =>
  Mo_laysLines_b14 N N a0 x1 x2 0 h7
set_option maxRecDepth 20000 in
theorem Mo_laysLines_ok (g : GT) (N : Nat) (a0 : Nat) (x1 : Int32) (x2 : Int32) (h : PH) (v : Unit) (h' : PH) (hE : Mo_laysLines N a0 x1 x2 h = some (v, h')) (D : Nat) (hD : 0 ≤ D) : Calls g D pMo_laysLines [va_rf (some a0), .int x1, .int x2] h (oV v) h' := by
  refine Calls.of cok_Mo_laysLines ht_Mo_laysLines pl_Mo_laysLines (fun ad => by rw [lg_len, sL_cat]; simp only [List.map_cons, List.map_nil, rf_cat, cat_i, cat_l, List.sum_cons, List.sum_nil]; decide) ?_
  rw [show lv_args 0 [va_rf (some a0), .int x1, .int x2] = [(0, va_rf (some a0)), (1, .int x1), (2, .int x2)] from (by simp only [lv_args, rf_cat, cat_i, cat_l]; try rfl)]
  unfold Mo_laysLines at hE
  refine r_aload_n (t := some a0) 0 rfl rfl rfl ?_
  obtain ⟨hk1, hE⟩ := ckE hE
  refine r_getR rfl (fl_11_72 rfl) (Or.inr ⟨_, rfl⟩) rfl hk1 ?_
  refine r_iload_n 2 rfl rfl rfl ?_
  refine r_aload_n (t := some a0) 0 rfl rfl rfl ?_
  refine r_getR rfl (fl_11_72 rfl) (Or.inr ⟨_, rfl⟩) rfl hk1 ?_
  refine r_iload_n 1 rfl rfl rfl ?_
  obtain ⟨a_2, ha3, hE⟩ := bnE hE
  obtain ⟨hk4, hE⟩ := ckE hE
  obtain ⟨hi5, hE⟩ := ckE hE
  refine r_iald rfl ha3 hk4 hi5 ?_
  obtain ⟨hi6, hE⟩ := ckE hE
  obtain ⟨h7, he8, hE⟩ := ltE hE
  refine r_iast rfl ha3 hk4 hi6 he8 ?_
  refine r_iconst 0 rfl ci_0 ?_
  refine r_istore_n 3 rfl rfl (by decide) ?_
  first | exact r_sb (Mo_laysLines_b14_ok g N _ hD  N _ _ _ _ _ _ _ hE) ⟨rfl, rfl, rfl, rfl, trivial⟩ | exact r_sb (Mo_laysLines_b14_ok g N _ hD  N _ _ _ _ _ _ _ hE) (by simp only [su1, su2, dr1_rf, dr1_in, dr1_lo, dr2_rf, dr2_in, dr2_lo]; exact ⟨rfl, rfl, rfl, rfl, trivial⟩)
def Mo_evening_b16 (N : Nat) : Nat → Nat → PH → Option (Int32 × PH)
  | 0 => fun _ _ => none
  | n + 1 => fun a0 h =>
    ck ((hK h a0).1 = 11) <|
    if (hI h a0 6) = 0 then
      bd (Mo_laysLines N a0 5 0 h) fun v3 h4 =>
      some (0, h4)
    else
      bd (Mo_readsLine N a0 h) fun v6 h7 =>
      if (bI v6) = 0 then
        ck ((hK h7 a0).1 = 11) <|
        some ((hI h7 a0 9), h7)
      else
        (Mo_evening_b16 N n) a0 h7
set_option maxRecDepth 20000 in
theorem Mo_evening_b16_ok (g : GT) (N : Nat) (D : Nat) (hD : 4 ≤ D) : ∀ (n : Nat) (a0 : Nat) (h : PH) (v : Int32) (h' : PH), Mo_evening_b16 N n a0 h = some (v, h') → Run g pMo_evening D 16 [(0, va_rf (some a0))] [] h (rI v) h' := by
  obtain ⟨D2, rfl⟩ : ∃ d, D = d + 1 := ⟨D - 1, by omega⟩
  intro n
  induction n with
  | zero => exact fun _ _ _ _ hE => nomatch (show none = some _ from hE)
  | succ n ih =>
    intro a0 h v h' hE
    unfold Mo_evening_b16 at hE
    refine r_aload_n (t := some a0) 0 rfl rfl rfl ?_
    obtain ⟨hk1, hE⟩ := ckE hE
    refine r_getI rfl (fl_11_144 rfl) (Or.inl rfl) rfl hk1 ?_
    refine r_if_eq (tgt := 35) rfl (by decide) (fun hc2 => ?_) (fun hc2 => ?_)
    · have hE := ifP hc2 hE
      refine r_aload_n (t := some a0) 0 rfl rfl rfl ?_
      refine r_iconst 5 rfl ci_5 ?_
      refine r_iconst 0 rfl ci_0 ?_
      obtain ⟨v3, h4, hq5, hE⟩ := bdE hE
      refine r_callV0 (rest := []) (hc := (Mo_laysLines_ok g N _ _ _ _ _ _ hq5 D2 (by omega))) rfl pm_Mo_laysLines lw_11_315 im_Mo_laysLines sl_Mo_laysLines rfl rfl rfl (rcOK hk1 rfl) (by decide) ?_
      refine r_iconst 0 rfl ci_0 ?_
      cases hE
      exact r_ret rfl (Or.inl ⟨rfl, _, _, rfl, rfl, rfl, rfl⟩)
    · have hE := ifN hc2 hE
      refine r_aload_n (t := some a0) 0 rfl rfl rfl ?_
      obtain ⟨v6, h7, hq8, hE⟩ := bdE hE
      refine r_callV1 (rest := []) (hc := (Mo_readsLine_ok g N _ _ _ _ hq8 D2 (by omega))) rfl pm_Mo_readsLine lw_11_312 im_Mo_readsLine sl_Mo_readsLine rfl rfl rfl (rcOK hk1 rfl) (by decide) ?_
      refine r_if_ne (tgt := 16) rfl (by decide) (fun hc9 => ?_) (fun hc9 => ?_)
      · have hE := ifP hc9 hE
        refine r_aload_n (t := some a0) 0 rfl rfl rfl ?_
        obtain ⟨hk10, hE⟩ := ckE hE
        refine r_getI rfl (fl_11_155 rfl) (Or.inl rfl) rfl hk10 ?_
        cases hE
        exact r_ret rfl (Or.inl ⟨rfl, _, _, rfl, rfl, rfl, rfl⟩)
      · have hE := ifN hc9 hE
        first | exact r_sb (ih _ _ _ _ hE) ⟨rfl, trivial⟩ | exact r_sb (ih _ _ _ _ hE) (by simp only [su1, su2, dr1_rf, dr1_in, dr1_lo, dr2_rf, dr2_in, dr2_lo]; exact ⟨rfl, trivial⟩)
def Mo_evening (N : Nat) (a0 : Nat) (h : PH) : Option (Int32 × PH) :=
  ck ((hK h a0).1 = 11) <|
  lt0 (wI h a0 0 0) fun h2 =>
  ((hR h2 a0 32)).bind fun a_4 =>
  ck ((hK h2 a_4).1 = 20) <|
  ck (inb 5 (hK h2 a_4).2 = true) <|
  lt0 (wI h2 a_4 (ix 5) 0) fun h8 =>
  bd (Mo_starts N a0 h8) fun v10 h11 =>
  Mo_evening_b16 N N a0 h11
set_option maxRecDepth 20000 in
theorem Mo_evening_ok (g : GT) (N : Nat) (a0 : Nat) (h : PH) (v : Int32) (h' : PH) (hE : Mo_evening N a0 h = some (v, h')) (D : Nat) (hD : 4 ≤ D) : Calls g D pMo_evening [va_rf (some a0)] h (oI v) h' := by
  refine Calls.of cok_Mo_evening ht_Mo_evening pl_Mo_evening (fun ad => by rw [lg_len, sL_cat]; simp only [List.map_cons, List.map_nil, rf_cat, cat_i, cat_l, List.sum_cons, List.sum_nil]; decide) ?_
  rw [show lv_args 0 [va_rf (some a0)] = [(0, va_rf (some a0))] from (by simp only [lv_args, rf_cat, cat_i, cat_l]; try rfl)]
  obtain ⟨D2, rfl⟩ : ∃ d, D = d + 1 := ⟨D - 1, by omega⟩
  unfold Mo_evening at hE
  refine r_aload_n (t := some a0) 0 rfl rfl rfl ?_
  refine r_iconst 0 rfl ci_0 ?_
  obtain ⟨hk1, hE⟩ := ckE hE
  obtain ⟨h2, he3, hE⟩ := ltE hE
  refine r_putI rfl (fl_11_119 rfl) finF rfl hk1 he3 ?_
  refine r_aload_n (t := some a0) 0 rfl rfl rfl ?_
  refine r_getR rfl (fl_11_72 rfl) (Or.inr ⟨_, rfl⟩) rfl (kwI he3 hk1) ?_
  refine r_iconst 5 rfl ci_5 ?_
  refine r_iconst 0 rfl ci_0 ?_
  obtain ⟨a_4, ha5, hE⟩ := bnE hE
  obtain ⟨hk6, hE⟩ := ckE hE
  obtain ⟨hi7, hE⟩ := ckE hE
  obtain ⟨h8, he9, hE⟩ := ltE hE
  refine r_iast rfl ha5 hk6 hi7 he9 ?_
  refine r_aload_n (t := some a0) 0 rfl rfl rfl ?_
  obtain ⟨v10, h11, hq12, hE⟩ := bdE hE
  refine r_callV0 (rest := []) (hc := (Mo_starts_ok g N _ _ _ _ hq12 D2 (by omega))) rfl pm_Mo_starts lw_11_281 im_Mo_starts sl_Mo_starts rfl rfl rfl (rcOK (kwI he9 (kwI he3 hk1)) rfl) (by decide) ?_
  first | exact r_sb (Mo_evening_b16_ok g N _ hD  N _ _ _ _ hE) ⟨rfl, trivial⟩ | exact r_sb (Mo_evening_b16_ok g N _ hD  N _ _ _ _ hE) (by simp only [su1, su2, dr1_rf, dr1_in, dr1_lo, dr2_rf, dr2_in, dr2_lo]; exact ⟨rfl, trivial⟩)
def Mo_calls (N : Nat) (a0 : Nat) (x1 : Int32) (x2 : Int32) (h : PH) : Option (Int32 × PH) :=
  ck ((hK h a0).1 = 11) <|
  lt0 (wI h a0 0 0) fun h2 =>
  ((hR h2 a0 10)).bind fun a_4 =>
  ck ((hK h2 a_4).1 = 20) <|
  ck (inb 0 (hK h2 a_4).2 = true) <|
  bd (Mo_within N x1 0 ((hI h2 a_4 (ix 0)) - 1) h2) fun v8 h9 =>
  if (bI v8) = 0 then
    some ((-1), h9)
  else
    bd (Mo_within N x2 0 3 h9) fun v12 h13 =>
    if (bI v12) = 0 then
      some ((-1), h13)
    else
      ck ((hK h13 a0).1 = 11) <|
      ((hR h13 a0 11)).bind fun a_17 =>
      ck ((hK h13 a_17).1 = 20) <|
      ck (inb ((4 * x1) + x2) (hK h13 a_17).2 = true) <|
      some ((hI h13 a_17 (ix ((4 * x1) + x2))), h13)
set_option maxRecDepth 20000 in
theorem Mo_calls_ok (g : GT) (N : Nat) (a0 : Nat) (x1 : Int32) (x2 : Int32) (h : PH) (v : Int32) (h' : PH) (hE : Mo_calls N a0 x1 x2 h = some (v, h')) (D : Nat) (hD : 1 ≤ D) : Calls g D pMo_calls [va_rf (some a0), .int x1, .int x2] h (oI v) h' := by
  refine Calls.of cok_Mo_calls ht_Mo_calls pl_Mo_calls (fun ad => by rw [lg_len, sL_cat]; simp only [List.map_cons, List.map_nil, rf_cat, cat_i, cat_l, List.sum_cons, List.sum_nil]; decide) ?_
  rw [show lv_args 0 [va_rf (some a0), .int x1, .int x2] = [(0, va_rf (some a0)), (1, .int x1), (2, .int x2)] from (by simp only [lv_args, rf_cat, cat_i, cat_l]; try rfl)]
  obtain ⟨D2, rfl⟩ : ∃ d, D = d + 1 := ⟨D - 1, by omega⟩
  unfold Mo_calls at hE
  refine r_aload_n (t := some a0) 0 rfl rfl rfl ?_
  refine r_iconst 0 rfl ci_0 ?_
  obtain ⟨hk1, hE⟩ := ckE hE
  obtain ⟨h2, he3, hE⟩ := ltE hE
  refine r_putI rfl (fl_11_119 rfl) finF rfl hk1 he3 ?_
  refine r_iload_n 1 rfl rfl rfl ?_
  refine r_iconst 0 rfl ci_0 ?_
  refine r_aload_n (t := some a0) 0 rfl rfl rfl ?_
  refine r_getR rfl (fl_11_13 rfl) (Or.inr ⟨_, rfl⟩) rfl (kwI he3 hk1) ?_
  refine r_iconst 0 rfl ci_0 ?_
  obtain ⟨a_4, ha5, hE⟩ := bnE hE
  obtain ⟨hk6, hE⟩ := ckE hE
  obtain ⟨hi7, hE⟩ := ckE hE
  refine r_iald rfl ha5 hk6 hi7 ?_
  refine r_iconst 1 rfl ci_1 ?_
  refine r_isub rfl ?_
  obtain ⟨v8, h9, hq10, hE⟩ := bdE hE
  refine r_callS1 (rest := []) (hc := (Mo_within_ok g N _ _ _ _ _ _ hq10 D2 (by omega))) rfl pm_Mo_within lw_11_247 st_Mo_within rfl rfl (by decide) ?_
  refine r_if_eq (tgt := 43) rfl (by decide) (fun hc11 => ?_) (fun hc11 => ?_)
  · have hE := ifP hc11 hE
    refine r_iconst (-1) rfl ci_m1 ?_
    cases hE
    exact r_ret rfl (Or.inl ⟨rfl, _, _, rfl, rfl, rfl, rfl⟩)
  · have hE := ifN hc11 hE
    refine r_iload_n 2 rfl rfl rfl ?_
    refine r_iconst 0 rfl ci_0 ?_
    refine r_iconst 3 rfl ci_3 ?_
    obtain ⟨v12, h13, hq14, hE⟩ := bdE hE
    refine r_callS1 (rest := []) (hc := (Mo_within_ok g N _ _ _ _ _ _ hq14 D2 (by omega))) rfl pm_Mo_within lw_11_247 st_Mo_within rfl rfl (by decide) ?_
    refine r_if_eq (tgt := 43) rfl (by decide) (fun hc15 => ?_) (fun hc15 => ?_)
    · have hE := ifP hc15 hE
      refine r_iconst (-1) rfl ci_m1 ?_
      cases hE
      exact r_ret rfl (Or.inl ⟨rfl, _, _, rfl, rfl, rfl, rfl⟩)
    · have hE := ifN hc15 hE
      refine r_aload_n (t := some a0) 0 rfl rfl rfl ?_
      obtain ⟨hk16, hE⟩ := ckE hE
      refine r_getR rfl (fl_11_16 rfl) (Or.inr ⟨_, rfl⟩) rfl hk16 ?_
      refine r_iconst 4 rfl ci_4 ?_
      refine r_iload_n 1 rfl rfl rfl ?_
      refine r_imul rfl ?_
      refine r_iload_n 2 rfl rfl rfl ?_
      refine r_iadd rfl ?_
      obtain ⟨a_17, ha18, hE⟩ := bnE hE
      obtain ⟨hk19, hE⟩ := ckE hE
      obtain ⟨hi20, hE⟩ := ckE hE
      refine r_iald rfl ha18 hk19 hi20 ?_
      refine r_goto (tgt := 44) rfl (by decide) ?_
      cases hE
      exact r_ret rfl (Or.inl ⟨rfl, _, _, rfl, rfl, rfl, rfl⟩)
def Mo_isOver (N : Nat) (a0 : Nat) (h : PH) : Option (Bool × PH) :=
  ck ((hK h a0).1 = 11) <|
  ((hR h a0 35)).bind fun a_2 =>
  ck ((hK h a_2).1 = 20) <|
  ck (inb 0 (hK h a_2).2 = true) <|
  ((hR h a0 10)).bind fun a_6 =>
  ck ((hK h a_6).1 = 20) <|
  ck (inb 0 (hK h a_6).2 = true) <|
  if (hI h a_2 (ix 0)) = (hI h a_6 (ix 0)) then
    some (true, h)
  else
    some (false, h)
set_option maxRecDepth 20000 in
theorem Mo_isOver_ok (g : GT) (N : Nat) (a0 : Nat) (h : PH) (v : Bool) (h' : PH) (hE : Mo_isOver N a0 h = some (v, h')) (D : Nat) (hD : 0 ≤ D) : Calls g D pMo_isOver [va_rf (some a0)] h (oZ v) h' := by
  refine Calls.of cok_Mo_isOver ht_Mo_isOver pl_Mo_isOver (fun ad => by rw [lg_len, sL_cat]; simp only [List.map_cons, List.map_nil, rf_cat, cat_i, cat_l, List.sum_cons, List.sum_nil]; decide) ?_
  rw [show lv_args 0 [va_rf (some a0)] = [(0, va_rf (some a0))] from (by simp only [lv_args, rf_cat, cat_i, cat_l]; try rfl)]
  unfold Mo_isOver at hE
  refine r_aload_n (t := some a0) 0 rfl rfl rfl ?_
  obtain ⟨hk1, hE⟩ := ckE hE
  refine r_getR rfl (fl_11_81 rfl) (Or.inr ⟨_, rfl⟩) rfl hk1 ?_
  refine r_iconst 0 rfl ci_0 ?_
  obtain ⟨a_2, ha3, hE⟩ := bnE hE
  obtain ⟨hk4, hE⟩ := ckE hE
  obtain ⟨hi5, hE⟩ := ckE hE
  refine r_iald rfl ha3 hk4 hi5 ?_
  refine r_aload_n (t := some a0) 0 rfl rfl rfl ?_
  refine r_getR rfl (fl_11_13 rfl) (Or.inr ⟨_, rfl⟩) rfl hk1 ?_
  refine r_iconst 0 rfl ci_0 ?_
  obtain ⟨a_6, ha7, hE⟩ := bnE hE
  obtain ⟨hk8, hE⟩ := ckE hE
  obtain ⟨hi9, hE⟩ := ckE hE
  refine r_iald rfl ha7 hk8 hi9 ?_
  refine r_icmp_ne (tgt := 19) rfl (by decide) (fun hc10 => ?_) (fun hc10 => ?_)
  · have hE := ifP hc10 hE
    refine r_iconst 1 rfl ci_1 ?_
    refine r_goto (tgt := 20) rfl (by decide) ?_
    cases hE
    exact r_ret rfl (Or.inl ⟨rfl, _, _, rfl, rfl, rfl, rfl⟩)
  · have hE := ifN hc10 hE
    refine r_iconst 0 rfl ci_0 ?_
    cases hE
    exact r_ret rfl (Or.inl ⟨rfl, _, _, rfl, rfl, rfl, rfl⟩)
def Mo_canCome (N : Nat) (a0 : Nat) (x1 : Int32) (h : PH) : Option (Bool × PH) :=
  ck ((hK h a0).1 = 11) <|
  bd (Mo_isOver N a0 h) fun v2 h3 =>
  if (bI v2) = 0 then
    ck ((hK h3 a0).1 = 11) <|
    ((hR h3 a0 35)).bind fun a_7 =>
    ck ((hK h3 a_7).1 = 20) <|
    ck (inb 6 (hK h3 a_7).2 = true) <|
    if (hI h3 a_7 (ix 6)) = 0 then
      ck (inb 5 (hK h3 a_7).2 = true) <|
      if (hI h3 a_7 (ix 5)) = 0 then
        ck (inb 7 (hK h3 a_7).2 = true) <|
        ck (inb 7 (hK h3 a_7).2 = true) <|
        bd (Mo_within N x1 (hI h3 a_7 (ix 7)) (3 + (hI h3 a_7 (ix 7))) h3) fun v16 h17 =>
        if (bI v16) = 0 then
          some (false, h17)
        else
          some (true, h17)
      else
        some (false, h3)
    else
      some (false, h3)
  else
    some (false, h3)
set_option maxRecDepth 20000 in
theorem Mo_canCome_ok (g : GT) (N : Nat) (a0 : Nat) (x1 : Int32) (h : PH) (v : Bool) (h' : PH) (hE : Mo_canCome N a0 x1 h = some (v, h')) (D : Nat) (hD : 1 ≤ D) : Calls g D pMo_canCome [va_rf (some a0), .int x1] h (oZ v) h' := by
  refine Calls.of cok_Mo_canCome ht_Mo_canCome pl_Mo_canCome (fun ad => by rw [lg_len, sL_cat]; simp only [List.map_cons, List.map_nil, rf_cat, cat_i, cat_l, List.sum_cons, List.sum_nil]; decide) ?_
  rw [show lv_args 0 [va_rf (some a0), .int x1] = [(0, va_rf (some a0)), (1, .int x1)] from (by simp only [lv_args, rf_cat, cat_i, cat_l]; try rfl)]
  obtain ⟨D2, rfl⟩ : ∃ d, D = d + 1 := ⟨D - 1, by omega⟩
  unfold Mo_canCome at hE
  refine r_aload_n (t := some a0) 0 rfl rfl rfl ?_
  obtain ⟨hk1, hE⟩ := ckE hE
  obtain ⟨v2, h3, hq4, hE⟩ := bdE hE
  refine r_callV1 (rest := []) (hc := (Mo_isOver_ok g N _ _ _ _ hq4 D2 (by omega))) rfl pm_Mo_isOver lw_11_344 im_Mo_isOver sl_Mo_isOver rfl rfl rfl (rcOK hk1 rfl) (by decide) ?_
  refine r_if_ne (tgt := 53) rfl (by decide) (fun hc5 => ?_) (fun hc5 => ?_)
  · have hE := ifP hc5 hE
    refine r_aload_n (t := some a0) 0 rfl rfl rfl ?_
    obtain ⟨hk6, hE⟩ := ckE hE
    refine r_getR rfl (fl_11_81 rfl) (Or.inr ⟨_, rfl⟩) rfl hk6 ?_
    refine r_bipush 6 rfl cb_6 ?_
    obtain ⟨a_7, ha8, hE⟩ := bnE hE
    obtain ⟨hk9, hE⟩ := ckE hE
    obtain ⟨hi10, hE⟩ := ckE hE
    refine r_iald rfl ha8 hk9 hi10 ?_
    refine r_if_ne (tgt := 53) rfl (by decide) (fun hc11 => ?_) (fun hc11 => ?_)
    · have hE := ifP hc11 hE
      refine r_aload_n (t := some a0) 0 rfl rfl rfl ?_
      refine r_getR rfl (fl_11_81 rfl) (Or.inr ⟨_, rfl⟩) rfl hk6 ?_
      refine r_iconst 5 rfl ci_5 ?_
      obtain ⟨hi12, hE⟩ := ckE hE
      refine r_iald rfl ha8 hk9 hi12 ?_
      refine r_if_ne (tgt := 53) rfl (by decide) (fun hc13 => ?_) (fun hc13 => ?_)
      · have hE := ifP hc13 hE
        refine r_iload_n 1 rfl rfl rfl ?_
        refine r_aload_n (t := some a0) 0 rfl rfl rfl ?_
        refine r_getR rfl (fl_11_81 rfl) (Or.inr ⟨_, rfl⟩) rfl hk6 ?_
        refine r_bipush 7 rfl cb_7 ?_
        obtain ⟨hi14, hE⟩ := ckE hE
        refine r_iald rfl ha8 hk9 hi14 ?_
        refine r_iconst 3 rfl ci_3 ?_
        refine r_aload_n (t := some a0) 0 rfl rfl rfl ?_
        refine r_getR rfl (fl_11_81 rfl) (Or.inr ⟨_, rfl⟩) rfl hk6 ?_
        refine r_bipush 7 rfl cb_7 ?_
        obtain ⟨hi15, hE⟩ := ckE hE
        refine r_iald rfl ha8 hk9 hi15 ?_
        refine r_iadd rfl ?_
        obtain ⟨v16, h17, hq18, hE⟩ := bdE hE
        refine r_callS1 (rest := []) (hc := (Mo_within_ok g N _ _ _ _ _ _ hq18 D2 (by omega))) rfl pm_Mo_within lw_11_247 st_Mo_within rfl rfl (by decide) ?_
        refine r_if_eq (tgt := 53) rfl (by decide) (fun hc19 => ?_) (fun hc19 => ?_)
        · have hE := ifP hc19 hE
          refine r_iconst 0 rfl ci_0 ?_
          cases hE
          exact r_ret rfl (Or.inl ⟨rfl, _, _, rfl, rfl, rfl, rfl⟩)
        · have hE := ifN hc19 hE
          refine r_iconst 1 rfl ci_1 ?_
          refine r_goto (tgt := 54) rfl (by decide) ?_
          cases hE
          exact r_ret rfl (Or.inl ⟨rfl, _, _, rfl, rfl, rfl, rfl⟩)
      · have hE := ifN hc13 hE
        refine r_iconst 0 rfl ci_0 ?_
        cases hE
        exact r_ret rfl (Or.inl ⟨rfl, _, _, rfl, rfl, rfl, rfl⟩)
    · have hE := ifN hc11 hE
      refine r_iconst 0 rfl ci_0 ?_
      cases hE
      exact r_ret rfl (Or.inl ⟨rfl, _, _, rfl, rfl, rfl, rfl⟩)
  · have hE := ifN hc5 hE
    refine r_iconst 0 rfl ci_0 ?_
    cases hE
    exact r_ret rfl (Or.inl ⟨rfl, _, _, rfl, rfl, rfl, rfl⟩)
def Mo_copies_b3 (N : Nat) : Nat → Option Nat → Int32 → Option Nat → Int32 → Int32 → PH → Option (Unit × PH)
  | 0 => fun _ _ _ _ _ _ => none
  | n + 1 => fun x0 x1 x2 x3 x4 h =>
    if 14 ≤ x4 then
      some ((), h)
    else
      (x0).bind fun a_2 =>
      ck ((hK h a_2).1 = 20) <|
      ck (inb (x1 + x4) (hK h a_2).2 = true) <|
      (x2).bind fun a_6 =>
      ck ((hK h a_6).1 = 20) <|
      ck (inb (x3 + x4) (hK h a_6).2 = true) <|
      lt0 (wI h a_6 (ix (x3 + x4)) (hI h a_2 (ix (x1 + x4)))) fun h10 =>
      (Mo_copies_b3 N n) x0 x1 x2 x3 (x4 + 1) h10
set_option maxRecDepth 20000 in
theorem Mo_copies_b3_ok (g : GT) (N : Nat) (D : Nat) (hD : 0 ≤ D) : ∀ (n : Nat) (x0 : Option Nat) (x1 : Int32) (x2 : Option Nat) (x3 : Int32) (x4 : Int32) (h : PH) (v : Unit) (h' : PH), Mo_copies_b3 N n x0 x1 x2 x3 x4 h = some (v, h') → Run g pMo_copies D 3 [(0, va_rf x0), (1, .int x1), (2, va_rf x2), (3, .int x3), (4, .int x4)] [] h (rV v) h' := by
  intro n
  induction n with
  | zero => exact fun _ _ _ _ _ _ _ _ hE => nomatch (show none = some _ from hE)
  | succ n ih =>
    intro x0 x1 x2 x3 x4 h v h' hE
    unfold Mo_copies_b3 at hE
    refine r_iload rfl rfl ?_
    refine r_bipush 14 rfl cb_14 ?_
    refine r_icmp_ge (tgt := 28) rfl (by decide) (fun hc1 => ?_) (fun hc1 => ?_)
    · have hE := ifP hc1 hE
      cases hE
      exact r_ret rfl (Or.inr (Or.inr (Or.inr ⟨rfl, rfl, rfl, rfl⟩)))
    · have hE := ifN hc1 hE
      refine r_aload_n (t := x2) 2 rfl rfl rfl ?_
      refine r_iload_n 3 rfl rfl rfl ?_
      refine r_iload rfl rfl ?_
      refine r_iadd rfl ?_
      refine r_aload_n (t := x0) 0 rfl rfl rfl ?_
      refine r_iload_n 1 rfl rfl rfl ?_
      refine r_iload rfl rfl ?_
      refine r_iadd rfl ?_
      obtain ⟨a_2, ha3, hE⟩ := bnE hE
      obtain ⟨hk4, hE⟩ := ckE hE
      obtain ⟨hi5, hE⟩ := ckE hE
      refine r_iald rfl ha3 hk4 hi5 ?_
      obtain ⟨a_6, ha7, hE⟩ := bnE hE
      obtain ⟨hk8, hE⟩ := ckE hE
      obtain ⟨hi9, hE⟩ := ckE hE
      obtain ⟨h10, he11, hE⟩ := ltE hE
      refine r_iast rfl ha7 hk8 hi9 he11 ?_
      refine r_iinc _ rfl rfl (congrArg _ ci_1) (by decide) ?_
      refine r_goto (tgt := 3) rfl (by decide) ?_
      first | exact r_sb (ih _ _ _ _ _ _ _ _ hE) ⟨rfl, rfl, rfl, rfl, rfl, trivial⟩ | exact r_sb (ih _ _ _ _ _ _ _ _ hE) (by simp only [su1, su2, dr1_rf, dr1_in, dr1_lo, dr2_rf, dr2_in, dr2_lo]; exact ⟨rfl, rfl, rfl, rfl, rfl, trivial⟩)
def Mo_copies (N : Nat) (x0 : Option Nat) (x1 : Int32) (x2 : Option Nat) (x3 : Int32) (h : PH) : Option (Unit × PH) :=
  Mo_copies_b3 N N x0 x1 x2 x3 0 h
set_option maxRecDepth 20000 in
theorem Mo_copies_ok (g : GT) (N : Nat) (x0 : Option Nat) (x1 : Int32) (x2 : Option Nat) (x3 : Int32) (h : PH) (v : Unit) (h' : PH) (hE : Mo_copies N x0 x1 x2 x3 h = some (v, h')) (D : Nat) (hD : 0 ≤ D) : Calls g D pMo_copies [va_rf x0, .int x1, va_rf x2, .int x3] h (oV v) h' := by
  refine Calls.of cok_Mo_copies ht_Mo_copies pl_Mo_copies (fun ad => by rw [lg_len, sL_cat]; simp only [List.map_cons, List.map_nil, rf_cat, cat_i, cat_l, List.sum_cons, List.sum_nil]; decide) ?_
  rw [show lv_args 0 [va_rf x0, .int x1, va_rf x2, .int x3] = [(0, va_rf x0), (1, .int x1), (2, va_rf x2), (3, .int x3)] from (by simp only [lv_args, rf_cat, cat_i, cat_l]; try rfl)]
  unfold Mo_copies at hE
  refine r_iconst 0 rfl ci_0 ?_
  refine r_istore rfl (by decide) ?_
  first | exact r_sb (Mo_copies_b3_ok g N _ hD  N _ _ _ _ _ _ _ _ hE) ⟨rfl, rfl, rfl, rfl, rfl, trivial⟩ | exact r_sb (Mo_copies_b3_ok g N _ hD  N _ _ _ _ _ _ _ _ hE) (by simp only [su1, su2, dr1_rf, dr1_in, dr1_lo, dr2_rf, dr2_in, dr2_lo]; exact ⟨rfl, rfl, rfl, rfl, rfl, trivial⟩)
def Mo_keeps_b49 (N : Nat) (a0 : Nat) (h : PH) : Option (Unit × PH) :=
  ck ((hK h a0).1 = 11) <|
  bd (Mo_copies N (hR h a0 35) 0 (hR h a0 38) (14 * (hI h a0 40)) h) fun v2 h3 =>
  ck ((hK h3 a0).1 = 11) <|
  lt0 (wI h3 a0 40 ((hI h3 a0 40) + 1)) fun h6 =>
  some ((), h6)
set_option maxRecDepth 20000 in
theorem Mo_keeps_b49_ok (g : GT) (N : Nat) (D : Nat) (hD : 1 ≤ D) : ∀ (a0 : Nat) (h : PH) (v : Unit) (h' : PH), Mo_keeps_b49 N a0 h = some (v, h') → Run g pMo_keeps D 49 [(0, va_rf (some a0))] [] h (rV v) h' := by
  obtain ⟨D2, rfl⟩ : ∃ d, D = d + 1 := ⟨D - 1, by omega⟩
  intro a0 h v h' hE
  unfold Mo_keeps_b49 at hE
  refine r_aload_n (t := some a0) 0 rfl rfl rfl ?_
  obtain ⟨hk1, hE⟩ := ckE hE
  refine r_getR rfl (fl_11_81 rfl) (Or.inr ⟨_, rfl⟩) rfl hk1 ?_
  refine r_iconst 0 rfl ci_0 ?_
  refine r_aload_n (t := some a0) 0 rfl rfl rfl ?_
  refine r_getR rfl (fl_11_90 rfl) (Or.inr ⟨_, rfl⟩) rfl hk1 ?_
  refine r_bipush 14 rfl cb_14 ?_
  refine r_aload_n (t := some a0) 0 rfl rfl rfl ?_
  refine r_getI rfl (fl_11_309 rfl) (Or.inl rfl) rfl hk1 ?_
  refine r_imul rfl ?_
  obtain ⟨v2, h3, hq4, hE⟩ := bdE hE
  refine r_callS0 (rest := []) (hc := (Mo_copies_ok g N _ _ _ _ _ _ _ hq4 D2 (by omega))) rfl pm_Mo_copies lw_11_340 st_Mo_copies rfl rfl (by decide) ?_
  refine r_aload_n (t := some a0) 0 rfl rfl rfl ?_
  refine r_dup rfl (rf_cat _) ?_
  obtain ⟨hk5, hE⟩ := ckE hE
  refine r_getI rfl (fl_11_309 rfl) (Or.inl rfl) rfl hk5 ?_
  refine r_iconst 1 rfl ci_1 ?_
  refine r_iadd rfl ?_
  obtain ⟨h6, he7, hE⟩ := ltE hE
  refine r_putI rfl (fl_11_309 rfl) finF rfl hk5 he7 ?_
  cases hE
  exact r_ret rfl (Or.inr (Or.inr (Or.inr ⟨rfl, rfl, rfl, rfl⟩)))
def Mo_keeps_b11 (N : Nat) : Nat → Nat → Int32 → PH → Option (Unit × PH)
  | 0 => fun _ _ _ => none
  | n + 1 => fun a0 x1 h =>
    if 210 ≤ x1 then
      ck ((hK h a0).1 = 11) <|
      lt0 (wI h a0 40 ((hI h a0 40) - 1)) fun h3 =>
      Mo_keeps_b49 N  a0 h3
    else
      ck ((hK h a0).1 = 11) <|
      ((hR h a0 38)).bind fun a_6 =>
      ck ((hK h a_6).1 = 20) <|
      ck (inb (x1 + 14) (hK h a_6).2 = true) <|
      ck (inb x1 (hK h a_6).2 = true) <|
      lt0 (wI h a_6 (ix x1) (hI h a_6 (ix (x1 + 14)))) fun h11 =>
      (Mo_keeps_b11 N n) a0 (x1 + 1) h11
set_option maxRecDepth 20000 in
theorem Mo_keeps_b11_ok (g : GT) (N : Nat) (D : Nat) (hD : 1 ≤ D) : ∀ (n : Nat) (a0 : Nat) (x1 : Int32) (h : PH) (v : Unit) (h' : PH), Mo_keeps_b11 N n a0 x1 h = some (v, h') → Run g pMo_keeps D 11 [(0, va_rf (some a0)), (1, .int x1)] [] h (rV v) h' := by
  obtain ⟨D2, rfl⟩ : ∃ d, D = d + 1 := ⟨D - 1, by omega⟩
  intro n
  induction n with
  | zero => exact fun _ _ _ _ _ hE => nomatch (show none = some _ from hE)
  | succ n ih =>
    intro a0 x1 h v h' hE
    unfold Mo_keeps_b11 at hE
    refine r_iload_n 1 rfl rfl rfl ?_
    refine r_sipush 210 rfl cs_210 ?_
    refine r_icmp_ge (tgt := 39) rfl (by decide) (fun hc1 => ?_) (fun hc1 => ?_)
    · have hE := ifP hc1 hE
      refine r_aload_n (t := some a0) 0 rfl rfl rfl ?_
      refine r_dup rfl (rf_cat _) ?_
      obtain ⟨hk2, hE⟩ := ckE hE
      refine r_getI rfl (fl_11_309 rfl) (Or.inl rfl) rfl hk2 ?_
      refine r_iconst 1 rfl ci_1 ?_
      refine r_isub rfl ?_
      obtain ⟨h3, he4, hE⟩ := ltE hE
      refine r_putI rfl (fl_11_309 rfl) finF rfl hk2 he4 ?_
      first | exact r_sb (Mo_keeps_b49_ok g N _ hD   _ _ _ _ hE) ⟨rfl, trivial⟩ | exact r_sb (Mo_keeps_b49_ok g N _ hD   _ _ _ _ hE) (by simp only [su1, su2, dr1_rf, dr1_in, dr1_lo, dr2_rf, dr2_in, dr2_lo]; exact ⟨rfl, trivial⟩)
    · have hE := ifN hc1 hE
      refine r_aload_n (t := some a0) 0 rfl rfl rfl ?_
      obtain ⟨hk5, hE⟩ := ckE hE
      refine r_getR rfl (fl_11_90 rfl) (Or.inr ⟨_, rfl⟩) rfl hk5 ?_
      refine r_iload_n 1 rfl rfl rfl ?_
      refine r_aload_n (t := some a0) 0 rfl rfl rfl ?_
      refine r_getR rfl (fl_11_90 rfl) (Or.inr ⟨_, rfl⟩) rfl hk5 ?_
      refine r_iload_n 1 rfl rfl rfl ?_
      refine r_bipush 14 rfl cb_14 ?_
      refine r_iadd rfl ?_
      obtain ⟨a_6, ha7, hE⟩ := bnE hE
      obtain ⟨hk8, hE⟩ := ckE hE
      obtain ⟨hi9, hE⟩ := ckE hE
      refine r_iald rfl ha7 hk8 hi9 ?_
      obtain ⟨hi10, hE⟩ := ckE hE
      obtain ⟨h11, he12, hE⟩ := ltE hE
      refine r_iast rfl ha7 hk8 hi10 he12 ?_
      refine r_iinc _ rfl rfl (congrArg _ ci_1) (by decide) ?_
      refine r_goto (tgt := 11) rfl (by decide) ?_
      first | exact r_sb (ih _ _ _ _ _ hE) ⟨rfl, rfl, trivial⟩ | exact r_sb (ih _ _ _ _ _ hE) (by simp only [su1, su2, dr1_rf, dr1_in, dr1_lo, dr2_rf, dr2_in, dr2_lo]; exact ⟨rfl, rfl, trivial⟩)
def Mo_keeps (N : Nat) (a0 : Nat) (h : PH) : Option (Unit × PH) :=
  ck ((hK h a0).1 = 11) <|
  if (hI h a0 40) = 16 then
    Mo_keeps_b11 N N a0 0 h
  else
    Mo_keeps_b49 N  a0 h
set_option maxRecDepth 20000 in
theorem Mo_keeps_ok (g : GT) (N : Nat) (a0 : Nat) (h : PH) (v : Unit) (h' : PH) (hE : Mo_keeps N a0 h = some (v, h')) (D : Nat) (hD : 1 ≤ D) : Calls g D pMo_keeps [va_rf (some a0)] h (oV v) h' := by
  refine Calls.of cok_Mo_keeps ht_Mo_keeps pl_Mo_keeps (fun ad => by rw [lg_len, sL_cat]; simp only [List.map_cons, List.map_nil, rf_cat, cat_i, cat_l, List.sum_cons, List.sum_nil]; decide) ?_
  rw [show lv_args 0 [va_rf (some a0)] = [(0, va_rf (some a0))] from (by simp only [lv_args, rf_cat, cat_i, cat_l]; try rfl)]
  obtain ⟨D2, rfl⟩ : ∃ d, D = d + 1 := ⟨D - 1, by omega⟩
  unfold Mo_keeps at hE
  refine r_aload_n (t := some a0) 0 rfl rfl rfl ?_
  obtain ⟨hk1, hE⟩ := ckE hE
  refine r_getI rfl (fl_11_309 rfl) (Or.inl rfl) rfl hk1 ?_
  refine r_bipush 16 rfl cb_16 ?_
  refine r_icmp_ne (tgt := 49) rfl (by decide) (fun hc2 => ?_) (fun hc2 => ?_)
  · have hE := ifP hc2 hE
    refine r_iconst 0 rfl ci_0 ?_
    refine r_istore_n 1 rfl rfl (by decide) ?_
    first | exact r_sb (Mo_keeps_b11_ok g N _ hD  N _ _ _ _ _ hE) ⟨rfl, rfl, trivial⟩ | exact r_sb (Mo_keeps_b11_ok g N _ hD  N _ _ _ _ _ hE) (by simp only [su1, su2, dr1_rf, dr1_in, dr1_lo, dr2_rf, dr2_in, dr2_lo]; exact ⟨rfl, rfl, trivial⟩)
  · have hE := ifN hc2 hE
    first | exact r_sb (Mo_keeps_b49_ok g N _ hD   _ _ _ _ hE) ⟨rfl, trivial⟩ | exact r_sb (Mo_keeps_b49_ok g N _ hD   _ _ _ _ hE) (by simp only [su1, su2, dr1_rf, dr1_in, dr1_lo, dr2_rf, dr2_in, dr2_lo]; exact ⟨rfl, trivial⟩)
def Mo_chanceOf (N : Nat) (a0 : Nat) (x1 : Int32) (x2 : Int32) (x3 : Int32) (h : PH) : Option (Int32 × PH) :=
  if x3 = 0 then
    ck ((hK h a0).1 = 11) <|
    ((hR h a0 11)).bind fun a_3 =>
    ck ((hK h a_3).1 = 20) <|
    ck (inb ((4 * x1) + x2) (hK h a_3).2 = true) <|
    some ((hI h a_3 (ix ((4 * x1) + x2))), h)
  else
    if x2 = 0 then
      ck ((hK h a0).1 = 11) <|
      ((hR h a0 11)).bind fun a_9 =>
      ck ((hK h a_9).1 = 20) <|
      ck (inb (4 * x1) (hK h a_9).2 = true) <|
      ck (inb ((4 * x1) + 1) (hK h a_9).2 = true) <|
      some (((hI h a_9 (ix (4 * x1))) + (hI h a_9 (ix ((4 * x1) + 1)))), h)
    else
      if x2 = 3 then
        some (0, h)
      else
        ck ((hK h a0).1 = 11) <|
        ((hR h a0 11)).bind fun a_16 =>
        ck ((hK h a_16).1 = 20) <|
        ck (inb (((4 * x1) + x2) + 1) (hK h a_16).2 = true) <|
        some ((hI h a_16 (ix (((4 * x1) + x2) + 1))), h)
set_option maxRecDepth 20000 in
theorem Mo_chanceOf_ok (g : GT) (N : Nat) (a0 : Nat) (x1 : Int32) (x2 : Int32) (x3 : Int32) (h : PH) (v : Int32) (h' : PH) (hE : Mo_chanceOf N a0 x1 x2 x3 h = some (v, h')) (D : Nat) (hD : 0 ≤ D) : Calls g D pMo_chanceOf [va_rf (some a0), .int x1, .int x2, .int x3] h (oI v) h' := by
  refine Calls.of cok_Mo_chanceOf ht_Mo_chanceOf pl_Mo_chanceOf (fun ad => by rw [lg_len, sL_cat]; simp only [List.map_cons, List.map_nil, rf_cat, cat_i, cat_l, List.sum_cons, List.sum_nil]; decide) ?_
  rw [show lv_args 0 [va_rf (some a0), .int x1, .int x2, .int x3] = [(0, va_rf (some a0)), (1, .int x1), (2, .int x2), (3, .int x3)] from (by simp only [lv_args, rf_cat, cat_i, cat_l]; try rfl)]
  unfold Mo_chanceOf at hE
  refine r_iload_n 3 rfl rfl rfl ?_
  refine r_if_ne (tgt := 15) rfl (by decide) (fun hc1 => ?_) (fun hc1 => ?_)
  · have hE := ifP hc1 hE
    refine r_aload_n (t := some a0) 0 rfl rfl rfl ?_
    obtain ⟨hk2, hE⟩ := ckE hE
    refine r_getR rfl (fl_11_16 rfl) (Or.inr ⟨_, rfl⟩) rfl hk2 ?_
    refine r_iconst 4 rfl ci_4 ?_
    refine r_iload_n 1 rfl rfl rfl ?_
    refine r_imul rfl ?_
    refine r_iload_n 2 rfl rfl rfl ?_
    refine r_iadd rfl ?_
    obtain ⟨a_3, ha4, hE⟩ := bnE hE
    obtain ⟨hk5, hE⟩ := ckE hE
    obtain ⟨hi6, hE⟩ := ckE hE
    refine r_iald rfl ha4 hk5 hi6 ?_
    cases hE
    exact r_ret rfl (Or.inl ⟨rfl, _, _, rfl, rfl, rfl, rfl⟩)
  · have hE := ifN hc1 hE
    refine r_iload_n 2 rfl rfl rfl ?_
    refine r_if_ne (tgt := 41) rfl (by decide) (fun hc7 => ?_) (fun hc7 => ?_)
    · have hE := ifP hc7 hE
      refine r_aload_n (t := some a0) 0 rfl rfl rfl ?_
      obtain ⟨hk8, hE⟩ := ckE hE
      refine r_getR rfl (fl_11_16 rfl) (Or.inr ⟨_, rfl⟩) rfl hk8 ?_
      refine r_iconst 4 rfl ci_4 ?_
      refine r_iload_n 1 rfl rfl rfl ?_
      refine r_imul rfl ?_
      obtain ⟨a_9, ha10, hE⟩ := bnE hE
      obtain ⟨hk11, hE⟩ := ckE hE
      obtain ⟨hi12, hE⟩ := ckE hE
      refine r_iald rfl ha10 hk11 hi12 ?_
      refine r_aload_n (t := some a0) 0 rfl rfl rfl ?_
      refine r_getR rfl (fl_11_16 rfl) (Or.inr ⟨_, rfl⟩) rfl hk8 ?_
      refine r_iconst 4 rfl ci_4 ?_
      refine r_iload_n 1 rfl rfl rfl ?_
      refine r_imul rfl ?_
      refine r_iconst 1 rfl ci_1 ?_
      refine r_iadd rfl ?_
      obtain ⟨hi13, hE⟩ := ckE hE
      refine r_iald rfl ha10 hk11 hi13 ?_
      refine r_iadd rfl ?_
      refine r_goto (tgt := 62) rfl (by decide) ?_
      cases hE
      exact r_ret rfl (Or.inl ⟨rfl, _, _, rfl, rfl, rfl, rfl⟩)
    · have hE := ifN hc7 hE
      refine r_iload_n 2 rfl rfl rfl ?_
      refine r_iconst 3 rfl ci_3 ?_
      refine r_icmp_ne (tgt := 50) rfl (by decide) (fun hc14 => ?_) (fun hc14 => ?_)
      · have hE := ifP hc14 hE
        refine r_iconst 0 rfl ci_0 ?_
        refine r_goto (tgt := 62) rfl (by decide) ?_
        cases hE
        exact r_ret rfl (Or.inl ⟨rfl, _, _, rfl, rfl, rfl, rfl⟩)
      · have hE := ifN hc14 hE
        refine r_aload_n (t := some a0) 0 rfl rfl rfl ?_
        obtain ⟨hk15, hE⟩ := ckE hE
        refine r_getR rfl (fl_11_16 rfl) (Or.inr ⟨_, rfl⟩) rfl hk15 ?_
        refine r_iconst 4 rfl ci_4 ?_
        refine r_iload_n 1 rfl rfl rfl ?_
        refine r_imul rfl ?_
        refine r_iload_n 2 rfl rfl rfl ?_
        refine r_iadd rfl ?_
        refine r_iconst 1 rfl ci_1 ?_
        refine r_iadd rfl ?_
        obtain ⟨a_16, ha17, hE⟩ := bnE hE
        obtain ⟨hk18, hE⟩ := ckE hE
        obtain ⟨hi19, hE⟩ := ckE hE
        refine r_iald rfl ha17 hk18 hi19 ?_
        cases hE
        exact r_ret rfl (Or.inl ⟨rfl, _, _, rfl, rfl, rfl, rfl⟩)
def Mo_comes (N : Nat) (a0 : Nat) (x1 : Int32) (h : PH) : Option (Unit × PH) :=
  ck ((hK h a0).1 = 11) <|
  ((hR h a0 35)).bind fun a_2 =>
  ck ((hK h a_2).1 = 20) <|
  ck (inb 3 (hK h a_2).2 = true) <|
  lt0 (wI h a_2 (ix 3) x1) fun h6 =>
  ((hR h6 a0 35)).bind fun a_8 =>
  ck ((hK h6 a_8).1 = 20) <|
  ck (inb 5 (hK h6 a_8).2 = true) <|
  lt0 (wI h6 a_8 (ix 5) 1) fun h12 =>
  ((hR h12 a0 35)).bind fun a_14 =>
  ck ((hK h12 a_14).1 = 20) <|
  ck (inb 9 (hK h12 a_14).2 = true) <|
  ck (inb 9 (hK h12 a_14).2 = true) <|
  lt0 (wI h12 a_14 (ix 9) ((hI h12 a_14 (ix 9)) + x1)) fun h19 =>
  ((hR h19 a0 35)).bind fun a_21 =>
  ck ((hK h19 a_21).1 = 20) <|
  ck (inb 7 (hK h19 a_21).2 = true) <|
  ck (inb 13 (hK h19 a_21).2 = true) <|
  ck (inb 0 (hK h19 a_21).2 = true) <|
  bd (Mo_chanceOf N a0 (hI h19 a_21 (ix 0)) (x1 - (hI h19 a_21 (ix 7))) 1 h19) fun v27 h28 =>
  ck (¬ (10 : Int64) = 0) <|
  ck ((hK h28 a0).1 = 11) <|
  ((hR h28 a0 35)).bind fun a_32 =>
  ck ((hK h28 a_32).1 = 20) <|
  ck (inb 13 (hK h28 a_32).2 = true) <|
  ck (inb 0 (hK h28 a_32).2 = true) <|
  bd (Mo_chanceOf N a0 (hI h28 a_32 (ix 0)) (x1 - (hI h19 a_21 (ix 7))) 0 h28) fun v37 h38 =>
  ck (¬ (10 : Int64) = 0) <|
  if (lg_cmp ((((Int32.toInt64 (hI h19 a_21 (ix 13))) * (Int32.toInt64 v27)) / 10) + (((1000000 - (Int32.toInt64 (hI h28 a_32 (ix 13)))) * (Int32.toInt64 v37)) / 10)) 0) ≤ 0 then
    some ((), h38)
  else
    ck ((hK h38 a0).1 = 11) <|
    ck (¬ ((((Int32.toInt64 (hI h19 a_21 (ix 13))) * (Int32.toInt64 v27)) / 10) + (((1000000 - (Int32.toInt64 (hI h28 a_32 (ix 13)))) * (Int32.toInt64 v37)) / 10)) = 0) <|
    ((hR h38 a0 35)).bind fun a_44 =>
    ck ((hK h38 a_44).1 = 20) <|
    ck (inb 13 (hK h38 a_44).2 = true) <|
    lt0 (wI h38 a_44 (ix 13) (Int64.toInt32 (((((Int32.toInt64 (hI h19 a_21 (ix 13))) * (Int32.toInt64 v27)) / 10) * 1000000) / ((((Int32.toInt64 (hI h19 a_21 (ix 13))) * (Int32.toInt64 v27)) / 10) + (((1000000 - (Int32.toInt64 (hI h28 a_32 (ix 13)))) * (Int32.toInt64 v37)) / 10))))) fun h48 =>
    some ((), h48)
set_option maxRecDepth 20000 in
theorem Mo_comes_ok (g : GT) (N : Nat) (a0 : Nat) (x1 : Int32) (h : PH) (v : Unit) (h' : PH) (hE : Mo_comes N a0 x1 h = some (v, h')) (D : Nat) (hD : 1 ≤ D) : Calls g D pMo_comes [va_rf (some a0), .int x1] h (oV v) h' := by
  refine Calls.of cok_Mo_comes ht_Mo_comes pl_Mo_comes (fun ad => by rw [lg_len, sL_cat]; simp only [List.map_cons, List.map_nil, rf_cat, cat_i, cat_l, List.sum_cons, List.sum_nil]; decide) ?_
  rw [show lv_args 0 [va_rf (some a0), .int x1] = [(0, va_rf (some a0)), (1, .int x1)] from (by simp only [lv_args, rf_cat, cat_i, cat_l]; try rfl)]
  obtain ⟨D2, rfl⟩ : ∃ d, D = d + 1 := ⟨D - 1, by omega⟩
  unfold Mo_comes at hE
  refine r_aload_n (t := some a0) 0 rfl rfl rfl ?_
  obtain ⟨hk1, hE⟩ := ckE hE
  refine r_getR rfl (fl_11_81 rfl) (Or.inr ⟨_, rfl⟩) rfl hk1 ?_
  refine r_iconst 3 rfl ci_3 ?_
  refine r_iload_n 1 rfl rfl rfl ?_
  obtain ⟨a_2, ha3, hE⟩ := bnE hE
  obtain ⟨hk4, hE⟩ := ckE hE
  obtain ⟨hi5, hE⟩ := ckE hE
  obtain ⟨h6, he7, hE⟩ := ltE hE
  refine r_iast rfl ha3 hk4 hi5 he7 ?_
  refine r_aload_n (t := some a0) 0 rfl rfl rfl ?_
  refine r_getR rfl (fl_11_81 rfl) (Or.inr ⟨_, rfl⟩) rfl (kwI he7 hk1) ?_
  refine r_iconst 5 rfl ci_5 ?_
  refine r_iconst 1 rfl ci_1 ?_
  obtain ⟨a_8, ha9, hE⟩ := bnE hE
  obtain ⟨hk10, hE⟩ := ckE hE
  obtain ⟨hi11, hE⟩ := ckE hE
  obtain ⟨h12, he13, hE⟩ := ltE hE
  refine r_iast rfl ha9 hk10 hi11 he13 ?_
  refine r_aload_n (t := some a0) 0 rfl rfl rfl ?_
  refine r_getR rfl (fl_11_81 rfl) (Or.inr ⟨_, rfl⟩) rfl (kwI he13 (kwI he7 hk1)) ?_
  refine r_bipush 9 rfl cb_9 ?_
  refine r_dup2 rfl rfl (rf_cat _) ?_
  obtain ⟨a_14, ha15, hE⟩ := bnE hE
  obtain ⟨hk16, hE⟩ := ckE hE
  obtain ⟨hi17, hE⟩ := ckE hE
  refine r_iald rfl ha15 hk16 hi17 ?_
  refine r_iload_n 1 rfl rfl rfl ?_
  refine r_iadd rfl ?_
  obtain ⟨hi18, hE⟩ := ckE hE
  obtain ⟨h19, he20, hE⟩ := ltE hE
  refine r_iast rfl ha15 hk16 hi18 he20 ?_
  refine r_iload_n 1 rfl rfl rfl ?_
  refine r_aload_n (t := some a0) 0 rfl rfl rfl ?_
  refine r_getR rfl (fl_11_81 rfl) (Or.inr ⟨_, rfl⟩) rfl (kwI he20 (kwI he13 (kwI he7 hk1))) ?_
  refine r_bipush 7 rfl cb_7 ?_
  obtain ⟨a_21, ha22, hE⟩ := bnE hE
  obtain ⟨hk23, hE⟩ := ckE hE
  obtain ⟨hi24, hE⟩ := ckE hE
  refine r_iald rfl ha22 hk23 hi24 ?_
  refine r_isub rfl ?_
  refine r_istore_n 2 rfl rfl (by decide) ?_
  refine r_aload_n (t := some a0) 0 rfl rfl rfl ?_
  refine r_getR rfl (fl_11_81 rfl) (Or.inr ⟨_, rfl⟩) rfl (kwI he20 (kwI he13 (kwI he7 hk1))) ?_
  refine r_bipush 13 rfl cb_13 ?_
  obtain ⟨hi25, hE⟩ := ckE hE
  refine r_iald rfl ha22 hk23 hi25 ?_
  refine r_i2l rfl ?_
  refine r_aload_n (t := some a0) 0 rfl rfl rfl ?_
  refine r_aload_n (t := some a0) 0 rfl rfl rfl ?_
  refine r_getR rfl (fl_11_81 rfl) (Or.inr ⟨_, rfl⟩) rfl (kwI he20 (kwI he13 (kwI he7 hk1))) ?_
  refine r_iconst 0 rfl ci_0 ?_
  obtain ⟨hi26, hE⟩ := ckE hE
  refine r_iald rfl ha22 hk23 hi26 ?_
  refine r_iload_n 2 rfl rfl rfl ?_
  refine r_iconst 1 rfl ci_1 ?_
  obtain ⟨v27, h28, hq29, hE⟩ := bdE hE
  refine r_callV1 (rest := [.long (Int32.toInt64 (hI h19 a_21 (ix 13)))]) (hc := (Mo_chanceOf_ok g N _ _ _ _ _ _ _ hq29 D2 (by omega))) rfl pm_Mo_chanceOf lw_11_347 im_Mo_chanceOf sl_Mo_chanceOf rfl rfl rfl (rcOK (kwI he20 (kwI he13 (kwI he7 hk1))) rfl) (by simp only [List.map_cons, List.map_nil, rf_cat, cat_i, cat_l, List.sum_cons, List.sum_nil]; decide) ?_
  refine r_i2l rfl ?_
  refine r_lmul rfl ?_
  refine r_ldc2 rfl kc_11_351 ?_
  obtain ⟨hc30, hE⟩ := ckE hE
  refine r_ldiv rfl hc30 ?_
  refine r_lstore_n 3 rfl rfl (by decide) ?_
  refine r_ldc2 rfl kc_11_353 ?_
  refine r_aload_n (t := some a0) 0 rfl rfl rfl ?_
  obtain ⟨hk31, hE⟩ := ckE hE
  refine r_getR rfl (fl_11_81 rfl) (Or.inr ⟨_, rfl⟩) rfl hk31 ?_
  refine r_bipush 13 rfl cb_13 ?_
  obtain ⟨a_32, ha33, hE⟩ := bnE hE
  obtain ⟨hk34, hE⟩ := ckE hE
  obtain ⟨hi35, hE⟩ := ckE hE
  refine r_iald rfl ha33 hk34 hi35 ?_
  refine r_i2l rfl ?_
  refine r_lsub rfl ?_
  refine r_aload_n (t := some a0) 0 rfl rfl rfl ?_
  refine r_aload_n (t := some a0) 0 rfl rfl rfl ?_
  refine r_getR rfl (fl_11_81 rfl) (Or.inr ⟨_, rfl⟩) rfl hk31 ?_
  refine r_iconst 0 rfl ci_0 ?_
  obtain ⟨hi36, hE⟩ := ckE hE
  refine r_iald rfl ha33 hk34 hi36 ?_
  refine r_iload_n 2 rfl rfl rfl ?_
  refine r_iconst 0 rfl ci_0 ?_
  obtain ⟨v37, h38, hq39, hE⟩ := bdE hE
  refine r_callV1 (rest := [.long (1000000 - (Int32.toInt64 (hI h28 a_32 (ix 13))))]) (hc := (Mo_chanceOf_ok g N _ _ _ _ _ _ _ hq39 D2 (by omega))) rfl pm_Mo_chanceOf lw_11_347 im_Mo_chanceOf sl_Mo_chanceOf rfl rfl rfl (rcOK hk31 rfl) (by simp only [List.map_cons, List.map_nil, rf_cat, cat_i, cat_l, List.sum_cons, List.sum_nil]; decide) ?_
  refine r_i2l rfl ?_
  refine r_lmul rfl ?_
  refine r_ldc2 rfl kc_11_351 ?_
  obtain ⟨hc40, hE⟩ := ckE hE
  refine r_ldiv rfl hc40 ?_
  refine r_lstore rfl (by decide) ?_
  refine r_lload_n 3 rfl rfl rfl ?_
  refine r_lload rfl rfl ?_
  refine r_ladd rfl ?_
  refine r_lconst 0 rfl cl_0 ?_
  refine r_lcmp rfl ?_
  refine r_if_le (tgt := 121) rfl (by decide) (fun hc41 => ?_) (fun hc41 => ?_)
  · have hE := ifP hc41 hE
    cases hE
    exact r_ret rfl (Or.inr (Or.inr (Or.inr ⟨rfl, rfl, rfl, rfl⟩)))
  · have hE := ifN hc41 hE
    refine r_aload_n (t := some a0) 0 rfl rfl rfl ?_
    obtain ⟨hk42, hE⟩ := ckE hE
    refine r_getR rfl (fl_11_81 rfl) (Or.inr ⟨_, rfl⟩) rfl hk42 ?_
    refine r_bipush 13 rfl cb_13 ?_
    refine r_lload_n 3 rfl rfl rfl ?_
    refine r_ldc2 rfl kc_11_353 ?_
    refine r_lmul rfl ?_
    refine r_lload_n 3 rfl rfl rfl ?_
    refine r_lload rfl rfl ?_
    refine r_ladd rfl ?_
    obtain ⟨hc43, hE⟩ := ckE hE
    refine r_ldiv rfl hc43 ?_
    refine r_l2i rfl ?_
    obtain ⟨a_44, ha45, hE⟩ := bnE hE
    obtain ⟨hk46, hE⟩ := ckE hE
    obtain ⟨hi47, hE⟩ := ckE hE
    obtain ⟨h48, he49, hE⟩ := ltE hE
    refine r_iast rfl ha45 hk46 hi47 he49 ?_
    cases hE
    exact r_ret rfl (Or.inr (Or.inr (Or.inr ⟨rfl, rfl, rfl, rfl⟩)))
def Mo_come (N : Nat) (a0 : Nat) (x1 : Int32) (h : PH) : Option (Bool × PH) :=
  ck ((hK h a0).1 = 11) <|
  lt0 (wI h a0 0 0) fun h2 =>
  bd (Mo_canCome N a0 x1 h2) fun v4 h5 =>
  if (bI v4) = 0 then
    some (false, h5)
  else
    ck ((hK h5 a0).1 = 11) <|
    bd (Mo_keeps N a0 h5) fun v9 h10 =>
    ck ((hK h10 a0).1 = 11) <|
    bd (Mo_comes N a0 x1 h10) fun v13 h14 =>
    some (true, h14)
set_option maxRecDepth 20000 in
theorem Mo_come_ok (g : GT) (N : Nat) (a0 : Nat) (x1 : Int32) (h : PH) (v : Bool) (h' : PH) (hE : Mo_come N a0 x1 h = some (v, h')) (D : Nat) (hD : 2 ≤ D) : Calls g D pMo_come [va_rf (some a0), .int x1] h (oZ v) h' := by
  refine Calls.of cok_Mo_come ht_Mo_come pl_Mo_come (fun ad => by rw [lg_len, sL_cat]; simp only [List.map_cons, List.map_nil, rf_cat, cat_i, cat_l, List.sum_cons, List.sum_nil]; decide) ?_
  rw [show lv_args 0 [va_rf (some a0), .int x1] = [(0, va_rf (some a0)), (1, .int x1)] from (by simp only [lv_args, rf_cat, cat_i, cat_l]; try rfl)]
  obtain ⟨D2, rfl⟩ : ∃ d, D = d + 1 := ⟨D - 1, by omega⟩
  unfold Mo_come at hE
  refine r_aload_n (t := some a0) 0 rfl rfl rfl ?_
  refine r_iconst 0 rfl ci_0 ?_
  obtain ⟨hk1, hE⟩ := ckE hE
  obtain ⟨h2, he3, hE⟩ := ltE hE
  refine r_putI rfl (fl_11_119 rfl) finF rfl hk1 he3 ?_
  refine r_aload_n (t := some a0) 0 rfl rfl rfl ?_
  refine r_iload_n 1 rfl rfl rfl ?_
  obtain ⟨v4, h5, hq6, hE⟩ := bdE hE
  refine r_callV1 (rest := []) (hc := (Mo_canCome_ok g N _ _ _ _ _ hq6 D2 (by omega))) rfl pm_Mo_canCome lw_11_368 im_Mo_canCome sl_Mo_canCome rfl rfl rfl (rcOK (kwI he3 hk1) rfl) (by decide) ?_
  refine r_if_ne (tgt := 15) rfl (by decide) (fun hc7 => ?_) (fun hc7 => ?_)
  · have hE := ifP hc7 hE
    refine r_iconst 0 rfl ci_0 ?_
    cases hE
    exact r_ret rfl (Or.inl ⟨rfl, _, _, rfl, rfl, rfl, rfl⟩)
  · have hE := ifN hc7 hE
    refine r_aload_n (t := some a0) 0 rfl rfl rfl ?_
    obtain ⟨hk8, hE⟩ := ckE hE
    obtain ⟨v9, h10, hq11, hE⟩ := bdE hE
    refine r_callV0 (rest := []) (hc := (Mo_keeps_ok g N _ _ _ _ hq11 D2 (by omega))) rfl pm_Mo_keeps lw_11_371 im_Mo_keeps sl_Mo_keeps rfl rfl rfl (rcOK hk8 rfl) (by decide) ?_
    refine r_aload_n (t := some a0) 0 rfl rfl rfl ?_
    refine r_iload_n 1 rfl rfl rfl ?_
    obtain ⟨hk12, hE⟩ := ckE hE
    obtain ⟨v13, h14, hq15, hE⟩ := bdE hE
    refine r_callV0 (rest := []) (hc := (Mo_comes_ok g N _ _ _ _ _ hq15 D2 (by omega))) rfl pm_Mo_comes lw_11_374 im_Mo_comes sl_Mo_comes rfl rfl rfl (rcOK hk12 rfl) (by decide) ?_
    refine r_iconst 1 rfl ci_1 ?_
    cases hE
    exact r_ret rfl (Or.inl ⟨rfl, _, _, rfl, rfl, rfl, rfl⟩)
def Mo_canGive (N : Nat) (a0 : Nat) (h : PH) : Option (Bool × PH) :=
  ck ((hK h a0).1 = 11) <|
  ((hR h a0 35)).bind fun a_2 =>
  ck ((hK h a_2).1 = 20) <|
  ck (inb 3 (hK h a_2).2 = true) <|
  if (hI h a_2 (ix 3)) ≤ 0 then
    some (false, h)
  else
    ck (inb 4 (hK h a_2).2 = true) <|
    if (hI h a_2 (ix 4)) = 0 then
      some (true, h)
    else
      some (false, h)
set_option maxRecDepth 20000 in
theorem Mo_canGive_ok (g : GT) (N : Nat) (a0 : Nat) (h : PH) (v : Bool) (h' : PH) (hE : Mo_canGive N a0 h = some (v, h')) (D : Nat) (hD : 0 ≤ D) : Calls g D pMo_canGive [va_rf (some a0)] h (oZ v) h' := by
  refine Calls.of cok_Mo_canGive ht_Mo_canGive pl_Mo_canGive (fun ad => by rw [lg_len, sL_cat]; simp only [List.map_cons, List.map_nil, rf_cat, cat_i, cat_l, List.sum_cons, List.sum_nil]; decide) ?_
  rw [show lv_args 0 [va_rf (some a0)] = [(0, va_rf (some a0))] from (by simp only [lv_args, rf_cat, cat_i, cat_l]; try rfl)]
  unfold Mo_canGive at hE
  refine r_aload_n (t := some a0) 0 rfl rfl rfl ?_
  obtain ⟨hk1, hE⟩ := ckE hE
  refine r_getR rfl (fl_11_81 rfl) (Or.inr ⟨_, rfl⟩) rfl hk1 ?_
  refine r_iconst 3 rfl ci_3 ?_
  obtain ⟨a_2, ha3, hE⟩ := bnE hE
  obtain ⟨hk4, hE⟩ := ckE hE
  obtain ⟨hi5, hE⟩ := ckE hE
  refine r_iald rfl ha3 hk4 hi5 ?_
  refine r_if_le (tgt := 22) rfl (by decide) (fun hc6 => ?_) (fun hc6 => ?_)
  · have hE := ifP hc6 hE
    refine r_iconst 0 rfl ci_0 ?_
    cases hE
    exact r_ret rfl (Or.inl ⟨rfl, _, _, rfl, rfl, rfl, rfl⟩)
  · have hE := ifN hc6 hE
    refine r_aload_n (t := some a0) 0 rfl rfl rfl ?_
    refine r_getR rfl (fl_11_81 rfl) (Or.inr ⟨_, rfl⟩) rfl hk1 ?_
    refine r_iconst 4 rfl ci_4 ?_
    obtain ⟨hi7, hE⟩ := ckE hE
    refine r_iald rfl ha3 hk4 hi7 ?_
    refine r_if_ne (tgt := 22) rfl (by decide) (fun hc8 => ?_) (fun hc8 => ?_)
    · have hE := ifP hc8 hE
      refine r_iconst 1 rfl ci_1 ?_
      refine r_goto (tgt := 23) rfl (by decide) ?_
      cases hE
      exact r_ret rfl (Or.inl ⟨rfl, _, _, rfl, rfl, rfl, rfl⟩)
    · have hE := ifN hc8 hE
      refine r_iconst 0 rfl ci_0 ?_
      cases hE
      exact r_ret rfl (Or.inl ⟨rfl, _, _, rfl, rfl, rfl, rfl⟩)
def Mo_nothing_b32 (N : Nat) (a0 : Nat) (h : PH) : Option (Int32 × PH) :=
  ck ((hK h a0).1 = 11) <|
  ((hR h a0 10)).bind fun a_2 =>
  ck ((hK h a_2).1 = 20) <|
  ck (inb 8 (hK h a_2).2 = true) <|
  some ((hI h a_2 (ix 8)), h)
set_option maxRecDepth 20000 in
theorem Mo_nothing_b32_ok (g : GT) (N : Nat) (D : Nat) (hD : 0 ≤ D) : ∀ (a0 : Nat) (h : PH) (v : Int32) (h' : PH), Mo_nothing_b32 N a0 h = some (v, h') → Run g pMo_nothing D 32 [(0, va_rf (some a0))] [] h (rI v) h' := by
  intro a0 h v h' hE
  unfold Mo_nothing_b32 at hE
  refine r_aload_n (t := some a0) 0 rfl rfl rfl ?_
  obtain ⟨hk1, hE⟩ := ckE hE
  refine r_getR rfl (fl_11_13 rfl) (Or.inr ⟨_, rfl⟩) rfl hk1 ?_
  refine r_bipush 8 rfl cb_8 ?_
  obtain ⟨a_2, ha3, hE⟩ := bnE hE
  obtain ⟨hk4, hE⟩ := ckE hE
  obtain ⟨hi5, hE⟩ := ckE hE
  refine r_iald rfl ha3 hk4 hi5 ?_
  cases hE
  exact r_ret rfl (Or.inl ⟨rfl, _, _, rfl, rfl, rfl, rfl⟩)
def Mo_nothing (N : Nat) (a0 : Nat) (x1 : Int32) (h : PH) : Option (Int32 × PH) :=
  ck ((hK h a0).1 = 11) <|
  ((hR h a0 10)).bind fun a_2 =>
  ck ((hK h a_2).1 = 20) <|
  ck (inb 16 (hK h a_2).2 = true) <|
  if (hI h a_2 (ix 16)) = 1 then
    ck (inb 10 (hK h a_2).2 = true) <|
    if x1 < (hI h a_2 (ix 10)) then
      Mo_nothing_b32 N  a0 h
    else
      ck (inb 9 (hK h a_2).2 = true) <|
      some ((hI h a_2 (ix 9)), h)
  else
    Mo_nothing_b32 N  a0 h
set_option maxRecDepth 20000 in
theorem Mo_nothing_ok (g : GT) (N : Nat) (a0 : Nat) (x1 : Int32) (h : PH) (v : Int32) (h' : PH) (hE : Mo_nothing N a0 x1 h = some (v, h')) (D : Nat) (hD : 0 ≤ D) : Calls g D pMo_nothing [va_rf (some a0), .int x1] h (oI v) h' := by
  refine Calls.of cok_Mo_nothing ht_Mo_nothing pl_Mo_nothing (fun ad => by rw [lg_len, sL_cat]; simp only [List.map_cons, List.map_nil, rf_cat, cat_i, cat_l, List.sum_cons, List.sum_nil]; decide) ?_
  rw [show lv_args 0 [va_rf (some a0), .int x1] = [(0, va_rf (some a0)), (1, .int x1)] from (by simp only [lv_args, rf_cat, cat_i, cat_l]; try rfl)]
  unfold Mo_nothing at hE
  refine r_aload_n (t := some a0) 0 rfl rfl rfl ?_
  obtain ⟨hk1, hE⟩ := ckE hE
  refine r_getR rfl (fl_11_13 rfl) (Or.inr ⟨_, rfl⟩) rfl hk1 ?_
  refine r_bipush 16 rfl cb_16 ?_
  obtain ⟨a_2, ha3, hE⟩ := bnE hE
  obtain ⟨hk4, hE⟩ := ckE hE
  obtain ⟨hi5, hE⟩ := ckE hE
  refine r_iald rfl ha3 hk4 hi5 ?_
  refine r_iconst 1 rfl ci_1 ?_
  refine r_icmp_ne (tgt := 32) rfl (by decide) (fun hc6 => ?_) (fun hc6 => ?_)
  · have hE := ifP hc6 hE
    refine r_iload_n 1 rfl rfl rfl ?_
    refine r_aload_n (t := some a0) 0 rfl rfl rfl ?_
    refine r_getR rfl (fl_11_13 rfl) (Or.inr ⟨_, rfl⟩) rfl hk1 ?_
    refine r_bipush 10 rfl cb_10 ?_
    obtain ⟨hi7, hE⟩ := ckE hE
    refine r_iald rfl ha3 hk4 hi7 ?_
    refine r_icmp_lt (tgt := 32) rfl (by decide) (fun hc8 => ?_) (fun hc8 => ?_)
    · have hE := ifP hc8 hE
      first | exact r_sb (Mo_nothing_b32_ok g N _ hD   _ _ _ _ hE) ⟨rfl, trivial⟩ | exact r_sb (Mo_nothing_b32_ok g N _ hD   _ _ _ _ hE) (by simp only [su1, su2, dr1_rf, dr1_in, dr1_lo, dr2_rf, dr2_in, dr2_lo]; exact ⟨rfl, trivial⟩)
    · have hE := ifN hc8 hE
      refine r_aload_n (t := some a0) 0 rfl rfl rfl ?_
      refine r_getR rfl (fl_11_13 rfl) (Or.inr ⟨_, rfl⟩) rfl hk1 ?_
      refine r_bipush 9 rfl cb_9 ?_
      obtain ⟨hi9, hE⟩ := ckE hE
      refine r_iald rfl ha3 hk4 hi9 ?_
      refine r_goto (tgt := 39) rfl (by decide) ?_
      cases hE
      exact r_ret rfl (Or.inl ⟨rfl, _, _, rfl, rfl, rfl, rfl⟩)
  · have hE := ifN hc6 hE
    first | exact r_sb (Mo_nothing_b32_ok g N _ hD   _ _ _ _ hE) ⟨rfl, trivial⟩ | exact r_sb (Mo_nothing_b32_ok g N _ hD   _ _ _ _ hE) (by simp only [su1, su2, dr1_rf, dr1_in, dr1_lo, dr2_rf, dr2_in, dr2_lo]; exact ⟨rfl, trivial⟩)
def Mo_worthOf_b4 (N : Nat) : Nat → Nat → Int32 → Int32 → Int32 → PH → Option (Int32 × PH)
  | 0 => fun _ _ _ _ _ => none
  | n + 1 => fun a0 x1 x2 x3 h =>
    if x1 ≤ x3 then
      some (x2, h)
    else
      ck ((hK h a0).1 = 11) <|
      ((hR h a0 10)).bind fun a_3 =>
      ck ((hK h a_3).1 = 20) <|
      ck (inb (4 + x3) (hK h a_3).2 = true) <|
      (Mo_worthOf_b4 N n) a0 x1 (x2 + (hI h a_3 (ix (4 + x3)))) (x3 + 1) h
set_option maxRecDepth 20000 in
theorem Mo_worthOf_b4_ok (g : GT) (N : Nat) (D : Nat) (hD : 0 ≤ D) : ∀ (n : Nat) (a0 : Nat) (x1 : Int32) (x2 : Int32) (x3 : Int32) (h : PH) (v : Int32) (h' : PH), Mo_worthOf_b4 N n a0 x1 x2 x3 h = some (v, h') → Run g pMo_worthOf D 4 [(0, va_rf (some a0)), (1, .int x1), (2, .int x2), (3, .int x3)] [] h (rI v) h' := by
  intro n
  induction n with
  | zero => exact fun _ _ _ _ _ _ _ hE => nomatch (show none = some _ from hE)
  | succ n ih =>
    intro a0 x1 x2 x3 h v h' hE
    unfold Mo_worthOf_b4 at hE
    refine r_iload_n 3 rfl rfl rfl ?_
    refine r_iload_n 1 rfl rfl rfl ?_
    refine r_icmp_ge (tgt := 26) rfl (by decide) (fun hc1 => ?_) (fun hc1 => ?_)
    · have hE := ifP hc1 hE
      refine r_iload_n 2 rfl rfl rfl ?_
      cases hE
      exact r_ret rfl (Or.inl ⟨rfl, _, _, rfl, rfl, rfl, rfl⟩)
    · have hE := ifN hc1 hE
      refine r_iload_n 2 rfl rfl rfl ?_
      refine r_aload_n (t := some a0) 0 rfl rfl rfl ?_
      obtain ⟨hk2, hE⟩ := ckE hE
      refine r_getR rfl (fl_11_13 rfl) (Or.inr ⟨_, rfl⟩) rfl hk2 ?_
      refine r_iconst 4 rfl ci_4 ?_
      refine r_iload_n 3 rfl rfl rfl ?_
      refine r_iadd rfl ?_
      obtain ⟨a_3, ha4, hE⟩ := bnE hE
      obtain ⟨hk5, hE⟩ := ckE hE
      obtain ⟨hi6, hE⟩ := ckE hE
      refine r_iald rfl ha4 hk5 hi6 ?_
      refine r_iadd rfl ?_
      refine r_istore_n 2 rfl rfl (by decide) ?_
      refine r_iinc _ rfl rfl (congrArg _ ci_1) (by decide) ?_
      refine r_goto (tgt := 4) rfl (by decide) ?_
      first | exact r_sb (ih _ _ _ _ _ _ _ hE) ⟨rfl, rfl, rfl, rfl, trivial⟩ | exact r_sb (ih _ _ _ _ _ _ _ hE) (by simp only [su1, su2, dr1_rf, dr1_in, dr1_lo, dr2_rf, dr2_in, dr2_lo]; exact ⟨rfl, rfl, rfl, rfl, trivial⟩)
def Mo_worthOf (N : Nat) (a0 : Nat) (x1 : Int32) (h : PH) : Option (Int32 × PH) :=
  Mo_worthOf_b4 N N a0 x1 0 0 h
set_option maxRecDepth 20000 in
theorem Mo_worthOf_ok (g : GT) (N : Nat) (a0 : Nat) (x1 : Int32) (h : PH) (v : Int32) (h' : PH) (hE : Mo_worthOf N a0 x1 h = some (v, h')) (D : Nat) (hD : 0 ≤ D) : Calls g D pMo_worthOf [va_rf (some a0), .int x1] h (oI v) h' := by
  refine Calls.of cok_Mo_worthOf ht_Mo_worthOf pl_Mo_worthOf (fun ad => by rw [lg_len, sL_cat]; simp only [List.map_cons, List.map_nil, rf_cat, cat_i, cat_l, List.sum_cons, List.sum_nil]; decide) ?_
  rw [show lv_args 0 [va_rf (some a0), .int x1] = [(0, va_rf (some a0)), (1, .int x1)] from (by simp only [lv_args, rf_cat, cat_i, cat_l]; try rfl)]
  unfold Mo_worthOf at hE
  refine r_iconst 0 rfl ci_0 ?_
  refine r_istore_n 2 rfl rfl (by decide) ?_
  refine r_iconst 0 rfl ci_0 ?_
  refine r_istore_n 3 rfl rfl (by decide) ?_
  first | exact r_sb (Mo_worthOf_b4_ok g N _ hD  N _ _ _ _ _ _ _ hE) ⟨rfl, rfl, rfl, rfl, trivial⟩ | exact r_sb (Mo_worthOf_b4_ok g N _ hD  N _ _ _ _ _ _ _ hE) (by simp only [su1, su2, dr1_rf, dr1_in, dr1_lo, dr2_rf, dr2_in, dr2_lo]; exact ⟨rfl, rfl, rfl, rfl, trivial⟩)
def Mo_gives_b140 (N : Nat) (self_23 : Nat → Int32 → Int32 → Int32 → Int32 → Int32 → PH → Option (Int32 × PH)) (a0 : Nat) (x1 : Int32) (x2 : Int32) (x3 : Int32) (x6 : Int32) (x7 : Int32) (h : PH) : Option (Int32 × PH) :=
  self_23 a0 x1 x2 x3 x6 (x7 + 1) h
set_option maxRecDepth 20000 in
theorem Mo_gives_b140_ok (g : GT) (N : Nat) (D : Nat) (hD : 1 ≤ D) (self_23 : Nat → Int32 → Int32 → Int32 → Int32 → Int32 → PH → Option (Int32 × PH)) (hself_23 : ∀ (a0 : Nat) (x1 : Int32) (x2 : Int32) (x3 : Int32) (x6 : Int32) (x7 : Int32) (h : PH) (v : Int32) (h' : PH), self_23 a0 x1 x2 x3 x6 x7 h = some (v, h') → Run g pMo_gives D 23 [(0, va_rf (some a0)), (1, .int x1), (2, .int x2), (3, .int x3), (6, .int x6), (7, .int x7)] [] h (rI v) h') : ∀ (a0 : Nat) (x1 : Int32) (x2 : Int32) (x3 : Int32) (x6 : Int32) (x7 : Int32) (h : PH) (v : Int32) (h' : PH), Mo_gives_b140 N self_23 a0 x1 x2 x3 x6 x7 h = some (v, h') → Run g pMo_gives D 140 [(0, va_rf (some a0)), (1, .int x1), (2, .int x2), (3, .int x3), (6, .int x6), (7, .int x7)] [] h (rI v) h' := by
  obtain ⟨D2, rfl⟩ : ∃ d, D = d + 1 := ⟨D - 1, by omega⟩
  intro a0 x1 x2 x3 x6 x7 h v h' hE
  unfold Mo_gives_b140 at hE
  refine r_iinc _ rfl rfl (congrArg _ ci_1) (by decide) ?_
  refine r_goto (tgt := 23) rfl (by decide) ?_
  first | exact r_sb (hself_23 _ _ _ _ _ _ _ _ _ hE) ⟨rfl, rfl, rfl, rfl, rfl, rfl, trivial⟩ | exact r_sb (hself_23 _ _ _ _ _ _ _ _ _ hE) (by simp only [su1, su2, dr1_rf, dr1_in, dr1_lo, dr2_rf, dr2_in, dr2_lo]; exact ⟨rfl, rfl, rfl, rfl, rfl, rfl, trivial⟩)
def Mo_gives_b136 (N : Nat) (self_23 : Nat → Int32 → Int32 → Int32 → Int32 → Int32 → PH → Option (Int32 × PH)) (s0 : Nat) (s1 : Int32) (s2 : Int32) (a0 : Nat) (x1 : Int32) (x2 : Int32) (x3 : Int32) (x6 : Int32) (x7 : Int32) (h : PH) : Option (Int32 × PH) :=
  ck ((hK h s0).1 = 11) <|
  lt0 (wI h s0 43 (s1 + s2)) fun h2 =>
  Mo_gives_b140 N self_23  a0 x1 x2 x3 x6 x7 h2
set_option maxRecDepth 20000 in
theorem Mo_gives_b136_ok (g : GT) (N : Nat) (D : Nat) (hD : 1 ≤ D) (self_23 : Nat → Int32 → Int32 → Int32 → Int32 → Int32 → PH → Option (Int32 × PH)) (hself_23 : ∀ (a0 : Nat) (x1 : Int32) (x2 : Int32) (x3 : Int32) (x6 : Int32) (x7 : Int32) (h : PH) (v : Int32) (h' : PH), self_23 a0 x1 x2 x3 x6 x7 h = some (v, h') → Run g pMo_gives D 23 [(0, va_rf (some a0)), (1, .int x1), (2, .int x2), (3, .int x3), (6, .int x6), (7, .int x7)] [] h (rI v) h') : ∀ (s0 : Nat) (s1 : Int32) (s2 : Int32) (a0 : Nat) (x1 : Int32) (x2 : Int32) (x3 : Int32) (x6 : Int32) (x7 : Int32) (h : PH) (v : Int32) (h' : PH), Mo_gives_b136 N self_23 s0 s1 s2 a0 x1 x2 x3 x6 x7 h = some (v, h') → Run g pMo_gives D 136 [(0, va_rf (some a0)), (1, .int x1), (2, .int x2), (3, .int x3), (6, .int x6), (7, .int x7)] [.int s2, .int s1, va_rf (some s0)] h (rI v) h' := by
  obtain ⟨D2, rfl⟩ : ∃ d, D = d + 1 := ⟨D - 1, by omega⟩
  intro s0 s1 s2 a0 x1 x2 x3 x6 x7 h v h' hE
  unfold Mo_gives_b136 at hE
  refine r_iadd rfl ?_
  obtain ⟨hk1, hE⟩ := ckE hE
  obtain ⟨h2, he3, hE⟩ := ltE hE
  refine r_putI rfl (fl_11_325 rfl) finF rfl hk1 he3 ?_
  first | exact r_sb (Mo_gives_b140_ok g N _ hD _ hself_23  _ _ _ _ _ _ _ _ _ hE) ⟨rfl, rfl, rfl, rfl, rfl, rfl, trivial⟩ | exact r_sb (Mo_gives_b140_ok g N _ hD _ hself_23  _ _ _ _ _ _ _ _ _ hE) (by simp only [su1, su2, dr1_rf, dr1_in, dr1_lo, dr2_rf, dr2_in, dr2_lo]; exact ⟨rfl, rfl, rfl, rfl, rfl, rfl, trivial⟩)
def Mo_gives_b118 (N : Nat) (self_23 : Nat → Int32 → Int32 → Int32 → Int32 → Int32 → PH → Option (Int32 × PH)) (s0 : Int32) (s1 : Int32) (a0 : Nat) (x1 : Int32) (x2 : Int32) (x3 : Int32) (x7 : Int32) (x8 : Int32) (h : PH) : Option (Int32 × PH) :=
  ck ((hK h a0).1 = 11) <|
  if x8 = 0 then
    Mo_gives_b136 N self_23  a0 (hI h a0 43) 1 a0 x1 x2 x3 (s0 + s1) x7 h
  else
    Mo_gives_b136 N self_23  a0 (hI h a0 43) 0 a0 x1 x2 x3 (s0 + s1) x7 h
set_option maxRecDepth 20000 in
theorem Mo_gives_b118_ok (g : GT) (N : Nat) (D : Nat) (hD : 1 ≤ D) (self_23 : Nat → Int32 → Int32 → Int32 → Int32 → Int32 → PH → Option (Int32 × PH)) (hself_23 : ∀ (a0 : Nat) (x1 : Int32) (x2 : Int32) (x3 : Int32) (x6 : Int32) (x7 : Int32) (h : PH) (v : Int32) (h' : PH), self_23 a0 x1 x2 x3 x6 x7 h = some (v, h') → Run g pMo_gives D 23 [(0, va_rf (some a0)), (1, .int x1), (2, .int x2), (3, .int x3), (6, .int x6), (7, .int x7)] [] h (rI v) h') : ∀ (s0 : Int32) (s1 : Int32) (a0 : Nat) (x1 : Int32) (x2 : Int32) (x3 : Int32) (x7 : Int32) (x8 : Int32) (h : PH) (v : Int32) (h' : PH), Mo_gives_b118 N self_23 s0 s1 a0 x1 x2 x3 x7 x8 h = some (v, h') → Run g pMo_gives D 118 [(0, va_rf (some a0)), (1, .int x1), (2, .int x2), (3, .int x3), (7, .int x7), (8, .int x8)] [.int s1, .int s0] h (rI v) h' := by
  obtain ⟨D2, rfl⟩ : ∃ d, D = d + 1 := ⟨D - 1, by omega⟩
  intro s0 s1 a0 x1 x2 x3 x7 x8 h v h' hE
  unfold Mo_gives_b118 at hE
  refine r_iadd rfl ?_
  refine r_istore rfl (by decide) ?_
  refine r_aload_n (t := some a0) 0 rfl rfl rfl ?_
  refine r_dup rfl (rf_cat _) ?_
  obtain ⟨hk1, hE⟩ := ckE hE
  refine r_getI rfl (fl_11_325 rfl) (Or.inl rfl) rfl hk1 ?_
  refine r_iload rfl rfl ?_
  refine r_if_ne (tgt := 135) rfl (by decide) (fun hc2 => ?_) (fun hc2 => ?_)
  · have hE := ifP hc2 hE
    refine r_iconst 1 rfl ci_1 ?_
    refine r_goto (tgt := 136) rfl (by decide) ?_
    first | exact r_sb (Mo_gives_b136_ok g N _ hD _ hself_23  _ _ _ _ _ _ _ _ _ _ _ _ hE) ⟨rfl, rfl, rfl, rfl, rfl, rfl, trivial⟩ | exact r_sb (Mo_gives_b136_ok g N _ hD _ hself_23  _ _ _ _ _ _ _ _ _ _ _ _ hE) (by simp only [su1, su2, dr1_rf, dr1_in, dr1_lo, dr2_rf, dr2_in, dr2_lo]; exact ⟨rfl, rfl, rfl, rfl, rfl, rfl, trivial⟩)
  · have hE := ifN hc2 hE
    refine r_iconst 0 rfl ci_0 ?_
    first | exact r_sb (Mo_gives_b136_ok g N _ hD _ hself_23  _ _ _ _ _ _ _ _ _ _ _ _ hE) ⟨rfl, rfl, rfl, rfl, rfl, rfl, trivial⟩ | exact r_sb (Mo_gives_b136_ok g N _ hD _ hself_23  _ _ _ _ _ _ _ _ _ _ _ _ hE) (by simp only [su1, su2, dr1_rf, dr1_in, dr1_lo, dr2_rf, dr2_in, dr2_lo]; exact ⟨rfl, rfl, rfl, rfl, rfl, rfl, trivial⟩)
def Mo_gives_b82 (N : Nat) (self_23 : Nat → Int32 → Int32 → Int32 → Int32 → Int32 → PH → Option (Int32 × PH)) (s0 : Int32) (a0 : Nat) (x1 : Int32) (x2 : Int32) (x3 : Int32) (x6 : Int32) (x7 : Int32) (h : PH) : Option (Int32 × PH) :=
  ck ((hK h a0).1 = 11) <|
  lt0 (wI h a0 41 ((hI h a0 41) - s0)) fun h2 =>
  if s0 = 0 then
    bd (Mo_nothing N a0 x1 h2) fun v5 h6 =>
    Mo_gives_b118 N self_23  x6 (0 - v5) a0 x1 x2 x3 x7 s0 h6
  else
    bd (Mo_worthOf N a0 s0 h2) fun v8 h9 =>
    Mo_gives_b118 N self_23  x6 v8 a0 x1 x2 x3 x7 s0 h9
set_option maxRecDepth 20000 in
theorem Mo_gives_b82_ok (g : GT) (N : Nat) (D : Nat) (hD : 1 ≤ D) (self_23 : Nat → Int32 → Int32 → Int32 → Int32 → Int32 → PH → Option (Int32 × PH)) (hself_23 : ∀ (a0 : Nat) (x1 : Int32) (x2 : Int32) (x3 : Int32) (x6 : Int32) (x7 : Int32) (h : PH) (v : Int32) (h' : PH), self_23 a0 x1 x2 x3 x6 x7 h = some (v, h') → Run g pMo_gives D 23 [(0, va_rf (some a0)), (1, .int x1), (2, .int x2), (3, .int x3), (6, .int x6), (7, .int x7)] [] h (rI v) h') : ∀ (s0 : Int32) (a0 : Nat) (x1 : Int32) (x2 : Int32) (x3 : Int32) (x6 : Int32) (x7 : Int32) (h : PH) (v : Int32) (h' : PH), Mo_gives_b82 N self_23 s0 a0 x1 x2 x3 x6 x7 h = some (v, h') → Run g pMo_gives D 82 [(0, va_rf (some a0)), (1, .int x1), (2, .int x2), (3, .int x3), (6, .int x6), (7, .int x7)] [.int s0] h (rI v) h' := by
  obtain ⟨D2, rfl⟩ : ∃ d, D = d + 1 := ⟨D - 1, by omega⟩
  intro s0 a0 x1 x2 x3 x6 x7 h v h' hE
  unfold Mo_gives_b82 at hE
  refine r_istore rfl (by decide) ?_
  refine r_aload_n (t := some a0) 0 rfl rfl rfl ?_
  refine r_dup rfl (rf_cat _) ?_
  obtain ⟨hk1, hE⟩ := ckE hE
  refine r_getI rfl (fl_11_319 rfl) (Or.inl rfl) rfl hk1 ?_
  refine r_iload rfl rfl ?_
  refine r_isub rfl ?_
  obtain ⟨h2, he3, hE⟩ := ltE hE
  refine r_putI rfl (fl_11_319 rfl) finF rfl hk1 he3 ?_
  refine r_iload rfl rfl ?_
  refine r_iload rfl rfl ?_
  refine r_if_ne (tgt := 112) rfl (by decide) (fun hc4 => ?_) (fun hc4 => ?_)
  · have hE := ifP hc4 hE
    refine r_iconst 0 rfl ci_0 ?_
    refine r_aload_n (t := some a0) 0 rfl rfl rfl ?_
    refine r_iload_n 1 rfl rfl rfl ?_
    obtain ⟨v5, h6, hq7, hE⟩ := bdE hE
    refine r_callV1 (rest := [.int 0, .int x6]) (hc := (Mo_nothing_ok g N _ _ _ _ _ hq7 D2 (by omega))) rfl pm_Mo_nothing lw_11_334 im_Mo_nothing sl_Mo_nothing rfl rfl rfl (rcOK (kwI he3 hk1) rfl) (by simp only [List.map_cons, List.map_nil, rf_cat, cat_i, cat_l, List.sum_cons, List.sum_nil]; decide) ?_
    refine r_isub rfl ?_
    refine r_goto (tgt := 118) rfl (by decide) ?_
    first | exact r_sb (Mo_gives_b118_ok g N _ hD _ hself_23  _ _ _ _ _ _ _ _ _ _ _ hE) ⟨rfl, rfl, rfl, rfl, rfl, rfl, trivial⟩ | exact r_sb (Mo_gives_b118_ok g N _ hD _ hself_23  _ _ _ _ _ _ _ _ _ _ _ hE) (by simp only [su1, su2, dr1_rf, dr1_in, dr1_lo, dr2_rf, dr2_in, dr2_lo]; exact ⟨rfl, rfl, rfl, rfl, rfl, rfl, trivial⟩)
  · have hE := ifN hc4 hE
    refine r_aload_n (t := some a0) 0 rfl rfl rfl ?_
    refine r_iload rfl rfl ?_
    obtain ⟨v8, h9, hq10, hE⟩ := bdE hE
    refine r_callV1 (rest := [.int x6]) (hc := (Mo_worthOf_ok g N _ _ _ _ _ hq10 D2 (by omega))) rfl pm_Mo_worthOf lw_11_337 im_Mo_worthOf sl_Mo_worthOf rfl rfl rfl (rcOK (kwI he3 hk1) rfl) (by simp only [List.map_cons, List.map_nil, rf_cat, cat_i, cat_l, List.sum_cons, List.sum_nil]; decide) ?_
    first | exact r_sb (Mo_gives_b118_ok g N _ hD _ hself_23  _ _ _ _ _ _ _ _ _ _ _ hE) ⟨rfl, rfl, rfl, rfl, rfl, rfl, trivial⟩ | exact r_sb (Mo_gives_b118_ok g N _ hD _ hself_23  _ _ _ _ _ _ _ _ _ _ _ hE) (by simp only [su1, su2, dr1_rf, dr1_in, dr1_lo, dr2_rf, dr2_in, dr2_lo]; exact ⟨rfl, rfl, rfl, rfl, rfl, rfl, trivial⟩)
def Mo_gives_b65 (N : Nat) (self_23 : Nat → Int32 → Int32 → Int32 → Int32 → Int32 → PH → Option (Int32 × PH)) (a0 : Nat) (x1 : Int32) (x2 : Int32) (x3 : Int32) (x6 : Int32) (x7 : Int32) (h : PH) : Option (Int32 × PH) :=
  if x3 = 4 then
    Mo_gives_b82 N self_23  0 a0 x1 x2 x3 x6 x7 h
  else
    ck ((hK h a0).1 = 11) <|
    Mo_gives_b82 N self_23  (mnI x3 (hI h a0 41)) a0 x1 x2 x3 x6 x7 h
set_option maxRecDepth 20000 in
theorem Mo_gives_b65_ok (g : GT) (N : Nat) (D : Nat) (hD : 1 ≤ D) (self_23 : Nat → Int32 → Int32 → Int32 → Int32 → Int32 → PH → Option (Int32 × PH)) (hself_23 : ∀ (a0 : Nat) (x1 : Int32) (x2 : Int32) (x3 : Int32) (x6 : Int32) (x7 : Int32) (h : PH) (v : Int32) (h' : PH), self_23 a0 x1 x2 x3 x6 x7 h = some (v, h') → Run g pMo_gives D 23 [(0, va_rf (some a0)), (1, .int x1), (2, .int x2), (3, .int x3), (6, .int x6), (7, .int x7)] [] h (rI v) h') : ∀ (a0 : Nat) (x1 : Int32) (x2 : Int32) (x3 : Int32) (x6 : Int32) (x7 : Int32) (h : PH) (v : Int32) (h' : PH), Mo_gives_b65 N self_23 a0 x1 x2 x3 x6 x7 h = some (v, h') → Run g pMo_gives D 65 [(0, va_rf (some a0)), (1, .int x1), (2, .int x2), (3, .int x3), (6, .int x6), (7, .int x7)] [] h (rI v) h' := by
  obtain ⟨D2, rfl⟩ : ∃ d, D = d + 1 := ⟨D - 1, by omega⟩
  intro a0 x1 x2 x3 x6 x7 h v h' hE
  unfold Mo_gives_b65 at hE
  refine r_iload_n 3 rfl rfl rfl ?_
  refine r_iconst 4 rfl ci_4 ?_
  refine r_icmp_ne (tgt := 74) rfl (by decide) (fun hc1 => ?_) (fun hc1 => ?_)
  · have hE := ifP hc1 hE
    refine r_iconst 0 rfl ci_0 ?_
    refine r_goto (tgt := 82) rfl (by decide) ?_
    first | exact r_sb (Mo_gives_b82_ok g N _ hD _ hself_23  _ _ _ _ _ _ _ _ _ _ hE) ⟨rfl, rfl, rfl, rfl, rfl, rfl, trivial⟩ | exact r_sb (Mo_gives_b82_ok g N _ hD _ hself_23  _ _ _ _ _ _ _ _ _ _ hE) (by simp only [su1, su2, dr1_rf, dr1_in, dr1_lo, dr2_rf, dr2_in, dr2_lo]; exact ⟨rfl, rfl, rfl, rfl, rfl, rfl, trivial⟩)
  · have hE := ifN hc1 hE
    refine r_iload_n 3 rfl rfl rfl ?_
    refine r_aload_n (t := some a0) 0 rfl rfl rfl ?_
    obtain ⟨hk2, hE⟩ := ckE hE
    refine r_getI rfl (fl_11_319 rfl) (Or.inl rfl) rfl hk2 ?_
    refine r_mmin rfl (gt7 231 rfl rfl) mm_min1 mm_2 mm_min3 (by decide) ?_
    first | exact r_sb (Mo_gives_b82_ok g N _ hD _ hself_23  _ _ _ _ _ _ _ _ _ _ hE) ⟨rfl, rfl, rfl, rfl, rfl, rfl, trivial⟩ | exact r_sb (Mo_gives_b82_ok g N _ hD _ hself_23  _ _ _ _ _ _ _ _ _ _ hE) (by simp only [su1, su2, dr1_rf, dr1_in, dr1_lo, dr2_rf, dr2_in, dr2_lo]; exact ⟨rfl, rfl, rfl, rfl, rfl, rfl, trivial⟩)
def Mo_gives_b23 (N : Nat) : Nat → Nat → Int32 → Int32 → Int32 → Int32 → Int32 → PH → Option (Int32 × PH)
  | 0 => fun _ _ _ _ _ _ _ => none
  | n + 1 => fun a0 x1 x2 x3 x6 x7 h =>
    if x2 ≤ x7 then
      some (x6, h)
    else
      if x3 = 4 then
        ck ((hK h a0).1 = 11) <|
        if (hI h a0 42) ≤ 0 then
          Mo_gives_b65 N (Mo_gives_b23 N n)  a0 x1 x2 x3 x6 x7 h
        else
          lt0 (wI h a0 42 ((hI h a0 42) - 1)) fun h5 =>
          ((hR h5 a0 10)).bind fun a_7 =>
          ck ((hK h5 a_7).1 = 20) <|
          ck (inb 3 (hK h5 a_7).2 = true) <|
          Mo_gives_b140 N (Mo_gives_b23 N n)  a0 x1 x2 x3 (x6 + (hI h5 a_7 (ix 3))) x7 h5
      else
        Mo_gives_b65 N (Mo_gives_b23 N n)  a0 x1 x2 x3 x6 x7 h
set_option maxRecDepth 20000 in
theorem Mo_gives_b23_ok (g : GT) (N : Nat) (D : Nat) (hD : 1 ≤ D) : ∀ (n : Nat) (a0 : Nat) (x1 : Int32) (x2 : Int32) (x3 : Int32) (x6 : Int32) (x7 : Int32) (h : PH) (v : Int32) (h' : PH), Mo_gives_b23 N n a0 x1 x2 x3 x6 x7 h = some (v, h') → Run g pMo_gives D 23 [(0, va_rf (some a0)), (1, .int x1), (2, .int x2), (3, .int x3), (6, .int x6), (7, .int x7)] [] h (rI v) h' := by
  obtain ⟨D2, rfl⟩ : ∃ d, D = d + 1 := ⟨D - 1, by omega⟩
  intro n
  induction n with
  | zero => exact fun _ _ _ _ _ _ _ _ _ hE => nomatch (show none = some _ from hE)
  | succ n ih =>
    intro a0 x1 x2 x3 x6 x7 h v h' hE
    unfold Mo_gives_b23 at hE
    refine r_iload rfl rfl ?_
    refine r_iload_n 2 rfl rfl rfl ?_
    refine r_icmp_ge (tgt := 146) rfl (by decide) (fun hc1 => ?_) (fun hc1 => ?_)
    · have hE := ifP hc1 hE
      refine r_iload rfl rfl ?_
      cases hE
      exact r_ret rfl (Or.inl ⟨rfl, _, _, rfl, rfl, rfl, rfl⟩)
    · have hE := ifN hc1 hE
      refine r_iload_n 3 rfl rfl rfl ?_
      refine r_iconst 4 rfl ci_4 ?_
      refine r_icmp_ne (tgt := 65) rfl (by decide) (fun hc2 => ?_) (fun hc2 => ?_)
      · have hE := ifP hc2 hE
        refine r_aload_n (t := some a0) 0 rfl rfl rfl ?_
        obtain ⟨hk3, hE⟩ := ckE hE
        refine r_getI rfl (fl_11_322 rfl) (Or.inl rfl) rfl hk3 ?_
        refine r_if_le (tgt := 65) rfl (by decide) (fun hc4 => ?_) (fun hc4 => ?_)
        · have hE := ifP hc4 hE
          first | exact r_sb (Mo_gives_b65_ok g N _ hD _ ih  _ _ _ _ _ _ _ _ _ hE) ⟨rfl, rfl, rfl, rfl, rfl, rfl, trivial⟩ | exact r_sb (Mo_gives_b65_ok g N _ hD _ ih  _ _ _ _ _ _ _ _ _ hE) (by simp only [su1, su2, dr1_rf, dr1_in, dr1_lo, dr2_rf, dr2_in, dr2_lo]; exact ⟨rfl, rfl, rfl, rfl, rfl, rfl, trivial⟩)
        · have hE := ifN hc4 hE
          refine r_aload_n (t := some a0) 0 rfl rfl rfl ?_
          refine r_dup rfl (rf_cat _) ?_
          refine r_getI rfl (fl_11_322 rfl) (Or.inl rfl) rfl hk3 ?_
          refine r_iconst 1 rfl ci_1 ?_
          refine r_isub rfl ?_
          obtain ⟨h5, he6, hE⟩ := ltE hE
          refine r_putI rfl (fl_11_322 rfl) finF rfl hk3 he6 ?_
          refine r_iload rfl rfl ?_
          refine r_aload_n (t := some a0) 0 rfl rfl rfl ?_
          refine r_getR rfl (fl_11_13 rfl) (Or.inr ⟨_, rfl⟩) rfl (kwI he6 hk3) ?_
          refine r_iconst 3 rfl ci_3 ?_
          obtain ⟨a_7, ha8, hE⟩ := bnE hE
          obtain ⟨hk9, hE⟩ := ckE hE
          obtain ⟨hi10, hE⟩ := ckE hE
          refine r_iald rfl ha8 hk9 hi10 ?_
          refine r_iadd rfl ?_
          refine r_istore rfl (by decide) ?_
          refine r_goto (tgt := 140) rfl (by decide) ?_
          first | exact r_sb (Mo_gives_b140_ok g N _ hD _ ih  _ _ _ _ _ _ _ _ _ hE) ⟨rfl, rfl, rfl, rfl, rfl, rfl, trivial⟩ | exact r_sb (Mo_gives_b140_ok g N _ hD _ ih  _ _ _ _ _ _ _ _ _ hE) (by simp only [su1, su2, dr1_rf, dr1_in, dr1_lo, dr2_rf, dr2_in, dr2_lo]; exact ⟨rfl, rfl, rfl, rfl, rfl, rfl, trivial⟩)
      · have hE := ifN hc2 hE
        first | exact r_sb (Mo_gives_b65_ok g N _ hD _ ih  _ _ _ _ _ _ _ _ _ hE) ⟨rfl, rfl, rfl, rfl, rfl, rfl, trivial⟩ | exact r_sb (Mo_gives_b65_ok g N _ hD _ ih  _ _ _ _ _ _ _ _ _ hE) (by simp only [su1, su2, dr1_rf, dr1_in, dr1_lo, dr2_rf, dr2_in, dr2_lo]; exact ⟨rfl, rfl, rfl, rfl, rfl, rfl, trivial⟩)
def Mo_gives (N : Nat) (a0 : Nat) (x1 : Int32) (x2 : Int32) (x3 : Int32) (x4 : Int32) (x5 : Int32) (h : PH) : Option (Int32 × PH) :=
  ck ((hK h a0).1 = 11) <|
  lt0 (wI h a0 41 x4) fun h2 =>
  lt0 (wI h2 a0 42 x5) fun h4 =>
  lt0 (wI h4 a0 43 0) fun h6 =>
  Mo_gives_b23 N N a0 x1 x2 x3 0 0 h6
set_option maxRecDepth 20000 in
theorem Mo_gives_ok (g : GT) (N : Nat) (a0 : Nat) (x1 : Int32) (x2 : Int32) (x3 : Int32) (x4 : Int32) (x5 : Int32) (h : PH) (v : Int32) (h' : PH) (hE : Mo_gives N a0 x1 x2 x3 x4 x5 h = some (v, h')) (D : Nat) (hD : 1 ≤ D) : Calls g D pMo_gives [va_rf (some a0), .int x1, .int x2, .int x3, .int x4, .int x5] h (oI v) h' := by
  refine Calls.of cok_Mo_gives ht_Mo_gives pl_Mo_gives (fun ad => by rw [lg_len, sL_cat]; simp only [List.map_cons, List.map_nil, rf_cat, cat_i, cat_l, List.sum_cons, List.sum_nil]; decide) ?_
  rw [show lv_args 0 [va_rf (some a0), .int x1, .int x2, .int x3, .int x4, .int x5] = [(0, va_rf (some a0)), (1, .int x1), (2, .int x2), (3, .int x3), (4, .int x4), (5, .int x5)] from (by simp only [lv_args, rf_cat, cat_i, cat_l]; try rfl)]
  obtain ⟨D2, rfl⟩ : ∃ d, D = d + 1 := ⟨D - 1, by omega⟩
  unfold Mo_gives at hE
  refine r_iconst 0 rfl ci_0 ?_
  refine r_istore rfl (by decide) ?_
  refine r_aload_n (t := some a0) 0 rfl rfl rfl ?_
  refine r_iload rfl rfl ?_
  obtain ⟨hk1, hE⟩ := ckE hE
  obtain ⟨h2, he3, hE⟩ := ltE hE
  refine r_putI rfl (fl_11_319 rfl) finF rfl hk1 he3 ?_
  refine r_aload_n (t := some a0) 0 rfl rfl rfl ?_
  refine r_iload rfl rfl ?_
  obtain ⟨h4, he5, hE⟩ := ltE hE
  refine r_putI rfl (fl_11_322 rfl) finF rfl (kwI he3 hk1) he5 ?_
  refine r_aload_n (t := some a0) 0 rfl rfl rfl ?_
  refine r_iconst 0 rfl ci_0 ?_
  obtain ⟨h6, he7, hE⟩ := ltE hE
  refine r_putI rfl (fl_11_325 rfl) finF rfl (kwI he5 (kwI he3 hk1)) he7 ?_
  refine r_iconst 0 rfl ci_0 ?_
  refine r_istore rfl (by decide) ?_
  first | exact r_sb (Mo_gives_b23_ok g N _ hD  N _ _ _ _ _ _ _ _ _ hE) ⟨rfl, rfl, rfl, rfl, rfl, rfl, trivial⟩ | exact r_sb (Mo_gives_b23_ok g N _ hD  N _ _ _ _ _ _ _ _ _ hE) (by simp only [su1, su2, dr1_rf, dr1_in, dr1_lo, dr2_rf, dr2_in, dr2_lo]; exact ⟨rfl, rfl, rfl, rfl, rfl, rfl, trivial⟩)
def Mo_isWordBy (N : Nat) (a0 : Nat) (x1 : Int32) (x2 : Int32) (h : PH) : Option (Bool × PH) :=
  ck ((hK h a0).1 = 11) <|
  ((hR h a0 10)).bind fun a_2 =>
  ck ((hK h a_2).1 = 20) <|
  ck (inb 11 (hK h a_2).2 = true) <|
  if (hI h a_2 (ix 11)) ≤ 0 then
    some (false, h)
  else
    if x2 ≤ 0 then
      some (false, h)
    else
      ck (inb 11 (hK h a_2).2 = true) <|
      bd (Mo_within N x1 (hI h a_2 (ix 11)) 3 h) fun v9 h10 =>
      if (bI v9) = 0 then
        some (false, h10)
      else
        some (true, h10)
set_option maxRecDepth 20000 in
theorem Mo_isWordBy_ok (g : GT) (N : Nat) (a0 : Nat) (x1 : Int32) (x2 : Int32) (h : PH) (v : Bool) (h' : PH) (hE : Mo_isWordBy N a0 x1 x2 h = some (v, h')) (D : Nat) (hD : 1 ≤ D) : Calls g D pMo_isWordBy [va_rf (some a0), .int x1, .int x2] h (oZ v) h' := by
  refine Calls.of cok_Mo_isWordBy ht_Mo_isWordBy pl_Mo_isWordBy (fun ad => by rw [lg_len, sL_cat]; simp only [List.map_cons, List.map_nil, rf_cat, cat_i, cat_l, List.sum_cons, List.sum_nil]; decide) ?_
  rw [show lv_args 0 [va_rf (some a0), .int x1, .int x2] = [(0, va_rf (some a0)), (1, .int x1), (2, .int x2)] from (by simp only [lv_args, rf_cat, cat_i, cat_l]; try rfl)]
  obtain ⟨D2, rfl⟩ : ∃ d, D = d + 1 := ⟨D - 1, by omega⟩
  unfold Mo_isWordBy at hE
  refine r_aload_n (t := some a0) 0 rfl rfl rfl ?_
  obtain ⟨hk1, hE⟩ := ckE hE
  refine r_getR rfl (fl_11_13 rfl) (Or.inr ⟨_, rfl⟩) rfl hk1 ?_
  refine r_bipush 11 rfl cb_11 ?_
  obtain ⟨a_2, ha3, hE⟩ := bnE hE
  obtain ⟨hk4, hE⟩ := ckE hE
  obtain ⟨hi5, hE⟩ := ckE hE
  refine r_iald rfl ha3 hk4 hi5 ?_
  refine r_if_le (tgt := 33) rfl (by decide) (fun hc6 => ?_) (fun hc6 => ?_)
  · have hE := ifP hc6 hE
    refine r_iconst 0 rfl ci_0 ?_
    cases hE
    exact r_ret rfl (Or.inl ⟨rfl, _, _, rfl, rfl, rfl, rfl⟩)
  · have hE := ifN hc6 hE
    refine r_iload_n 2 rfl rfl rfl ?_
    refine r_if_le (tgt := 33) rfl (by decide) (fun hc7 => ?_) (fun hc7 => ?_)
    · have hE := ifP hc7 hE
      refine r_iconst 0 rfl ci_0 ?_
      cases hE
      exact r_ret rfl (Or.inl ⟨rfl, _, _, rfl, rfl, rfl, rfl⟩)
    · have hE := ifN hc7 hE
      refine r_iload_n 1 rfl rfl rfl ?_
      refine r_aload_n (t := some a0) 0 rfl rfl rfl ?_
      refine r_getR rfl (fl_11_13 rfl) (Or.inr ⟨_, rfl⟩) rfl hk1 ?_
      refine r_bipush 11 rfl cb_11 ?_
      obtain ⟨hi8, hE⟩ := ckE hE
      refine r_iald rfl ha3 hk4 hi8 ?_
      refine r_iconst 3 rfl ci_3 ?_
      obtain ⟨v9, h10, hq11, hE⟩ := bdE hE
      refine r_callS1 (rest := []) (hc := (Mo_within_ok g N _ _ _ _ _ _ hq11 D2 (by omega))) rfl pm_Mo_within lw_11_247 st_Mo_within rfl rfl (by decide) ?_
      refine r_if_eq (tgt := 33) rfl (by decide) (fun hc12 => ?_) (fun hc12 => ?_)
      · have hE := ifP hc12 hE
        refine r_iconst 0 rfl ci_0 ?_
        cases hE
        exact r_ret rfl (Or.inl ⟨rfl, _, _, rfl, rfl, rfl, rfl⟩)
      · have hE := ifN hc12 hE
        refine r_iconst 1 rfl ci_1 ?_
        refine r_goto (tgt := 34) rfl (by decide) ?_
        cases hE
        exact r_ret rfl (Or.inl ⟨rfl, _, _, rfl, rfl, rfl, rfl⟩)
def Mo_handsOut_b107 (N : Nat) (s0 : Option Nat) (s1 : Int32) (s2 : Int32) (x2 : Int32) (h : PH) : Option (Int32 × PH) :=
  (s0).bind fun a_1 =>
  ck ((hK h a_1).1 = 20) <|
  ck (inb s1 (hK h a_1).2 = true) <|
  lt0 (wI h a_1 (ix s1) s2) fun h5 =>
  some (x2, h5)
set_option maxRecDepth 20000 in
theorem Mo_handsOut_b107_ok (g : GT) (N : Nat) (D : Nat) (hD : 2 ≤ D) : ∀ (s0 : Option Nat) (s1 : Int32) (s2 : Int32) (x2 : Int32) (h : PH) (v : Int32) (h' : PH), Mo_handsOut_b107 N s0 s1 s2 x2 h = some (v, h') → Run g pMo_handsOut D 107 [(2, .int x2)] [.int s2, .int s1, va_rf s0] h (rI v) h' := by
  obtain ⟨D2, rfl⟩ : ∃ d, D = d + 1 := ⟨D - 1, by omega⟩
  intro s0 s1 s2 x2 h v h' hE
  unfold Mo_handsOut_b107 at hE
  obtain ⟨a_1, ha2, hE⟩ := bnE hE
  obtain ⟨hk3, hE⟩ := ckE hE
  obtain ⟨hi4, hE⟩ := ckE hE
  obtain ⟨h5, he6, hE⟩ := ltE hE
  refine r_iast rfl ha2 hk3 hi4 he6 ?_
  refine r_iload_n 2 rfl rfl rfl ?_
  cases hE
  exact r_ret rfl (Or.inl ⟨rfl, _, _, rfl, rfl, rfl, rfl⟩)
def Mo_handsOut (N : Nat) (a0 : Nat) (x1 : Int32) (h : PH) : Option (Int32 × PH) :=
  ck ((hK h a0).1 = 11) <|
  ((hR h a0 35)).bind fun a_2 =>
  ck ((hK h a_2).1 = 20) <|
  ck (inb 0 (hK h a_2).2 = true) <|
  ck (inb 3 (hK h a_2).2 = true) <|
  ck (inb 1 (hK h a_2).2 = true) <|
  ck (inb 2 (hK h a_2).2 = true) <|
  bd (Mo_gives N a0 (hI h a_2 (ix 0)) (hI h a_2 (ix 3)) x1 (hI h a_2 (ix 1)) (hI h a_2 (ix 2)) h) fun v9 h10 =>
  ck ((hK h10 a0).1 = 11) <|
  ((hR h10 a0 35)).bind fun a_13 =>
  ck ((hK h10 a_13).1 = 20) <|
  ck (inb 1 (hK h10 a_13).2 = true) <|
  lt0 (wI h10 a_13 (ix 1) (hI h10 a0 41)) fun h17 =>
  ((hR h17 a0 35)).bind fun a_19 =>
  ck ((hK h17 a_19).1 = 20) <|
  ck (inb 2 (hK h17 a_19).2 = true) <|
  lt0 (wI h17 a_19 (ix 2) (hI h17 a0 42)) fun h23 =>
  ((hR h23 a0 35)).bind fun a_25 =>
  ck ((hK h23 a_25).1 = 20) <|
  ck (inb 10 (hK h23 a_25).2 = true) <|
  ck (inb 10 (hK h23 a_25).2 = true) <|
  lt0 (wI h23 a_25 (ix 10) ((hI h23 a_25 (ix 10)) + (hI h23 a0 43))) fun h30 =>
  ((hR h30 a0 35)).bind fun a_32 =>
  ck ((hK h30 a_32).1 = 20) <|
  ck (inb 11 (hK h30 a_32).2 = true) <|
  ck (inb 11 (hK h30 a_32).2 = true) <|
  lt0 (wI h30 a_32 (ix 11) ((hI h30 a_32 (ix 11)) + v9)) fun h37 =>
  ((hR h37 a0 35)).bind fun a_39 =>
  ck ((hK h37 a_39).1 = 20) <|
  ck (inb 4 (hK h37 a_39).2 = true) <|
  lt0 (wI h37 a_39 (ix 4) 1) fun h43 =>
  ((hR h43 a0 35)).bind fun a_45 =>
  ck ((hK h43 a_45).1 = 20) <|
  ck (inb 3 (hK h43 a_45).2 = true) <|
  bd (Mo_isWordBy N a0 x1 (hI h43 a_45 (ix 3)) h43) fun v49 h50 =>
  if (bI v49) = 0 then
    Mo_handsOut_b107 N  (hR h43 a0 35) 8 0 v9 h50
  else
    Mo_handsOut_b107 N  (hR h43 a0 35) 8 1 v9 h50
set_option maxRecDepth 20000 in
theorem Mo_handsOut_ok (g : GT) (N : Nat) (a0 : Nat) (x1 : Int32) (h : PH) (v : Int32) (h' : PH) (hE : Mo_handsOut N a0 x1 h = some (v, h')) (D : Nat) (hD : 2 ≤ D) : Calls g D pMo_handsOut [va_rf (some a0), .int x1] h (oI v) h' := by
  refine Calls.of cok_Mo_handsOut ht_Mo_handsOut pl_Mo_handsOut (fun ad => by rw [lg_len, sL_cat]; simp only [List.map_cons, List.map_nil, rf_cat, cat_i, cat_l, List.sum_cons, List.sum_nil]; decide) ?_
  rw [show lv_args 0 [va_rf (some a0), .int x1] = [(0, va_rf (some a0)), (1, .int x1)] from (by simp only [lv_args, rf_cat, cat_i, cat_l]; try rfl)]
  obtain ⟨D2, rfl⟩ : ∃ d, D = d + 1 := ⟨D - 1, by omega⟩
  unfold Mo_handsOut at hE
  refine r_aload_n (t := some a0) 0 rfl rfl rfl ?_
  refine r_aload_n (t := some a0) 0 rfl rfl rfl ?_
  obtain ⟨hk1, hE⟩ := ckE hE
  refine r_getR rfl (fl_11_81 rfl) (Or.inr ⟨_, rfl⟩) rfl hk1 ?_
  refine r_iconst 0 rfl ci_0 ?_
  obtain ⟨a_2, ha3, hE⟩ := bnE hE
  obtain ⟨hk4, hE⟩ := ckE hE
  obtain ⟨hi5, hE⟩ := ckE hE
  refine r_iald rfl ha3 hk4 hi5 ?_
  refine r_aload_n (t := some a0) 0 rfl rfl rfl ?_
  refine r_getR rfl (fl_11_81 rfl) (Or.inr ⟨_, rfl⟩) rfl hk1 ?_
  refine r_iconst 3 rfl ci_3 ?_
  obtain ⟨hi6, hE⟩ := ckE hE
  refine r_iald rfl ha3 hk4 hi6 ?_
  refine r_iload_n 1 rfl rfl rfl ?_
  refine r_aload_n (t := some a0) 0 rfl rfl rfl ?_
  refine r_getR rfl (fl_11_81 rfl) (Or.inr ⟨_, rfl⟩) rfl hk1 ?_
  refine r_iconst 1 rfl ci_1 ?_
  obtain ⟨hi7, hE⟩ := ckE hE
  refine r_iald rfl ha3 hk4 hi7 ?_
  refine r_aload_n (t := some a0) 0 rfl rfl rfl ?_
  refine r_getR rfl (fl_11_81 rfl) (Or.inr ⟨_, rfl⟩) rfl hk1 ?_
  refine r_iconst 2 rfl ci_2 ?_
  obtain ⟨hi8, hE⟩ := ckE hE
  refine r_iald rfl ha3 hk4 hi8 ?_
  obtain ⟨v9, h10, hq11, hE⟩ := bdE hE
  refine r_callV1 (rest := []) (hc := (Mo_gives_ok g N _ _ _ _ _ _ _ _ _ hq11 D2 (by omega))) rfl pm_Mo_gives lw_11_355 im_Mo_gives sl_Mo_gives rfl rfl rfl (rcOK hk1 rfl) (by decide) ?_
  refine r_istore_n 2 rfl rfl (by decide) ?_
  refine r_aload_n (t := some a0) 0 rfl rfl rfl ?_
  obtain ⟨hk12, hE⟩ := ckE hE
  refine r_getR rfl (fl_11_81 rfl) (Or.inr ⟨_, rfl⟩) rfl hk12 ?_
  refine r_iconst 1 rfl ci_1 ?_
  refine r_aload_n (t := some a0) 0 rfl rfl rfl ?_
  refine r_getI rfl (fl_11_319 rfl) (Or.inl rfl) rfl hk12 ?_
  obtain ⟨a_13, ha14, hE⟩ := bnE hE
  obtain ⟨hk15, hE⟩ := ckE hE
  obtain ⟨hi16, hE⟩ := ckE hE
  obtain ⟨h17, he18, hE⟩ := ltE hE
  refine r_iast rfl ha14 hk15 hi16 he18 ?_
  refine r_aload_n (t := some a0) 0 rfl rfl rfl ?_
  refine r_getR rfl (fl_11_81 rfl) (Or.inr ⟨_, rfl⟩) rfl (kwI he18 hk12) ?_
  refine r_iconst 2 rfl ci_2 ?_
  refine r_aload_n (t := some a0) 0 rfl rfl rfl ?_
  refine r_getI rfl (fl_11_322 rfl) (Or.inl rfl) rfl (kwI he18 hk12) ?_
  obtain ⟨a_19, ha20, hE⟩ := bnE hE
  obtain ⟨hk21, hE⟩ := ckE hE
  obtain ⟨hi22, hE⟩ := ckE hE
  obtain ⟨h23, he24, hE⟩ := ltE hE
  refine r_iast rfl ha20 hk21 hi22 he24 ?_
  refine r_aload_n (t := some a0) 0 rfl rfl rfl ?_
  refine r_getR rfl (fl_11_81 rfl) (Or.inr ⟨_, rfl⟩) rfl (kwI he24 (kwI he18 hk12)) ?_
  refine r_bipush 10 rfl cb_10 ?_
  refine r_dup2 rfl rfl (rf_cat _) ?_
  obtain ⟨a_25, ha26, hE⟩ := bnE hE
  obtain ⟨hk27, hE⟩ := ckE hE
  obtain ⟨hi28, hE⟩ := ckE hE
  refine r_iald rfl ha26 hk27 hi28 ?_
  refine r_aload_n (t := some a0) 0 rfl rfl rfl ?_
  refine r_getI rfl (fl_11_325 rfl) (Or.inl rfl) rfl (kwI he24 (kwI he18 hk12)) ?_
  refine r_iadd rfl ?_
  obtain ⟨hi29, hE⟩ := ckE hE
  obtain ⟨h30, he31, hE⟩ := ltE hE
  refine r_iast rfl ha26 hk27 hi29 he31 ?_
  refine r_aload_n (t := some a0) 0 rfl rfl rfl ?_
  refine r_getR rfl (fl_11_81 rfl) (Or.inr ⟨_, rfl⟩) rfl (kwI he31 (kwI he24 (kwI he18 hk12))) ?_
  refine r_bipush 11 rfl cb_11 ?_
  refine r_dup2 rfl rfl (rf_cat _) ?_
  obtain ⟨a_32, ha33, hE⟩ := bnE hE
  obtain ⟨hk34, hE⟩ := ckE hE
  obtain ⟨hi35, hE⟩ := ckE hE
  refine r_iald rfl ha33 hk34 hi35 ?_
  refine r_iload_n 2 rfl rfl rfl ?_
  refine r_iadd rfl ?_
  obtain ⟨hi36, hE⟩ := ckE hE
  obtain ⟨h37, he38, hE⟩ := ltE hE
  refine r_iast rfl ha33 hk34 hi36 he38 ?_
  refine r_aload_n (t := some a0) 0 rfl rfl rfl ?_
  refine r_getR rfl (fl_11_81 rfl) (Or.inr ⟨_, rfl⟩) rfl (kwI he38 (kwI he31 (kwI he24 (kwI he18 hk12)))) ?_
  refine r_iconst 4 rfl ci_4 ?_
  refine r_iconst 1 rfl ci_1 ?_
  obtain ⟨a_39, ha40, hE⟩ := bnE hE
  obtain ⟨hk41, hE⟩ := ckE hE
  obtain ⟨hi42, hE⟩ := ckE hE
  obtain ⟨h43, he44, hE⟩ := ltE hE
  refine r_iast rfl ha40 hk41 hi42 he44 ?_
  refine r_aload_n (t := some a0) 0 rfl rfl rfl ?_
  refine r_getR rfl (fl_11_81 rfl) (Or.inr ⟨_, rfl⟩) rfl (kwI he44 (kwI he38 (kwI he31 (kwI he24 (kwI he18 hk12))))) ?_
  refine r_bipush 8 rfl cb_8 ?_
  refine r_aload_n (t := some a0) 0 rfl rfl rfl ?_
  refine r_iload_n 1 rfl rfl rfl ?_
  refine r_aload_n (t := some a0) 0 rfl rfl rfl ?_
  refine r_getR rfl (fl_11_81 rfl) (Or.inr ⟨_, rfl⟩) rfl (kwI he44 (kwI he38 (kwI he31 (kwI he24 (kwI he18 hk12))))) ?_
  refine r_iconst 3 rfl ci_3 ?_
  obtain ⟨a_45, ha46, hE⟩ := bnE hE
  obtain ⟨hk47, hE⟩ := ckE hE
  obtain ⟨hi48, hE⟩ := ckE hE
  refine r_iald rfl ha46 hk47 hi48 ?_
  obtain ⟨v49, h50, hq51, hE⟩ := bdE hE
  refine r_callV1 (rest := [.int 8, va_rf (hR h43 a0 35)]) (hc := (Mo_isWordBy_ok g N _ _ _ _ _ _ hq51 D2 (by omega))) rfl pm_Mo_isWordBy lw_11_359 im_Mo_isWordBy sl_Mo_isWordBy rfl rfl rfl (rcOK (kwI he44 (kwI he38 (kwI he31 (kwI he24 (kwI he18 hk12))))) rfl) (by simp only [List.map_cons, List.map_nil, rf_cat, cat_i, cat_l, List.sum_cons, List.sum_nil]; decide) ?_
  refine r_if_eq (tgt := 106) rfl (by decide) (fun hc52 => ?_) (fun hc52 => ?_)
  · have hE := ifP hc52 hE
    refine r_iconst 0 rfl ci_0 ?_
    first | exact r_sb (Mo_handsOut_b107_ok g N _ hD   _ _ _ _ _ _ _ hE) ⟨rfl, trivial⟩ | exact r_sb (Mo_handsOut_b107_ok g N _ hD   _ _ _ _ _ _ _ hE) (by simp only [su1, su2, dr1_rf, dr1_in, dr1_lo, dr2_rf, dr2_in, dr2_lo]; exact ⟨rfl, trivial⟩)
  · have hE := ifN hc52 hE
    refine r_iconst 1 rfl ci_1 ?_
    refine r_goto (tgt := 107) rfl (by decide) ?_
    first | exact r_sb (Mo_handsOut_b107_ok g N _ hD   _ _ _ _ _ _ _ hE) ⟨rfl, trivial⟩ | exact r_sb (Mo_handsOut_b107_ok g N _ hD   _ _ _ _ _ _ _ hE) (by simp only [su1, su2, dr1_rf, dr1_in, dr1_lo, dr2_rf, dr2_in, dr2_lo]; exact ⟨rfl, trivial⟩)
def Mo_give_b22 (N : Nat) (s0 : Nat) (s1 : Int32) (a0 : Nat) (x1 : Int32) (h : PH) : Option (Int32 × PH) :=
  ck ((hK h s0).1 = 11) <|
  lt0 (wI h s0 0 s1) fun h2 =>
  ck ((hK h2 a0).1 = 11) <|
  if (hI h2 a0 0) = 1 then
    some (0, h2)
  else
    bd (Mo_keeps N a0 h2) fun v6 h7 =>
    ck ((hK h7 a0).1 = 11) <|
    bd (Mo_handsOut N a0 x1 h7) fun v10 h11 =>
    some (v10, h11)
set_option maxRecDepth 20000 in
theorem Mo_give_b22_ok (g : GT) (N : Nat) (D : Nat) (hD : 3 ≤ D) : ∀ (s0 : Nat) (s1 : Int32) (a0 : Nat) (x1 : Int32) (h : PH) (v : Int32) (h' : PH), Mo_give_b22 N s0 s1 a0 x1 h = some (v, h') → Run g pMo_give D 22 [(0, va_rf (some a0)), (1, .int x1)] [.int s1, va_rf (some s0)] h (rI v) h' := by
  obtain ⟨D2, rfl⟩ : ∃ d, D = d + 1 := ⟨D - 1, by omega⟩
  intro s0 s1 a0 x1 h v h' hE
  unfold Mo_give_b22 at hE
  obtain ⟨hk1, hE⟩ := ckE hE
  obtain ⟨h2, he3, hE⟩ := ltE hE
  refine r_putI rfl (fl_11_119 rfl) finF rfl hk1 he3 ?_
  refine r_aload_n (t := some a0) 0 rfl rfl rfl ?_
  obtain ⟨hk4, hE⟩ := ckE hE
  refine r_getI rfl (fl_11_119 rfl) (Or.inl rfl) rfl hk4 ?_
  refine r_iconst 1 rfl ci_1 ?_
  refine r_icmp_ne (tgt := 35) rfl (by decide) (fun hc5 => ?_) (fun hc5 => ?_)
  · have hE := ifP hc5 hE
    refine r_iconst 0 rfl ci_0 ?_
    cases hE
    exact r_ret rfl (Or.inl ⟨rfl, _, _, rfl, rfl, rfl, rfl⟩)
  · have hE := ifN hc5 hE
    refine r_aload_n (t := some a0) 0 rfl rfl rfl ?_
    obtain ⟨v6, h7, hq8, hE⟩ := bdE hE
    refine r_callV0 (rest := []) (hc := (Mo_keeps_ok g N _ _ _ _ hq8 D2 (by omega))) rfl pm_Mo_keeps lw_11_371 im_Mo_keeps sl_Mo_keeps rfl rfl rfl (rcOK hk4 rfl) (by decide) ?_
    refine r_aload_n (t := some a0) 0 rfl rfl rfl ?_
    refine r_iload_n 1 rfl rfl rfl ?_
    obtain ⟨hk9, hE⟩ := ckE hE
    obtain ⟨v10, h11, hq12, hE⟩ := bdE hE
    refine r_callV1 (rest := []) (hc := (Mo_handsOut_ok g N _ _ _ _ _ hq12 D2 (by omega))) rfl pm_Mo_handsOut lw_11_365 im_Mo_handsOut sl_Mo_handsOut rfl rfl rfl (rcOK hk9 rfl) (by decide) ?_
    cases hE
    exact r_ret rfl (Or.inl ⟨rfl, _, _, rfl, rfl, rfl, rfl⟩)
def Mo_give_b21 (N : Nat) (s0 : Nat) (a0 : Nat) (x1 : Int32) (h : PH) : Option (Int32 × PH) :=
  Mo_give_b22 N  s0 1 a0 x1 h
set_option maxRecDepth 20000 in
theorem Mo_give_b21_ok (g : GT) (N : Nat) (D : Nat) (hD : 3 ≤ D) : ∀ (s0 : Nat) (a0 : Nat) (x1 : Int32) (h : PH) (v : Int32) (h' : PH), Mo_give_b21 N s0 a0 x1 h = some (v, h') → Run g pMo_give D 21 [(0, va_rf (some a0)), (1, .int x1)] [va_rf (some s0)] h (rI v) h' := by
  obtain ⟨D2, rfl⟩ : ∃ d, D = d + 1 := ⟨D - 1, by omega⟩
  intro s0 a0 x1 h v h' hE
  unfold Mo_give_b21 at hE
  refine r_iconst 1 rfl ci_1 ?_
  first | exact r_sb (Mo_give_b22_ok g N _ hD   _ _ _ _ _ _ _ hE) ⟨rfl, rfl, trivial⟩ | exact r_sb (Mo_give_b22_ok g N _ hD   _ _ _ _ _ _ _ hE) (by simp only [su1, su2, dr1_rf, dr1_in, dr1_lo, dr2_rf, dr2_in, dr2_lo]; exact ⟨rfl, rfl, trivial⟩)
def Mo_give (N : Nat) (a0 : Nat) (x1 : Int32) (h : PH) : Option (Int32 × PH) :=
  bd (Mo_within N x1 0 4 h) fun v1 h2 =>
  if (bI v1) = 0 then
    Mo_give_b21 N  a0 a0 x1 h2
  else
    ck ((hK h2 a0).1 = 11) <|
    bd (Mo_canGive N a0 h2) fun v6 h7 =>
    if (bI v6) = 0 then
      Mo_give_b21 N  a0 a0 x1 h7
    else
      Mo_give_b22 N  a0 0 a0 x1 h7
set_option maxRecDepth 20000 in
theorem Mo_give_ok (g : GT) (N : Nat) (a0 : Nat) (x1 : Int32) (h : PH) (v : Int32) (h' : PH) (hE : Mo_give N a0 x1 h = some (v, h')) (D : Nat) (hD : 3 ≤ D) : Calls g D pMo_give [va_rf (some a0), .int x1] h (oI v) h' := by
  refine Calls.of cok_Mo_give ht_Mo_give pl_Mo_give (fun ad => by rw [lg_len, sL_cat]; simp only [List.map_cons, List.map_nil, rf_cat, cat_i, cat_l, List.sum_cons, List.sum_nil]; decide) ?_
  rw [show lv_args 0 [va_rf (some a0), .int x1] = [(0, va_rf (some a0)), (1, .int x1)] from (by simp only [lv_args, rf_cat, cat_i, cat_l]; try rfl)]
  obtain ⟨D2, rfl⟩ : ∃ d, D = d + 1 := ⟨D - 1, by omega⟩
  unfold Mo_give at hE
  refine r_aload_n (t := some a0) 0 rfl rfl rfl ?_
  refine r_iload_n 1 rfl rfl rfl ?_
  refine r_iconst 0 rfl ci_0 ?_
  refine r_iconst 4 rfl ci_4 ?_
  obtain ⟨v1, h2, hq3, hE⟩ := bdE hE
  refine r_callS1 (rest := [va_rf (some a0)]) (hc := (Mo_within_ok g N _ _ _ _ _ _ hq3 D2 (by omega))) rfl pm_Mo_within lw_11_247 st_Mo_within rfl rfl (by simp only [List.map_cons, List.map_nil, rf_cat, cat_i, cat_l, List.sum_cons, List.sum_nil]; decide) ?_
  refine r_if_eq (tgt := 21) rfl (by decide) (fun hc4 => ?_) (fun hc4 => ?_)
  · have hE := ifP hc4 hE
    first | exact r_sb (Mo_give_b21_ok g N _ hD   _ _ _ _ _ _ hE) ⟨rfl, rfl, trivial⟩ | exact r_sb (Mo_give_b21_ok g N _ hD   _ _ _ _ _ _ hE) (by simp only [su1, su2, dr1_rf, dr1_in, dr1_lo, dr2_rf, dr2_in, dr2_lo]; exact ⟨rfl, rfl, trivial⟩)
  · have hE := ifN hc4 hE
    refine r_aload_n (t := some a0) 0 rfl rfl rfl ?_
    obtain ⟨hk5, hE⟩ := ckE hE
    obtain ⟨v6, h7, hq8, hE⟩ := bdE hE
    refine r_callV1 (rest := [va_rf (some a0)]) (hc := (Mo_canGive_ok g N _ _ _ _ hq8 D2 (by omega))) rfl pm_Mo_canGive lw_11_362 im_Mo_canGive sl_Mo_canGive rfl rfl rfl (rcOK hk5 rfl) (by simp only [List.map_cons, List.map_nil, rf_cat, cat_i, cat_l, List.sum_cons, List.sum_nil]; decide) ?_
    refine r_if_eq (tgt := 21) rfl (by decide) (fun hc9 => ?_) (fun hc9 => ?_)
    · have hE := ifP hc9 hE
      first | exact r_sb (Mo_give_b21_ok g N _ hD   _ _ _ _ _ _ hE) ⟨rfl, rfl, trivial⟩ | exact r_sb (Mo_give_b21_ok g N _ hD   _ _ _ _ _ _ hE) (by simp only [su1, su2, dr1_rf, dr1_in, dr1_lo, dr2_rf, dr2_in, dr2_lo]; exact ⟨rfl, rfl, trivial⟩)
    · have hE := ifN hc9 hE
      refine r_iconst 0 rfl ci_0 ?_
      refine r_goto (tgt := 22) rfl (by decide) ?_
      first | exact r_sb (Mo_give_b22_ok g N _ hD   _ _ _ _ _ _ _ hE) ⟨rfl, rfl, trivial⟩ | exact r_sb (Mo_give_b22_ok g N _ hD   _ _ _ _ _ _ _ hE) (by simp only [su1, su2, dr1_rf, dr1_in, dr1_lo, dr2_rf, dr2_in, dr2_lo]; exact ⟨rfl, rfl, trivial⟩)
def Mo_passes_b57 (N : Nat) (a0 : Nat) (h : PH) : Option (Unit × PH) :=
  ck ((hK h a0).1 = 11) <|
  ((hR h a0 35)).bind fun a_2 =>
  ck ((hK h a_2).1 = 20) <|
  ck (inb 0 (hK h a_2).2 = true) <|
  ck (inb 0 (hK h a_2).2 = true) <|
  lt0 (wI h a_2 (ix 0) ((hI h a_2 (ix 0)) + 1)) fun h7 =>
  ((hR h7 a0 35)).bind fun a_9 =>
  ck ((hK h7 a_9).1 = 20) <|
  ck (inb 3 (hK h7 a_9).2 = true) <|
  lt0 (wI h7 a_9 (ix 3) 0) fun h13 =>
  ((hR h13 a0 35)).bind fun a_15 =>
  ck ((hK h13 a_15).1 = 20) <|
  ck (inb 4 (hK h13 a_15).2 = true) <|
  lt0 (wI h13 a_15 (ix 4) 0) fun h19 =>
  ((hR h19 a0 35)).bind fun a_21 =>
  ck ((hK h19 a_21).1 = 20) <|
  ck (inb 5 (hK h19 a_21).2 = true) <|
  lt0 (wI h19 a_21 (ix 5) 0) fun h25 =>
  ((hR h25 a0 35)).bind fun a_27 =>
  ck ((hK h25 a_27).1 = 20) <|
  ck (inb 8 (hK h25 a_27).2 = true) <|
  ck (inb 7 (hK h25 a_27).2 = true) <|
  lt0 (wI h25 a_27 (ix 7) (hI h25 a_27 (ix 8))) fun h32 =>
  ((hR h32 a0 35)).bind fun a_34 =>
  ck ((hK h32 a_34).1 = 20) <|
  ck (inb 8 (hK h32 a_34).2 = true) <|
  lt0 (wI h32 a_34 (ix 8) 0) fun h38 =>
  bd (Mo_isOver N a0 h38) fun v40 h41 =>
  if (bI v40) = 0 then
    some ((), h41)
  else
    ck ((hK h41 a0).1 = 11) <|
    ((hR h41 a0 35)).bind fun a_45 =>
    ck ((hK h41 a_45).1 = 20) <|
    ck (inb 11 (hK h41 a_45).2 = true) <|
    ((hR h41 a0 10)).bind fun a_49 =>
    ck ((hK h41 a_49).1 = 20) <|
    ck (inb 7 (hK h41 a_49).2 = true) <|
    ck (inb 1 (hK h41 a_45).2 = true) <|
    ck (inb 11 (hK h41 a_45).2 = true) <|
    lt0 (wI h41 a_45 (ix 11) ((hI h41 a_45 (ix 11)) - ((hI h41 a_49 (ix 7)) * (hI h41 a_45 (ix 1))))) fun h55 =>
    some ((), h55)
set_option maxRecDepth 20000 in
theorem Mo_passes_b57_ok (g : GT) (N : Nat) (D : Nat) (hD : 3 ≤ D) : ∀ (a0 : Nat) (h : PH) (v : Unit) (h' : PH), Mo_passes_b57 N a0 h = some (v, h') → Run g pMo_passes D 57 [(0, va_rf (some a0))] [] h (rV v) h' := by
  obtain ⟨D2, rfl⟩ : ∃ d, D = d + 1 := ⟨D - 1, by omega⟩
  intro a0 h v h' hE
  unfold Mo_passes_b57 at hE
  refine r_aload_n (t := some a0) 0 rfl rfl rfl ?_
  obtain ⟨hk1, hE⟩ := ckE hE
  refine r_getR rfl (fl_11_81 rfl) (Or.inr ⟨_, rfl⟩) rfl hk1 ?_
  refine r_iconst 0 rfl ci_0 ?_
  refine r_dup2 rfl rfl (rf_cat _) ?_
  obtain ⟨a_2, ha3, hE⟩ := bnE hE
  obtain ⟨hk4, hE⟩ := ckE hE
  obtain ⟨hi5, hE⟩ := ckE hE
  refine r_iald rfl ha3 hk4 hi5 ?_
  refine r_iconst 1 rfl ci_1 ?_
  refine r_iadd rfl ?_
  obtain ⟨hi6, hE⟩ := ckE hE
  obtain ⟨h7, he8, hE⟩ := ltE hE
  refine r_iast rfl ha3 hk4 hi6 he8 ?_
  refine r_aload_n (t := some a0) 0 rfl rfl rfl ?_
  refine r_getR rfl (fl_11_81 rfl) (Or.inr ⟨_, rfl⟩) rfl (kwI he8 hk1) ?_
  refine r_iconst 3 rfl ci_3 ?_
  refine r_iconst 0 rfl ci_0 ?_
  obtain ⟨a_9, ha10, hE⟩ := bnE hE
  obtain ⟨hk11, hE⟩ := ckE hE
  obtain ⟨hi12, hE⟩ := ckE hE
  obtain ⟨h13, he14, hE⟩ := ltE hE
  refine r_iast rfl ha10 hk11 hi12 he14 ?_
  refine r_aload_n (t := some a0) 0 rfl rfl rfl ?_
  refine r_getR rfl (fl_11_81 rfl) (Or.inr ⟨_, rfl⟩) rfl (kwI he14 (kwI he8 hk1)) ?_
  refine r_iconst 4 rfl ci_4 ?_
  refine r_iconst 0 rfl ci_0 ?_
  obtain ⟨a_15, ha16, hE⟩ := bnE hE
  obtain ⟨hk17, hE⟩ := ckE hE
  obtain ⟨hi18, hE⟩ := ckE hE
  obtain ⟨h19, he20, hE⟩ := ltE hE
  refine r_iast rfl ha16 hk17 hi18 he20 ?_
  refine r_aload_n (t := some a0) 0 rfl rfl rfl ?_
  refine r_getR rfl (fl_11_81 rfl) (Or.inr ⟨_, rfl⟩) rfl (kwI he20 (kwI he14 (kwI he8 hk1))) ?_
  refine r_iconst 5 rfl ci_5 ?_
  refine r_iconst 0 rfl ci_0 ?_
  obtain ⟨a_21, ha22, hE⟩ := bnE hE
  obtain ⟨hk23, hE⟩ := ckE hE
  obtain ⟨hi24, hE⟩ := ckE hE
  obtain ⟨h25, he26, hE⟩ := ltE hE
  refine r_iast rfl ha22 hk23 hi24 he26 ?_
  refine r_aload_n (t := some a0) 0 rfl rfl rfl ?_
  refine r_getR rfl (fl_11_81 rfl) (Or.inr ⟨_, rfl⟩) rfl (kwI he26 (kwI he20 (kwI he14 (kwI he8 hk1)))) ?_
  refine r_bipush 7 rfl cb_7 ?_
  refine r_aload_n (t := some a0) 0 rfl rfl rfl ?_
  refine r_getR rfl (fl_11_81 rfl) (Or.inr ⟨_, rfl⟩) rfl (kwI he26 (kwI he20 (kwI he14 (kwI he8 hk1)))) ?_
  refine r_bipush 8 rfl cb_8 ?_
  obtain ⟨a_27, ha28, hE⟩ := bnE hE
  obtain ⟨hk29, hE⟩ := ckE hE
  obtain ⟨hi30, hE⟩ := ckE hE
  refine r_iald rfl ha28 hk29 hi30 ?_
  obtain ⟨hi31, hE⟩ := ckE hE
  obtain ⟨h32, he33, hE⟩ := ltE hE
  refine r_iast rfl ha28 hk29 hi31 he33 ?_
  refine r_aload_n (t := some a0) 0 rfl rfl rfl ?_
  refine r_getR rfl (fl_11_81 rfl) (Or.inr ⟨_, rfl⟩) rfl (kwI he33 (kwI he26 (kwI he20 (kwI he14 (kwI he8 hk1))))) ?_
  refine r_bipush 8 rfl cb_8 ?_
  refine r_iconst 0 rfl ci_0 ?_
  obtain ⟨a_34, ha35, hE⟩ := bnE hE
  obtain ⟨hk36, hE⟩ := ckE hE
  obtain ⟨hi37, hE⟩ := ckE hE
  obtain ⟨h38, he39, hE⟩ := ltE hE
  refine r_iast rfl ha35 hk36 hi37 he39 ?_
  refine r_aload_n (t := some a0) 0 rfl rfl rfl ?_
  obtain ⟨v40, h41, hq42, hE⟩ := bdE hE
  refine r_callV1 (rest := []) (hc := (Mo_isOver_ok g N _ _ _ _ hq42 D2 (by omega))) rfl pm_Mo_isOver lw_11_344 im_Mo_isOver sl_Mo_isOver rfl rfl rfl (rcOK (kwI he39 (kwI he33 (kwI he26 (kwI he20 (kwI he14 (kwI he8 hk1)))))) rfl) (by decide) ?_
  refine r_if_eq (tgt := 141) rfl (by decide) (fun hc43 => ?_) (fun hc43 => ?_)
  · have hE := ifP hc43 hE
    cases hE
    exact r_ret rfl (Or.inr (Or.inr (Or.inr ⟨rfl, rfl, rfl, rfl⟩)))
  · have hE := ifN hc43 hE
    refine r_aload_n (t := some a0) 0 rfl rfl rfl ?_
    obtain ⟨hk44, hE⟩ := ckE hE
    refine r_getR rfl (fl_11_81 rfl) (Or.inr ⟨_, rfl⟩) rfl hk44 ?_
    refine r_bipush 11 rfl cb_11 ?_
    refine r_dup2 rfl rfl (rf_cat _) ?_
    obtain ⟨a_45, ha46, hE⟩ := bnE hE
    obtain ⟨hk47, hE⟩ := ckE hE
    obtain ⟨hi48, hE⟩ := ckE hE
    refine r_iald rfl ha46 hk47 hi48 ?_
    refine r_aload_n (t := some a0) 0 rfl rfl rfl ?_
    refine r_getR rfl (fl_11_13 rfl) (Or.inr ⟨_, rfl⟩) rfl hk44 ?_
    refine r_bipush 7 rfl cb_7 ?_
    obtain ⟨a_49, ha50, hE⟩ := bnE hE
    obtain ⟨hk51, hE⟩ := ckE hE
    obtain ⟨hi52, hE⟩ := ckE hE
    refine r_iald rfl ha50 hk51 hi52 ?_
    refine r_aload_n (t := some a0) 0 rfl rfl rfl ?_
    refine r_getR rfl (fl_11_81 rfl) (Or.inr ⟨_, rfl⟩) rfl hk44 ?_
    refine r_iconst 1 rfl ci_1 ?_
    obtain ⟨hi53, hE⟩ := ckE hE
    refine r_iald rfl ha46 hk47 hi53 ?_
    refine r_imul rfl ?_
    refine r_isub rfl ?_
    obtain ⟨hi54, hE⟩ := ckE hE
    obtain ⟨h55, he56, hE⟩ := ltE hE
    refine r_iast rfl ha46 hk47 hi54 he56 ?_
    cases hE
    exact r_ret rfl (Or.inr (Or.inr (Or.inr ⟨rfl, rfl, rfl, rfl⟩)))
def Mo_passes_b13 (N : Nat) (a0 : Nat) (h : PH) : Option (Unit × PH) :=
  ck ((hK h a0).1 = 11) <|
  ((hR h a0 35)).bind fun a_2 =>
  ck ((hK h a_2).1 = 20) <|
  ck (inb 6 (hK h a_2).2 = true) <|
  if (hI h a_2 (ix 6)) = 1 then
    ck (inb 12 (hK h a_2).2 = true) <|
    ck (inb 0 (hK h a_2).2 = true) <|
    if (hI h a_2 (ix 0)) < (hI h a_2 (ix 12)) then
      Mo_passes_b57 N  a0 h
    else
      ck (inb 11 (hK h a_2).2 = true) <|
      ((hR h a0 10)).bind fun a_11 =>
      ck ((hK h a_11).1 = 20) <|
      ck (inb 12 (hK h a_11).2 = true) <|
      ck (inb 11 (hK h a_2).2 = true) <|
      lt0 (wI h a_2 (ix 11) ((hI h a_2 (ix 11)) - (hI h a_11 (ix 12)))) fun h16 =>
      Mo_passes_b57 N  a0 h16
  else
    Mo_passes_b57 N  a0 h
set_option maxRecDepth 20000 in
theorem Mo_passes_b13_ok (g : GT) (N : Nat) (D : Nat) (hD : 3 ≤ D) : ∀ (a0 : Nat) (h : PH) (v : Unit) (h' : PH), Mo_passes_b13 N a0 h = some (v, h') → Run g pMo_passes D 13 [(0, va_rf (some a0))] [] h (rV v) h' := by
  obtain ⟨D2, rfl⟩ : ∃ d, D = d + 1 := ⟨D - 1, by omega⟩
  intro a0 h v h' hE
  unfold Mo_passes_b13 at hE
  refine r_aload_n (t := some a0) 0 rfl rfl rfl ?_
  obtain ⟨hk1, hE⟩ := ckE hE
  refine r_getR rfl (fl_11_81 rfl) (Or.inr ⟨_, rfl⟩) rfl hk1 ?_
  refine r_bipush 6 rfl cb_6 ?_
  obtain ⟨a_2, ha3, hE⟩ := bnE hE
  obtain ⟨hk4, hE⟩ := ckE hE
  obtain ⟨hi5, hE⟩ := ckE hE
  refine r_iald rfl ha3 hk4 hi5 ?_
  refine r_iconst 1 rfl ci_1 ?_
  refine r_icmp_ne (tgt := 57) rfl (by decide) (fun hc6 => ?_) (fun hc6 => ?_)
  · have hE := ifP hc6 hE
    refine r_aload_n (t := some a0) 0 rfl rfl rfl ?_
    refine r_getR rfl (fl_11_81 rfl) (Or.inr ⟨_, rfl⟩) rfl hk1 ?_
    refine r_bipush 12 rfl cb_12 ?_
    obtain ⟨hi7, hE⟩ := ckE hE
    refine r_iald rfl ha3 hk4 hi7 ?_
    refine r_aload_n (t := some a0) 0 rfl rfl rfl ?_
    refine r_getR rfl (fl_11_81 rfl) (Or.inr ⟨_, rfl⟩) rfl hk1 ?_
    refine r_iconst 0 rfl ci_0 ?_
    obtain ⟨hi8, hE⟩ := ckE hE
    refine r_iald rfl ha3 hk4 hi8 ?_
    refine r_icmp_gt (tgt := 57) rfl (by decide) (fun hc9 => ?_) (fun hc9 => ?_)
    · have hE := ifP hc9 hE
      first | exact r_sb (Mo_passes_b57_ok g N _ hD   _ _ _ _ hE) ⟨rfl, trivial⟩ | exact r_sb (Mo_passes_b57_ok g N _ hD   _ _ _ _ hE) (by simp only [su1, su2, dr1_rf, dr1_in, dr1_lo, dr2_rf, dr2_in, dr2_lo]; exact ⟨rfl, trivial⟩)
    · have hE := ifN hc9 hE
      refine r_aload_n (t := some a0) 0 rfl rfl rfl ?_
      refine r_getR rfl (fl_11_81 rfl) (Or.inr ⟨_, rfl⟩) rfl hk1 ?_
      refine r_bipush 11 rfl cb_11 ?_
      refine r_dup2 rfl rfl (rf_cat _) ?_
      obtain ⟨hi10, hE⟩ := ckE hE
      refine r_iald rfl ha3 hk4 hi10 ?_
      refine r_aload_n (t := some a0) 0 rfl rfl rfl ?_
      refine r_getR rfl (fl_11_13 rfl) (Or.inr ⟨_, rfl⟩) rfl hk1 ?_
      refine r_bipush 12 rfl cb_12 ?_
      obtain ⟨a_11, ha12, hE⟩ := bnE hE
      obtain ⟨hk13, hE⟩ := ckE hE
      obtain ⟨hi14, hE⟩ := ckE hE
      refine r_iald rfl ha12 hk13 hi14 ?_
      refine r_isub rfl ?_
      obtain ⟨hi15, hE⟩ := ckE hE
      obtain ⟨h16, he17, hE⟩ := ltE hE
      refine r_iast rfl ha3 hk4 hi15 he17 ?_
      first | exact r_sb (Mo_passes_b57_ok g N _ hD   _ _ _ _ hE) ⟨rfl, trivial⟩ | exact r_sb (Mo_passes_b57_ok g N _ hD   _ _ _ _ hE) (by simp only [su1, su2, dr1_rf, dr1_in, dr1_lo, dr2_rf, dr2_in, dr2_lo]; exact ⟨rfl, trivial⟩)
  · have hE := ifN hc6 hE
    first | exact r_sb (Mo_passes_b57_ok g N _ hD   _ _ _ _ hE) ⟨rfl, trivial⟩ | exact r_sb (Mo_passes_b57_ok g N _ hD   _ _ _ _ hE) (by simp only [su1, su2, dr1_rf, dr1_in, dr1_lo, dr2_rf, dr2_in, dr2_lo]; exact ⟨rfl, trivial⟩)
def Mo_passes (N : Nat) (a0 : Nat) (h : PH) : Option (Unit × PH) :=
  ck ((hK h a0).1 = 11) <|
  bd (Mo_canGive N a0 h) fun v2 h3 =>
  if (bI v2) = 0 then
    Mo_passes_b13 N  a0 h3
  else
    ck ((hK h3 a0).1 = 11) <|
    bd (Mo_handsOut N a0 0 h3) fun v7 h8 =>
    Mo_passes_b13 N  a0 h8
set_option maxRecDepth 20000 in
theorem Mo_passes_ok (g : GT) (N : Nat) (a0 : Nat) (h : PH) (v : Unit) (h' : PH) (hE : Mo_passes N a0 h = some (v, h')) (D : Nat) (hD : 3 ≤ D) : Calls g D pMo_passes [va_rf (some a0)] h (oV v) h' := by
  refine Calls.of cok_Mo_passes ht_Mo_passes pl_Mo_passes (fun ad => by rw [lg_len, sL_cat]; simp only [List.map_cons, List.map_nil, rf_cat, cat_i, cat_l, List.sum_cons, List.sum_nil]; decide) ?_
  rw [show lv_args 0 [va_rf (some a0)] = [(0, va_rf (some a0))] from (by simp only [lv_args, rf_cat, cat_i, cat_l]; try rfl)]
  obtain ⟨D2, rfl⟩ : ∃ d, D = d + 1 := ⟨D - 1, by omega⟩
  unfold Mo_passes at hE
  refine r_aload_n (t := some a0) 0 rfl rfl rfl ?_
  obtain ⟨hk1, hE⟩ := ckE hE
  obtain ⟨v2, h3, hq4, hE⟩ := bdE hE
  refine r_callV1 (rest := []) (hc := (Mo_canGive_ok g N _ _ _ _ hq4 D2 (by omega))) rfl pm_Mo_canGive lw_11_362 im_Mo_canGive sl_Mo_canGive rfl rfl rfl (rcOK hk1 rfl) (by decide) ?_
  refine r_if_eq (tgt := 13) rfl (by decide) (fun hc5 => ?_) (fun hc5 => ?_)
  · have hE := ifP hc5 hE
    first | exact r_sb (Mo_passes_b13_ok g N _ hD   _ _ _ _ hE) ⟨rfl, trivial⟩ | exact r_sb (Mo_passes_b13_ok g N _ hD   _ _ _ _ hE) (by simp only [su1, su2, dr1_rf, dr1_in, dr1_lo, dr2_rf, dr2_in, dr2_lo]; exact ⟨rfl, trivial⟩)
  · have hE := ifN hc5 hE
    refine r_aload_n (t := some a0) 0 rfl rfl rfl ?_
    refine r_iconst 0 rfl ci_0 ?_
    obtain ⟨hk6, hE⟩ := ckE hE
    obtain ⟨v7, h8, hq9, hE⟩ := bdE hE
    refine r_callV1 (rest := []) (hc := (Mo_handsOut_ok g N _ _ _ _ _ hq9 D2 (by omega))) rfl pm_Mo_handsOut lw_11_365 im_Mo_handsOut sl_Mo_handsOut rfl rfl rfl (rcOK hk6 rfl) (by decide) ?_
    refine r_pop rfl rfl ?_
    first | exact r_sb (Mo_passes_b13_ok g N _ hD   _ _ _ _ hE) ⟨rfl, trivial⟩ | exact r_sb (Mo_passes_b13_ok g N _ hD   _ _ _ _ hE) (by simp only [su1, su2, dr1_rf, dr1_in, dr1_lo, dr2_rf, dr2_in, dr2_lo]; exact ⟨rfl, trivial⟩)
def Mo_quarter (N : Nat) (a0 : Nat) (h : PH) : Option (Int32 × PH) :=
  ck ((hK h a0).1 = 11) <|
  lt0 (wI h a0 0 0) fun h2 =>
  bd (Mo_isOver N a0 h2) fun v4 h5 =>
  if (bI v4) = 0 then
    ck ((hK h5 a0).1 = 11) <|
    bd (Mo_keeps N a0 h5) fun v9 h10 =>
    ck ((hK h10 a0).1 = 11) <|
    bd (Mo_passes N a0 h10) fun v13 h14 =>
    ck ((hK h14 a0).1 = 11) <|
    ((hR h14 a0 35)).bind fun a_17 =>
    ck ((hK h14 a_17).1 = 20) <|
    ck (inb 0 (hK h14 a_17).2 = true) <|
    some ((hI h14 a_17 (ix 0)), h14)
  else
    some ((-1), h5)
set_option maxRecDepth 20000 in
theorem Mo_quarter_ok (g : GT) (N : Nat) (a0 : Nat) (h : PH) (v : Int32) (h' : PH) (hE : Mo_quarter N a0 h = some (v, h')) (D : Nat) (hD : 4 ≤ D) : Calls g D pMo_quarter [va_rf (some a0)] h (oI v) h' := by
  refine Calls.of cok_Mo_quarter ht_Mo_quarter pl_Mo_quarter (fun ad => by rw [lg_len, sL_cat]; simp only [List.map_cons, List.map_nil, rf_cat, cat_i, cat_l, List.sum_cons, List.sum_nil]; decide) ?_
  rw [show lv_args 0 [va_rf (some a0)] = [(0, va_rf (some a0))] from (by simp only [lv_args, rf_cat, cat_i, cat_l]; try rfl)]
  obtain ⟨D2, rfl⟩ : ∃ d, D = d + 1 := ⟨D - 1, by omega⟩
  unfold Mo_quarter at hE
  refine r_aload_n (t := some a0) 0 rfl rfl rfl ?_
  refine r_iconst 0 rfl ci_0 ?_
  obtain ⟨hk1, hE⟩ := ckE hE
  obtain ⟨h2, he3, hE⟩ := ltE hE
  refine r_putI rfl (fl_11_119 rfl) finF rfl hk1 he3 ?_
  refine r_aload_n (t := some a0) 0 rfl rfl rfl ?_
  obtain ⟨v4, h5, hq6, hE⟩ := bdE hE
  refine r_callV1 (rest := []) (hc := (Mo_isOver_ok g N _ _ _ _ hq6 D2 (by omega))) rfl pm_Mo_isOver lw_11_344 im_Mo_isOver sl_Mo_isOver rfl rfl rfl (rcOK (kwI he3 hk1) rfl) (by decide) ?_
  refine r_if_eq (tgt := 14) rfl (by decide) (fun hc7 => ?_) (fun hc7 => ?_)
  · have hE := ifP hc7 hE
    refine r_aload_n (t := some a0) 0 rfl rfl rfl ?_
    obtain ⟨hk8, hE⟩ := ckE hE
    obtain ⟨v9, h10, hq11, hE⟩ := bdE hE
    refine r_callV0 (rest := []) (hc := (Mo_keeps_ok g N _ _ _ _ hq11 D2 (by omega))) rfl pm_Mo_keeps lw_11_371 im_Mo_keeps sl_Mo_keeps rfl rfl rfl (rcOK hk8 rfl) (by decide) ?_
    refine r_aload_n (t := some a0) 0 rfl rfl rfl ?_
    obtain ⟨hk12, hE⟩ := ckE hE
    obtain ⟨v13, h14, hq15, hE⟩ := bdE hE
    refine r_callV0 (rest := []) (hc := (Mo_passes_ok g N _ _ _ _ hq15 D2 (by omega))) rfl pm_Mo_passes lw_11_377 im_Mo_passes sl_Mo_passes rfl rfl rfl (rcOK hk12 rfl) (by decide) ?_
    refine r_aload_n (t := some a0) 0 rfl rfl rfl ?_
    obtain ⟨hk16, hE⟩ := ckE hE
    refine r_getR rfl (fl_11_81 rfl) (Or.inr ⟨_, rfl⟩) rfl hk16 ?_
    refine r_iconst 0 rfl ci_0 ?_
    obtain ⟨a_17, ha18, hE⟩ := bnE hE
    obtain ⟨hk19, hE⟩ := ckE hE
    obtain ⟨hi20, hE⟩ := ckE hE
    refine r_iald rfl ha18 hk19 hi20 ?_
    cases hE
    exact r_ret rfl (Or.inl ⟨rfl, _, _, rfl, rfl, rfl, rfl⟩)
  · have hE := ifN hc7 hE
    refine r_iconst (-1) rfl ci_m1 ?_
    cases hE
    exact r_ret rfl (Or.inl ⟨rfl, _, _, rfl, rfl, rfl, rfl⟩)
def Mo_canClose (N : Nat) (a0 : Nat) (h : PH) : Option (Bool × PH) :=
  ck ((hK h a0).1 = 11) <|
  bd (Mo_isOver N a0 h) fun v2 h3 =>
  if (bI v2) = 0 then
    ck ((hK h3 a0).1 = 11) <|
    ((hR h3 a0 35)).bind fun a_7 =>
    ck ((hK h3 a_7).1 = 20) <|
    ck (inb 6 (hK h3 a_7).2 = true) <|
    if (hI h3 a_7 (ix 6)) = 0 then
      some (true, h3)
    else
      some (false, h3)
  else
    some (false, h3)
set_option maxRecDepth 20000 in
theorem Mo_canClose_ok (g : GT) (N : Nat) (a0 : Nat) (h : PH) (v : Bool) (h' : PH) (hE : Mo_canClose N a0 h = some (v, h')) (D : Nat) (hD : 1 ≤ D) : Calls g D pMo_canClose [va_rf (some a0)] h (oZ v) h' := by
  refine Calls.of cok_Mo_canClose ht_Mo_canClose pl_Mo_canClose (fun ad => by rw [lg_len, sL_cat]; simp only [List.map_cons, List.map_nil, rf_cat, cat_i, cat_l, List.sum_cons, List.sum_nil]; decide) ?_
  rw [show lv_args 0 [va_rf (some a0)] = [(0, va_rf (some a0))] from (by simp only [lv_args, rf_cat, cat_i, cat_l]; try rfl)]
  obtain ⟨D2, rfl⟩ : ∃ d, D = d + 1 := ⟨D - 1, by omega⟩
  unfold Mo_canClose at hE
  refine r_aload_n (t := some a0) 0 rfl rfl rfl ?_
  obtain ⟨hk1, hE⟩ := ckE hE
  obtain ⟨v2, h3, hq4, hE⟩ := bdE hE
  refine r_callV1 (rest := []) (hc := (Mo_isOver_ok g N _ _ _ _ hq4 D2 (by omega))) rfl pm_Mo_isOver lw_11_344 im_Mo_isOver sl_Mo_isOver rfl rfl rfl (rcOK hk1 rfl) (by decide) ?_
  refine r_if_ne (tgt := 21) rfl (by decide) (fun hc5 => ?_) (fun hc5 => ?_)
  · have hE := ifP hc5 hE
    refine r_aload_n (t := some a0) 0 rfl rfl rfl ?_
    obtain ⟨hk6, hE⟩ := ckE hE
    refine r_getR rfl (fl_11_81 rfl) (Or.inr ⟨_, rfl⟩) rfl hk6 ?_
    refine r_bipush 6 rfl cb_6 ?_
    obtain ⟨a_7, ha8, hE⟩ := bnE hE
    obtain ⟨hk9, hE⟩ := ckE hE
    obtain ⟨hi10, hE⟩ := ckE hE
    refine r_iald rfl ha8 hk9 hi10 ?_
    refine r_if_ne (tgt := 21) rfl (by decide) (fun hc11 => ?_) (fun hc11 => ?_)
    · have hE := ifP hc11 hE
      refine r_iconst 1 rfl ci_1 ?_
      refine r_goto (tgt := 22) rfl (by decide) ?_
      cases hE
      exact r_ret rfl (Or.inl ⟨rfl, _, _, rfl, rfl, rfl, rfl⟩)
    · have hE := ifN hc11 hE
      refine r_iconst 0 rfl ci_0 ?_
      cases hE
      exact r_ret rfl (Or.inl ⟨rfl, _, _, rfl, rfl, rfl, rfl⟩)
  · have hE := ifN hc5 hE
    refine r_iconst 0 rfl ci_0 ?_
    cases hE
    exact r_ret rfl (Or.inl ⟨rfl, _, _, rfl, rfl, rfl, rfl⟩)
def Mo_shuts (N : Nat) (a0 : Nat) (h : PH) : Option (Unit × PH) :=
  ck ((hK h a0).1 = 11) <|
  ((hR h a0 35)).bind fun a_2 =>
  ck ((hK h a_2).1 = 20) <|
  ck (inb 6 (hK h a_2).2 = true) <|
  lt0 (wI h a_2 (ix 6) 1) fun h6 =>
  ((hR h6 a0 35)).bind fun a_8 =>
  ck ((hK h6 a_8).1 = 20) <|
  ck (inb 0 (hK h6 a_8).2 = true) <|
  ck (inb 5 (hK h6 a_8).2 = true) <|
  ck (inb 12 (hK h6 a_8).2 = true) <|
  lt0 (wI h6 a_8 (ix 12) ((hI h6 a_8 (ix 0)) + (hI h6 a_8 (ix 5)))) fun h14 =>
  some ((), h14)
set_option maxRecDepth 20000 in
theorem Mo_shuts_ok (g : GT) (N : Nat) (a0 : Nat) (h : PH) (v : Unit) (h' : PH) (hE : Mo_shuts N a0 h = some (v, h')) (D : Nat) (hD : 0 ≤ D) : Calls g D pMo_shuts [va_rf (some a0)] h (oV v) h' := by
  refine Calls.of cok_Mo_shuts ht_Mo_shuts pl_Mo_shuts (fun ad => by rw [lg_len, sL_cat]; simp only [List.map_cons, List.map_nil, rf_cat, cat_i, cat_l, List.sum_cons, List.sum_nil]; decide) ?_
  rw [show lv_args 0 [va_rf (some a0)] = [(0, va_rf (some a0))] from (by simp only [lv_args, rf_cat, cat_i, cat_l]; try rfl)]
  unfold Mo_shuts at hE
  refine r_aload_n (t := some a0) 0 rfl rfl rfl ?_
  obtain ⟨hk1, hE⟩ := ckE hE
  refine r_getR rfl (fl_11_81 rfl) (Or.inr ⟨_, rfl⟩) rfl hk1 ?_
  refine r_bipush 6 rfl cb_6 ?_
  refine r_iconst 1 rfl ci_1 ?_
  obtain ⟨a_2, ha3, hE⟩ := bnE hE
  obtain ⟨hk4, hE⟩ := ckE hE
  obtain ⟨hi5, hE⟩ := ckE hE
  obtain ⟨h6, he7, hE⟩ := ltE hE
  refine r_iast rfl ha3 hk4 hi5 he7 ?_
  refine r_aload_n (t := some a0) 0 rfl rfl rfl ?_
  refine r_getR rfl (fl_11_81 rfl) (Or.inr ⟨_, rfl⟩) rfl (kwI he7 hk1) ?_
  refine r_bipush 12 rfl cb_12 ?_
  refine r_aload_n (t := some a0) 0 rfl rfl rfl ?_
  refine r_getR rfl (fl_11_81 rfl) (Or.inr ⟨_, rfl⟩) rfl (kwI he7 hk1) ?_
  refine r_iconst 0 rfl ci_0 ?_
  obtain ⟨a_8, ha9, hE⟩ := bnE hE
  obtain ⟨hk10, hE⟩ := ckE hE
  obtain ⟨hi11, hE⟩ := ckE hE
  refine r_iald rfl ha9 hk10 hi11 ?_
  refine r_aload_n (t := some a0) 0 rfl rfl rfl ?_
  refine r_getR rfl (fl_11_81 rfl) (Or.inr ⟨_, rfl⟩) rfl (kwI he7 hk1) ?_
  refine r_iconst 5 rfl ci_5 ?_
  obtain ⟨hi12, hE⟩ := ckE hE
  refine r_iald rfl ha9 hk10 hi12 ?_
  refine r_iadd rfl ?_
  obtain ⟨hi13, hE⟩ := ckE hE
  obtain ⟨h14, he15, hE⟩ := ltE hE
  refine r_iast rfl ha9 hk10 hi13 he15 ?_
  cases hE
  exact r_ret rfl (Or.inr (Or.inr (Or.inr ⟨rfl, rfl, rfl, rfl⟩)))
def Mo_off (N : Nat) (a0 : Nat) (h : PH) : Option (Bool × PH) :=
  ck ((hK h a0).1 = 11) <|
  lt0 (wI h a0 0 0) fun h2 =>
  bd (Mo_canClose N a0 h2) fun v4 h5 =>
  if (bI v4) = 0 then
    some (false, h5)
  else
    ck ((hK h5 a0).1 = 11) <|
    bd (Mo_keeps N a0 h5) fun v9 h10 =>
    ck ((hK h10 a0).1 = 11) <|
    bd (Mo_shuts N a0 h10) fun v13 h14 =>
    some (true, h14)
set_option maxRecDepth 20000 in
theorem Mo_off_ok (g : GT) (N : Nat) (a0 : Nat) (h : PH) (v : Bool) (h' : PH) (hE : Mo_off N a0 h = some (v, h')) (D : Nat) (hD : 2 ≤ D) : Calls g D pMo_off [va_rf (some a0)] h (oZ v) h' := by
  refine Calls.of cok_Mo_off ht_Mo_off pl_Mo_off (fun ad => by rw [lg_len, sL_cat]; simp only [List.map_cons, List.map_nil, rf_cat, cat_i, cat_l, List.sum_cons, List.sum_nil]; decide) ?_
  rw [show lv_args 0 [va_rf (some a0)] = [(0, va_rf (some a0))] from (by simp only [lv_args, rf_cat, cat_i, cat_l]; try rfl)]
  obtain ⟨D2, rfl⟩ : ∃ d, D = d + 1 := ⟨D - 1, by omega⟩
  unfold Mo_off at hE
  refine r_aload_n (t := some a0) 0 rfl rfl rfl ?_
  refine r_iconst 0 rfl ci_0 ?_
  obtain ⟨hk1, hE⟩ := ckE hE
  obtain ⟨h2, he3, hE⟩ := ltE hE
  refine r_putI rfl (fl_11_119 rfl) finF rfl hk1 he3 ?_
  refine r_aload_n (t := some a0) 0 rfl rfl rfl ?_
  obtain ⟨v4, h5, hq6, hE⟩ := bdE hE
  refine r_callV1 (rest := []) (hc := (Mo_canClose_ok g N _ _ _ _ hq6 D2 (by omega))) rfl pm_Mo_canClose lw_11_380 im_Mo_canClose sl_Mo_canClose rfl rfl rfl (rcOK (kwI he3 hk1) rfl) (by decide) ?_
  refine r_if_ne (tgt := 14) rfl (by decide) (fun hc7 => ?_) (fun hc7 => ?_)
  · have hE := ifP hc7 hE
    refine r_iconst 0 rfl ci_0 ?_
    cases hE
    exact r_ret rfl (Or.inl ⟨rfl, _, _, rfl, rfl, rfl, rfl⟩)
  · have hE := ifN hc7 hE
    refine r_aload_n (t := some a0) 0 rfl rfl rfl ?_
    obtain ⟨hk8, hE⟩ := ckE hE
    obtain ⟨v9, h10, hq11, hE⟩ := bdE hE
    refine r_callV0 (rest := []) (hc := (Mo_keeps_ok g N _ _ _ _ hq11 D2 (by omega))) rfl pm_Mo_keeps lw_11_371 im_Mo_keeps sl_Mo_keeps rfl rfl rfl (rcOK hk8 rfl) (by decide) ?_
    refine r_aload_n (t := some a0) 0 rfl rfl rfl ?_
    obtain ⟨hk12, hE⟩ := ckE hE
    obtain ⟨v13, h14, hq15, hE⟩ := bdE hE
    refine r_callV0 (rest := []) (hc := (Mo_shuts_ok g N _ _ _ _ hq15 D2 (by omega))) rfl pm_Mo_shuts lw_11_383 im_Mo_shuts sl_Mo_shuts rfl rfl rfl (rcOK hk12 rfl) (by decide) ?_
    refine r_iconst 1 rfl ci_1 ?_
    cases hE
    exact r_ret rfl (Or.inl ⟨rfl, _, _, rfl, rfl, rfl, rfl⟩)
def Mo_undo (N : Nat) (a0 : Nat) (h : PH) : Option (Bool × PH) :=
  ck ((hK h a0).1 = 11) <|
  lt0 (wI h a0 0 0) fun h2 =>
  if (hI h2 a0 40) = 0 then
    some (false, h2)
  else
    lt0 (wI h2 a0 40 ((hI h2 a0 40) - 1)) fun h5 =>
    bd (Mo_copies N (hR h5 a0 38) (14 * (hI h5 a0 40)) (hR h5 a0 35) 0 h5) fun v7 h8 =>
    some (true, h8)
set_option maxRecDepth 20000 in
theorem Mo_undo_ok (g : GT) (N : Nat) (a0 : Nat) (h : PH) (v : Bool) (h' : PH) (hE : Mo_undo N a0 h = some (v, h')) (D : Nat) (hD : 1 ≤ D) : Calls g D pMo_undo [va_rf (some a0)] h (oZ v) h' := by
  refine Calls.of cok_Mo_undo ht_Mo_undo pl_Mo_undo (fun ad => by rw [lg_len, sL_cat]; simp only [List.map_cons, List.map_nil, rf_cat, cat_i, cat_l, List.sum_cons, List.sum_nil]; decide) ?_
  rw [show lv_args 0 [va_rf (some a0)] = [(0, va_rf (some a0))] from (by simp only [lv_args, rf_cat, cat_i, cat_l]; try rfl)]
  obtain ⟨D2, rfl⟩ : ∃ d, D = d + 1 := ⟨D - 1, by omega⟩
  unfold Mo_undo at hE
  refine r_aload_n (t := some a0) 0 rfl rfl rfl ?_
  refine r_iconst 0 rfl ci_0 ?_
  obtain ⟨hk1, hE⟩ := ckE hE
  obtain ⟨h2, he3, hE⟩ := ltE hE
  refine r_putI rfl (fl_11_119 rfl) finF rfl hk1 he3 ?_
  refine r_aload_n (t := some a0) 0 rfl rfl rfl ?_
  refine r_getI rfl (fl_11_309 rfl) (Or.inl rfl) rfl (kwI he3 hk1) ?_
  refine r_if_ne (tgt := 14) rfl (by decide) (fun hc4 => ?_) (fun hc4 => ?_)
  · have hE := ifP hc4 hE
    refine r_iconst 0 rfl ci_0 ?_
    cases hE
    exact r_ret rfl (Or.inl ⟨rfl, _, _, rfl, rfl, rfl, rfl⟩)
  · have hE := ifN hc4 hE
    refine r_aload_n (t := some a0) 0 rfl rfl rfl ?_
    refine r_dup rfl (rf_cat _) ?_
    refine r_getI rfl (fl_11_309 rfl) (Or.inl rfl) rfl (kwI he3 hk1) ?_
    refine r_iconst 1 rfl ci_1 ?_
    refine r_isub rfl ?_
    obtain ⟨h5, he6, hE⟩ := ltE hE
    refine r_putI rfl (fl_11_309 rfl) finF rfl (kwI he3 hk1) he6 ?_
    refine r_aload_n (t := some a0) 0 rfl rfl rfl ?_
    refine r_getR rfl (fl_11_90 rfl) (Or.inr ⟨_, rfl⟩) rfl (kwI he6 (kwI he3 hk1)) ?_
    refine r_bipush 14 rfl cb_14 ?_
    refine r_aload_n (t := some a0) 0 rfl rfl rfl ?_
    refine r_getI rfl (fl_11_309 rfl) (Or.inl rfl) rfl (kwI he6 (kwI he3 hk1)) ?_
    refine r_imul rfl ?_
    refine r_aload_n (t := some a0) 0 rfl rfl rfl ?_
    refine r_getR rfl (fl_11_81 rfl) (Or.inr ⟨_, rfl⟩) rfl (kwI he6 (kwI he3 hk1)) ?_
    refine r_iconst 0 rfl ci_0 ?_
    obtain ⟨v7, h8, hq9, hE⟩ := bdE hE
    refine r_callS0 (rest := []) (hc := (Mo_copies_ok g N _ _ _ _ _ _ _ hq9 D2 (by omega))) rfl pm_Mo_copies lw_11_340 st_Mo_copies rfl rfl (by decide) ?_
    refine r_iconst 1 rfl ci_1 ?_
    cases hE
    exact r_ret rfl (Or.inl ⟨rfl, _, _, rfl, rfl, rfl, rfl⟩)
def Mo_at (N : Nat) (x0 : Int32) (x1 : Int32) (x2 : Int32) (x3 : Int32) (h : PH) : Option (Int32 × PH) :=
  some (((((((x0 * 121) + x1) * 13) + x2) * 2) + x3), h)
set_option maxRecDepth 20000 in
theorem Mo_at_ok (g : GT) (N : Nat) (x0 : Int32) (x1 : Int32) (x2 : Int32) (x3 : Int32) (h : PH) (v : Int32) (h' : PH) (hE : Mo_at N x0 x1 x2 x3 h = some (v, h')) (D : Nat) (hD : 0 ≤ D) : Calls g D pMo_at [.int x0, .int x1, .int x2, .int x3] h (oI v) h' := by
  refine Calls.of cok_Mo_at ht_Mo_at pl_Mo_at (fun ad => by rw [lg_len, sL_cat]; simp only [List.map_cons, List.map_nil, rf_cat, cat_i, cat_l, List.sum_cons, List.sum_nil]; decide) ?_
  rw [show lv_args 0 [.int x0, .int x1, .int x2, .int x3] = [(0, .int x0), (1, .int x1), (2, .int x2), (3, .int x3)] from (by simp only [lv_args, rf_cat, cat_i, cat_l]; try rfl)]
  unfold Mo_at at hE
  refine r_iload_n 0 rfl rfl rfl ?_
  refine r_bipush 121 rfl cb_121 ?_
  refine r_imul rfl ?_
  refine r_iload_n 1 rfl rfl rfl ?_
  refine r_iadd rfl ?_
  refine r_bipush 13 rfl cb_13 ?_
  refine r_imul rfl ?_
  refine r_iload_n 2 rfl rfl rfl ?_
  refine r_iadd rfl ?_
  refine r_iconst 2 rfl ci_2 ?_
  refine r_imul rfl ?_
  refine r_iload_n 3 rfl rfl rfl ?_
  refine r_iadd rfl ?_
  cases hE
  exact r_ret rfl (Or.inl ⟨rfl, _, _, rfl, rfl, rfl, rfl⟩)
def Mo_closedBy (N : Nat) (a0 : Nat) (x1 : Int32) (x2 : Int32) (h : PH) : Option (Int32 × PH) :=
  ck ((hK h a0).1 = 11) <|
  ((hR h a0 10)).bind fun a_2 =>
  ck ((hK h a_2).1 = 20) <|
  ck (inb 12 (hK h a_2).2 = true) <|
  ck (inb 0 (hK h a_2).2 = true) <|
  ck (inb 7 (hK h a_2).2 = true) <|
  some (((-1000) * (((hI h a_2 (ix 12)) * ((hI h a_2 (ix 0)) - x1)) + ((hI h a_2 (ix 7)) * x2))), h)
set_option maxRecDepth 20000 in
theorem Mo_closedBy_ok (g : GT) (N : Nat) (a0 : Nat) (x1 : Int32) (x2 : Int32) (h : PH) (v : Int32) (h' : PH) (hE : Mo_closedBy N a0 x1 x2 h = some (v, h')) (D : Nat) (hD : 0 ≤ D) : Calls g D pMo_closedBy [va_rf (some a0), .int x1, .int x2] h (oI v) h' := by
  refine Calls.of cok_Mo_closedBy ht_Mo_closedBy pl_Mo_closedBy (fun ad => by rw [lg_len, sL_cat]; simp only [List.map_cons, List.map_nil, rf_cat, cat_i, cat_l, List.sum_cons, List.sum_nil]; decide) ?_
  rw [show lv_args 0 [va_rf (some a0), .int x1, .int x2] = [(0, va_rf (some a0)), (1, .int x1), (2, .int x2)] from (by simp only [lv_args, rf_cat, cat_i, cat_l]; try rfl)]
  unfold Mo_closedBy at hE
  refine r_sipush (-1000) rfl cs_m1000 ?_
  refine r_aload_n (t := some a0) 0 rfl rfl rfl ?_
  obtain ⟨hk1, hE⟩ := ckE hE
  refine r_getR rfl (fl_11_13 rfl) (Or.inr ⟨_, rfl⟩) rfl hk1 ?_
  refine r_bipush 12 rfl cb_12 ?_
  obtain ⟨a_2, ha3, hE⟩ := bnE hE
  obtain ⟨hk4, hE⟩ := ckE hE
  obtain ⟨hi5, hE⟩ := ckE hE
  refine r_iald rfl ha3 hk4 hi5 ?_
  refine r_aload_n (t := some a0) 0 rfl rfl rfl ?_
  refine r_getR rfl (fl_11_13 rfl) (Or.inr ⟨_, rfl⟩) rfl hk1 ?_
  refine r_iconst 0 rfl ci_0 ?_
  obtain ⟨hi6, hE⟩ := ckE hE
  refine r_iald rfl ha3 hk4 hi6 ?_
  refine r_iload_n 1 rfl rfl rfl ?_
  refine r_isub rfl ?_
  refine r_imul rfl ?_
  refine r_aload_n (t := some a0) 0 rfl rfl rfl ?_
  refine r_getR rfl (fl_11_13 rfl) (Or.inr ⟨_, rfl⟩) rfl hk1 ?_
  refine r_bipush 7 rfl cb_7 ?_
  obtain ⟨hi7, hE⟩ := ckE hE
  refine r_iald rfl ha3 hk4 hi7 ?_
  refine r_iload_n 2 rfl rfl rfl ?_
  refine r_imul rfl ?_
  refine r_iadd rfl ?_
  refine r_imul rfl ?_
  cases hE
  exact r_ret rfl (Or.inl ⟨rfl, _, _, rfl, rfl, rfl, rfl⟩)
def Mo_greatest_b127 (N : Nat) (self_31 : Nat → Int32 → Int32 → Int32 → Int32 → Int32 → Int32 → PH → Option (Int32 × PH)) (a0 : Nat) (x1 : Int32) (x2 : Int32) (x3 : Int32) (x4 : Int32) (x5 : Int32) (x6 : Int32) (h : PH) : Option (Int32 × PH) :=
  self_31 a0 x1 x2 x3 x4 x5 (x6 + 1) h
set_option maxRecDepth 20000 in
theorem Mo_greatest_b127_ok (g : GT) (N : Nat) (D : Nat) (hD : 2 ≤ D) (self_31 : Nat → Int32 → Int32 → Int32 → Int32 → Int32 → Int32 → PH → Option (Int32 × PH)) (hself_31 : ∀ (a0 : Nat) (x1 : Int32) (x2 : Int32) (x3 : Int32) (x4 : Int32) (x5 : Int32) (x6 : Int32) (h : PH) (v : Int32) (h' : PH), self_31 a0 x1 x2 x3 x4 x5 x6 h = some (v, h') → Run g pMo_greatest D 31 [(0, va_rf (some a0)), (1, .int x1), (2, .int x2), (3, .int x3), (4, .int x4), (5, .int x5), (6, .int x6)] [] h (rI v) h') : ∀ (a0 : Nat) (x1 : Int32) (x2 : Int32) (x3 : Int32) (x4 : Int32) (x5 : Int32) (x6 : Int32) (h : PH) (v : Int32) (h' : PH), Mo_greatest_b127 N self_31 a0 x1 x2 x3 x4 x5 x6 h = some (v, h') → Run g pMo_greatest D 127 [(0, va_rf (some a0)), (1, .int x1), (2, .int x2), (3, .int x3), (4, .int x4), (5, .int x5), (6, .int x6)] [] h (rI v) h' := by
  obtain ⟨D2, rfl⟩ : ∃ d, D = d + 1 := ⟨D - 1, by omega⟩
  intro a0 x1 x2 x3 x4 x5 x6 h v h' hE
  unfold Mo_greatest_b127 at hE
  refine r_iinc _ rfl rfl (congrArg _ ci_1) (by decide) ?_
  refine r_goto (tgt := 31) rfl (by decide) ?_
  first | exact r_sb (hself_31 _ _ _ _ _ _ _ _ _ _ hE) ⟨rfl, rfl, rfl, rfl, rfl, rfl, rfl, trivial⟩ | exact r_sb (hself_31 _ _ _ _ _ _ _ _ _ _ hE) (by simp only [su1, su2, dr1_rf, dr1_in, dr1_lo, dr2_rf, dr2_in, dr2_lo]; exact ⟨rfl, rfl, rfl, rfl, rfl, rfl, rfl, trivial⟩)
def Mo_greatest_b117 (N : Nat) (self_31 : Nat → Int32 → Int32 → Int32 → Int32 → Int32 → Int32 → PH → Option (Int32 × PH)) (a0 : Nat) (x1 : Int32) (x2 : Int32) (x3 : Int32) (x4 : Int32) (x6 : Int32) (x7 : Int32) (h : PH) : Option (Int32 × PH) :=
  ck ((hK h a0).1 = 11) <|
  lt0 (wI h a0 47 x6) fun h2 =>
  Mo_greatest_b127 N self_31  a0 x1 x2 x3 x4 x7 x6 h2
set_option maxRecDepth 20000 in
theorem Mo_greatest_b117_ok (g : GT) (N : Nat) (D : Nat) (hD : 2 ≤ D) (self_31 : Nat → Int32 → Int32 → Int32 → Int32 → Int32 → Int32 → PH → Option (Int32 × PH)) (hself_31 : ∀ (a0 : Nat) (x1 : Int32) (x2 : Int32) (x3 : Int32) (x4 : Int32) (x5 : Int32) (x6 : Int32) (h : PH) (v : Int32) (h' : PH), self_31 a0 x1 x2 x3 x4 x5 x6 h = some (v, h') → Run g pMo_greatest D 31 [(0, va_rf (some a0)), (1, .int x1), (2, .int x2), (3, .int x3), (4, .int x4), (5, .int x5), (6, .int x6)] [] h (rI v) h') : ∀ (a0 : Nat) (x1 : Int32) (x2 : Int32) (x3 : Int32) (x4 : Int32) (x6 : Int32) (x7 : Int32) (h : PH) (v : Int32) (h' : PH), Mo_greatest_b117 N self_31 a0 x1 x2 x3 x4 x6 x7 h = some (v, h') → Run g pMo_greatest D 117 [(0, va_rf (some a0)), (1, .int x1), (2, .int x2), (3, .int x3), (4, .int x4), (6, .int x6), (7, .int x7)] [] h (rI v) h' := by
  obtain ⟨D2, rfl⟩ : ∃ d, D = d + 1 := ⟨D - 1, by omega⟩
  intro a0 x1 x2 x3 x4 x6 x7 h v h' hE
  unfold Mo_greatest_b117 at hE
  refine r_iload rfl rfl ?_
  refine r_istore rfl (by decide) ?_
  refine r_aload_n (t := some a0) 0 rfl rfl rfl ?_
  refine r_iload rfl rfl ?_
  obtain ⟨hk1, hE⟩ := ckE hE
  obtain ⟨h2, he3, hE⟩ := ltE hE
  refine r_putI rfl (fl_11_390 rfl) finF rfl hk1 he3 ?_
  first | exact r_sb (Mo_greatest_b127_ok g N _ hD _ hself_31  _ _ _ _ _ _ _ _ _ _ hE) ⟨rfl, rfl, rfl, rfl, rfl, rfl, rfl, trivial⟩ | exact r_sb (Mo_greatest_b127_ok g N _ hD _ hself_31  _ _ _ _ _ _ _ _ _ _ hE) (by simp only [su1, su2, dr1_rf, dr1_in, dr1_lo, dr2_rf, dr2_in, dr2_lo]; exact ⟨rfl, rfl, rfl, rfl, rfl, rfl, rfl, trivial⟩)
def Mo_greatest_b93 (N : Nat) (self_31 : Nat → Int32 → Int32 → Int32 → Int32 → Int32 → Int32 → PH → Option (Int32 × PH)) (s0 : Int32) (s1 : Option Nat) (s2 : Int32) (s3 : Int32) (s4 : Int32) (s5 : Int32) (a0 : Nat) (x1 : Int32) (x2 : Int32) (x3 : Int32) (x4 : Int32) (x5 : Int32) (x6 : Int32) (h : PH) : Option (Int32 × PH) :=
  bd (Mo_at N s2 s3 s4 s5 h) fun v1 h2 =>
  (s1).bind fun a_4 =>
  ck ((hK h2 a_4).1 = 20) <|
  ck (inb v1 (hK h2 a_4).2 = true) <|
  ck ((hK h2 a0).1 = 11) <|
  if (hI h2 a0 47) < 0 then
    Mo_greatest_b117 N self_31  a0 x1 x2 x3 x4 x6 (s0 + (hI h2 a_4 (ix v1))) h2
  else
    if x5 < (s0 + (hI h2 a_4 (ix v1))) then
      Mo_greatest_b117 N self_31  a0 x1 x2 x3 x4 x6 (s0 + (hI h2 a_4 (ix v1))) h2
    else
      Mo_greatest_b127 N self_31  a0 x1 x2 x3 x4 x5 x6 h2
set_option maxRecDepth 20000 in
theorem Mo_greatest_b93_ok (g : GT) (N : Nat) (D : Nat) (hD : 2 ≤ D) (self_31 : Nat → Int32 → Int32 → Int32 → Int32 → Int32 → Int32 → PH → Option (Int32 × PH)) (hself_31 : ∀ (a0 : Nat) (x1 : Int32) (x2 : Int32) (x3 : Int32) (x4 : Int32) (x5 : Int32) (x6 : Int32) (h : PH) (v : Int32) (h' : PH), self_31 a0 x1 x2 x3 x4 x5 x6 h = some (v, h') → Run g pMo_greatest D 31 [(0, va_rf (some a0)), (1, .int x1), (2, .int x2), (3, .int x3), (4, .int x4), (5, .int x5), (6, .int x6)] [] h (rI v) h') : ∀ (s0 : Int32) (s1 : Option Nat) (s2 : Int32) (s3 : Int32) (s4 : Int32) (s5 : Int32) (a0 : Nat) (x1 : Int32) (x2 : Int32) (x3 : Int32) (x4 : Int32) (x5 : Int32) (x6 : Int32) (h : PH) (v : Int32) (h' : PH), Mo_greatest_b93 N self_31 s0 s1 s2 s3 s4 s5 a0 x1 x2 x3 x4 x5 x6 h = some (v, h') → Run g pMo_greatest D 93 [(0, va_rf (some a0)), (1, .int x1), (2, .int x2), (3, .int x3), (4, .int x4), (5, .int x5), (6, .int x6)] [.int s5, .int s4, .int s3, .int s2, va_rf s1, .int s0] h (rI v) h' := by
  obtain ⟨D2, rfl⟩ : ∃ d, D = d + 1 := ⟨D - 1, by omega⟩
  intro s0 s1 s2 s3 s4 s5 a0 x1 x2 x3 x4 x5 x6 h v h' hE
  unfold Mo_greatest_b93 at hE
  obtain ⟨v1, h2, hq3, hE⟩ := bdE hE
  refine r_callS1 (rest := [va_rf s1, .int s0]) (hc := (Mo_at_ok g N _ _ _ _ _ _ _ hq3 D2 (by omega))) rfl pm_Mo_at lw_11_386 st_Mo_at rfl rfl (by simp only [List.map_cons, List.map_nil, rf_cat, cat_i, cat_l, List.sum_cons, List.sum_nil]; decide) ?_
  obtain ⟨a_4, ha5, hE⟩ := bnE hE
  obtain ⟨hk6, hE⟩ := ckE hE
  obtain ⟨hi7, hE⟩ := ckE hE
  refine r_iald rfl ha5 hk6 hi7 ?_
  refine r_iadd rfl ?_
  refine r_istore rfl (by decide) ?_
  refine r_aload_n (t := some a0) 0 rfl rfl rfl ?_
  obtain ⟨hk8, hE⟩ := ckE hE
  refine r_getI rfl (fl_11_390 rfl) (Or.inl rfl) rfl hk8 ?_
  refine r_if_lt (tgt := 117) rfl (by decide) (fun hc9 => ?_) (fun hc9 => ?_)
  · have hE := ifP hc9 hE
    first | exact r_sb (Mo_greatest_b117_ok g N _ hD _ hself_31  _ _ _ _ _ _ _ _ _ _ hE) ⟨rfl, rfl, rfl, rfl, rfl, rfl, rfl, trivial⟩ | exact r_sb (Mo_greatest_b117_ok g N _ hD _ hself_31  _ _ _ _ _ _ _ _ _ _ hE) (by simp only [su1, su2, dr1_rf, dr1_in, dr1_lo, dr2_rf, dr2_in, dr2_lo]; exact ⟨rfl, rfl, rfl, rfl, rfl, rfl, rfl, trivial⟩)
  · have hE := ifN hc9 hE
    refine r_iload rfl rfl ?_
    refine r_iload rfl rfl ?_
    refine r_icmp_gt (tgt := 117) rfl (by decide) (fun hc10 => ?_) (fun hc10 => ?_)
    · have hE := ifP hc10 hE
      first | exact r_sb (Mo_greatest_b117_ok g N _ hD _ hself_31  _ _ _ _ _ _ _ _ _ _ hE) ⟨rfl, rfl, rfl, rfl, rfl, rfl, rfl, trivial⟩ | exact r_sb (Mo_greatest_b117_ok g N _ hD _ hself_31  _ _ _ _ _ _ _ _ _ _ hE) (by simp only [su1, su2, dr1_rf, dr1_in, dr1_lo, dr2_rf, dr2_in, dr2_lo]; exact ⟨rfl, rfl, rfl, rfl, rfl, rfl, rfl, trivial⟩)
    · have hE := ifN hc10 hE
      refine r_goto (tgt := 127) rfl (by decide) ?_
      first | exact r_sb (Mo_greatest_b127_ok g N _ hD _ hself_31  _ _ _ _ _ _ _ _ _ _ hE) ⟨rfl, rfl, rfl, rfl, rfl, rfl, rfl, trivial⟩ | exact r_sb (Mo_greatest_b127_ok g N _ hD _ hself_31  _ _ _ _ _ _ _ _ _ _ hE) (by simp only [su1, su2, dr1_rf, dr1_in, dr1_lo, dr2_rf, dr2_in, dr2_lo]; exact ⟨rfl, rfl, rfl, rfl, rfl, rfl, rfl, trivial⟩)
def Mo_greatest_b92 (N : Nat) (self_31 : Nat → Int32 → Int32 → Int32 → Int32 → Int32 → Int32 → PH → Option (Int32 × PH)) (s0 : Int32) (s1 : Option Nat) (s2 : Int32) (s3 : Int32) (s4 : Int32) (a0 : Nat) (x1 : Int32) (x2 : Int32) (x3 : Int32) (x4 : Int32) (x5 : Int32) (x6 : Int32) (h : PH) : Option (Int32 × PH) :=
  Mo_greatest_b93 N self_31  s0 s1 s2 s3 s4 0 a0 x1 x2 x3 x4 x5 x6 h
set_option maxRecDepth 20000 in
theorem Mo_greatest_b92_ok (g : GT) (N : Nat) (D : Nat) (hD : 2 ≤ D) (self_31 : Nat → Int32 → Int32 → Int32 → Int32 → Int32 → Int32 → PH → Option (Int32 × PH)) (hself_31 : ∀ (a0 : Nat) (x1 : Int32) (x2 : Int32) (x3 : Int32) (x4 : Int32) (x5 : Int32) (x6 : Int32) (h : PH) (v : Int32) (h' : PH), self_31 a0 x1 x2 x3 x4 x5 x6 h = some (v, h') → Run g pMo_greatest D 31 [(0, va_rf (some a0)), (1, .int x1), (2, .int x2), (3, .int x3), (4, .int x4), (5, .int x5), (6, .int x6)] [] h (rI v) h') : ∀ (s0 : Int32) (s1 : Option Nat) (s2 : Int32) (s3 : Int32) (s4 : Int32) (a0 : Nat) (x1 : Int32) (x2 : Int32) (x3 : Int32) (x4 : Int32) (x5 : Int32) (x6 : Int32) (h : PH) (v : Int32) (h' : PH), Mo_greatest_b92 N self_31 s0 s1 s2 s3 s4 a0 x1 x2 x3 x4 x5 x6 h = some (v, h') → Run g pMo_greatest D 92 [(0, va_rf (some a0)), (1, .int x1), (2, .int x2), (3, .int x3), (4, .int x4), (5, .int x5), (6, .int x6)] [.int s4, .int s3, .int s2, va_rf s1, .int s0] h (rI v) h' := by
  obtain ⟨D2, rfl⟩ : ∃ d, D = d + 1 := ⟨D - 1, by omega⟩
  intro s0 s1 s2 s3 s4 a0 x1 x2 x3 x4 x5 x6 h v h' hE
  unfold Mo_greatest_b92 at hE
  refine r_iconst 0 rfl ci_0 ?_
  first | exact r_sb (Mo_greatest_b93_ok g N _ hD _ hself_31  _ _ _ _ _ _ _ _ _ _ _ _ _ _ _ _ hE) ⟨rfl, rfl, rfl, rfl, rfl, rfl, rfl, trivial⟩ | exact r_sb (Mo_greatest_b93_ok g N _ hD _ hself_31  _ _ _ _ _ _ _ _ _ _ _ _ _ _ _ _ hE) (by simp only [su1, su2, dr1_rf, dr1_in, dr1_lo, dr2_rf, dr2_in, dr2_lo]; exact ⟨rfl, rfl, rfl, rfl, rfl, rfl, rfl, trivial⟩)
def Mo_greatest_b31 (N : Nat) : Nat → Nat → Int32 → Int32 → Int32 → Int32 → Int32 → Int32 → PH → Option (Int32 × PH)
  | 0 => fun _ _ _ _ _ _ _ _ => none
  | n + 1 => fun a0 x1 x2 x3 x4 x5 x6 h =>
    if 5 ≤ x6 then
      some (x5, h)
    else
      ck ((hK h a0).1 = 11) <|
      bd (Mo_gives N a0 x1 x2 x6 x3 x4 h) fun v3 h4 =>
      ck ((hK h4 a0).1 = 11) <|
      if (bI (hZ h4 a0 46)) = 0 then
        bd (Mo_isWordBy N a0 x6 x2 h4) fun v8 h9 =>
        if (bI v8) = 0 then
          Mo_greatest_b92 N (Mo_greatest_b31 N n)  (1000 * v3) (hR h4 a0 44) (x1 + 1) (hI h4 a0 41) (hI h4 a0 42) a0 x1 x2 x3 x4 x5 x6 h9
        else
          Mo_greatest_b93 N (Mo_greatest_b31 N n)  (1000 * v3) (hR h4 a0 44) (x1 + 1) (hI h4 a0 41) (hI h4 a0 42) 1 a0 x1 x2 x3 x4 x5 x6 h9
      else
        Mo_greatest_b92 N (Mo_greatest_b31 N n)  (1000 * v3) (hR h4 a0 44) (x1 + 1) (hI h4 a0 41) (hI h4 a0 42) a0 x1 x2 x3 x4 x5 x6 h4
set_option maxRecDepth 20000 in
theorem Mo_greatest_b31_ok (g : GT) (N : Nat) (D : Nat) (hD : 2 ≤ D) : ∀ (n : Nat) (a0 : Nat) (x1 : Int32) (x2 : Int32) (x3 : Int32) (x4 : Int32) (x5 : Int32) (x6 : Int32) (h : PH) (v : Int32) (h' : PH), Mo_greatest_b31 N n a0 x1 x2 x3 x4 x5 x6 h = some (v, h') → Run g pMo_greatest D 31 [(0, va_rf (some a0)), (1, .int x1), (2, .int x2), (3, .int x3), (4, .int x4), (5, .int x5), (6, .int x6)] [] h (rI v) h' := by
  obtain ⟨D2, rfl⟩ : ∃ d, D = d + 1 := ⟨D - 1, by omega⟩
  intro n
  induction n with
  | zero => exact fun _ _ _ _ _ _ _ _ _ _ hE => nomatch (show none = some _ from hE)
  | succ n ih =>
    intro a0 x1 x2 x3 x4 x5 x6 h v h' hE
    unfold Mo_greatest_b31 at hE
    refine r_iload rfl rfl ?_
    refine r_iconst 5 rfl ci_5 ?_
    refine r_icmp_ge (tgt := 133) rfl (by decide) (fun hc1 => ?_) (fun hc1 => ?_)
    · have hE := ifP hc1 hE
      refine r_iload rfl rfl ?_
      cases hE
      exact r_ret rfl (Or.inl ⟨rfl, _, _, rfl, rfl, rfl, rfl⟩)
    · have hE := ifN hc1 hE
      refine r_sipush 1000 rfl cs_1000 ?_
      refine r_aload_n (t := some a0) 0 rfl rfl rfl ?_
      refine r_iload_n 1 rfl rfl rfl ?_
      refine r_iload_n 2 rfl rfl rfl ?_
      refine r_iload rfl rfl ?_
      refine r_iload_n 3 rfl rfl rfl ?_
      refine r_iload rfl rfl ?_
      obtain ⟨hk2, hE⟩ := ckE hE
      obtain ⟨v3, h4, hq5, hE⟩ := bdE hE
      refine r_callV1 (rest := [.int 1000]) (hc := (Mo_gives_ok g N _ _ _ _ _ _ _ _ _ hq5 D2 (by omega))) rfl pm_Mo_gives lw_11_355 im_Mo_gives sl_Mo_gives rfl rfl rfl (rcOK hk2 rfl) (by simp only [List.map_cons, List.map_nil, rf_cat, cat_i, cat_l, List.sum_cons, List.sum_nil]; decide) ?_
      refine r_imul rfl ?_
      refine r_istore rfl (by decide) ?_
      refine r_iload rfl rfl ?_
      refine r_aload_n (t := some a0) 0 rfl rfl rfl ?_
      obtain ⟨hk6, hE⟩ := ckE hE
      refine r_getR rfl (fl_11_97 rfl) (Or.inr ⟨_, rfl⟩) rfl hk6 ?_
      refine r_iload_n 1 rfl rfl rfl ?_
      refine r_iconst 1 rfl ci_1 ?_
      refine r_iadd rfl ?_
      refine r_aload_n (t := some a0) 0 rfl rfl rfl ?_
      refine r_getI rfl (fl_11_319 rfl) (Or.inl rfl) rfl hk6 ?_
      refine r_aload_n (t := some a0) 0 rfl rfl rfl ?_
      refine r_getI rfl (fl_11_322 rfl) (Or.inl rfl) rfl hk6 ?_
      refine r_aload_n (t := some a0) 0 rfl rfl rfl ?_
      refine r_getZ rfl (fl_11_393 rfl) rfl hk6 ?_
      refine r_if_ne (tgt := 92) rfl (by decide) (fun hc7 => ?_) (fun hc7 => ?_)
      · have hE := ifP hc7 hE
        refine r_aload_n (t := some a0) 0 rfl rfl rfl ?_
        refine r_iload rfl rfl ?_
        refine r_iload_n 2 rfl rfl rfl ?_
        obtain ⟨v8, h9, hq10, hE⟩ := bdE hE
        refine r_callV1 (rest := [.int (hI h4 a0 42), .int (hI h4 a0 41), .int (x1 + 1), va_rf (hR h4 a0 44), .int (1000 * v3)]) (hc := (Mo_isWordBy_ok g N _ _ _ _ _ _ hq10 D2 (by omega))) rfl pm_Mo_isWordBy lw_11_359 im_Mo_isWordBy sl_Mo_isWordBy rfl rfl rfl (rcOK hk6 rfl) (by simp only [List.map_cons, List.map_nil, rf_cat, cat_i, cat_l, List.sum_cons, List.sum_nil]; decide) ?_
        refine r_if_eq (tgt := 92) rfl (by decide) (fun hc11 => ?_) (fun hc11 => ?_)
        · have hE := ifP hc11 hE
          first | exact r_sb (Mo_greatest_b92_ok g N _ hD _ ih  _ _ _ _ _ _ _ _ _ _ _ _ _ _ _ hE) ⟨rfl, rfl, rfl, rfl, rfl, rfl, rfl, trivial⟩ | exact r_sb (Mo_greatest_b92_ok g N _ hD _ ih  _ _ _ _ _ _ _ _ _ _ _ _ _ _ _ hE) (by simp only [su1, su2, dr1_rf, dr1_in, dr1_lo, dr2_rf, dr2_in, dr2_lo]; exact ⟨rfl, rfl, rfl, rfl, rfl, rfl, rfl, trivial⟩)
        · have hE := ifN hc11 hE
          refine r_iconst 1 rfl ci_1 ?_
          refine r_goto (tgt := 93) rfl (by decide) ?_
          first | exact r_sb (Mo_greatest_b93_ok g N _ hD _ ih  _ _ _ _ _ _ _ _ _ _ _ _ _ _ _ _ hE) ⟨rfl, rfl, rfl, rfl, rfl, rfl, rfl, trivial⟩ | exact r_sb (Mo_greatest_b93_ok g N _ hD _ ih  _ _ _ _ _ _ _ _ _ _ _ _ _ _ _ _ hE) (by simp only [su1, su2, dr1_rf, dr1_in, dr1_lo, dr2_rf, dr2_in, dr2_lo]; exact ⟨rfl, rfl, rfl, rfl, rfl, rfl, rfl, trivial⟩)
      · have hE := ifN hc7 hE
        first | exact r_sb (Mo_greatest_b92_ok g N _ hD _ ih  _ _ _ _ _ _ _ _ _ _ _ _ _ _ _ hE) ⟨rfl, rfl, rfl, rfl, rfl, rfl, rfl, trivial⟩ | exact r_sb (Mo_greatest_b92_ok g N _ hD _ ih  _ _ _ _ _ _ _ _ _ _ _ _ _ _ _ hE) (by simp only [su1, su2, dr1_rf, dr1_in, dr1_lo, dr2_rf, dr2_in, dr2_lo]; exact ⟨rfl, rfl, rfl, rfl, rfl, rfl, rfl, trivial⟩)
def Mo_greatest (N : Nat) (a0 : Nat) (x1 : Int32) (x2 : Int32) (x3 : Int32) (x4 : Int32) (h : PH) : Option (Int32 × PH) :=
  if x2 = 0 then
    ck ((hK h a0).1 = 11) <|
    bd (Mo_at N (x1 + 1) x3 x4 0 h) fun v3 h4 =>
    ((hR h a0 44)).bind fun a_6 =>
    ck ((hK h4 a_6).1 = 20) <|
    ck (inb v3 (hK h4 a_6).2 = true) <|
    some ((hI h4 a_6 (ix v3)), h4)
  else
    ck ((hK h a0).1 = 11) <|
    lt0 (wI h a0 47 (-1)) fun h11 =>
    Mo_greatest_b31 N N a0 x1 x2 x3 x4 0 0 h11
set_option maxRecDepth 20000 in
theorem Mo_greatest_ok (g : GT) (N : Nat) (a0 : Nat) (x1 : Int32) (x2 : Int32) (x3 : Int32) (x4 : Int32) (h : PH) (v : Int32) (h' : PH) (hE : Mo_greatest N a0 x1 x2 x3 x4 h = some (v, h')) (D : Nat) (hD : 2 ≤ D) : Calls g D pMo_greatest [va_rf (some a0), .int x1, .int x2, .int x3, .int x4] h (oI v) h' := by
  refine Calls.of cok_Mo_greatest ht_Mo_greatest pl_Mo_greatest (fun ad => by rw [lg_len, sL_cat]; simp only [List.map_cons, List.map_nil, rf_cat, cat_i, cat_l, List.sum_cons, List.sum_nil]; decide) ?_
  rw [show lv_args 0 [va_rf (some a0), .int x1, .int x2, .int x3, .int x4] = [(0, va_rf (some a0)), (1, .int x1), (2, .int x2), (3, .int x3), (4, .int x4)] from (by simp only [lv_args, rf_cat, cat_i, cat_l]; try rfl)]
  obtain ⟨D2, rfl⟩ : ∃ d, D = d + 1 := ⟨D - 1, by omega⟩
  unfold Mo_greatest at hE
  refine r_iload_n 2 rfl rfl rfl ?_
  refine r_if_ne (tgt := 20) rfl (by decide) (fun hc1 => ?_) (fun hc1 => ?_)
  · have hE := ifP hc1 hE
    refine r_aload_n (t := some a0) 0 rfl rfl rfl ?_
    obtain ⟨hk2, hE⟩ := ckE hE
    refine r_getR rfl (fl_11_97 rfl) (Or.inr ⟨_, rfl⟩) rfl hk2 ?_
    refine r_iload_n 1 rfl rfl rfl ?_
    refine r_iconst 1 rfl ci_1 ?_
    refine r_iadd rfl ?_
    refine r_iload_n 3 rfl rfl rfl ?_
    refine r_iload rfl rfl ?_
    refine r_iconst 0 rfl ci_0 ?_
    obtain ⟨v3, h4, hq5, hE⟩ := bdE hE
    refine r_callS1 (rest := [va_rf (hR h a0 44)]) (hc := (Mo_at_ok g N _ _ _ _ _ _ _ hq5 D2 (by omega))) rfl pm_Mo_at lw_11_386 st_Mo_at rfl rfl (by simp only [List.map_cons, List.map_nil, rf_cat, cat_i, cat_l, List.sum_cons, List.sum_nil]; decide) ?_
    obtain ⟨a_6, ha7, hE⟩ := bnE hE
    obtain ⟨hk8, hE⟩ := ckE hE
    obtain ⟨hi9, hE⟩ := ckE hE
    refine r_iald rfl ha7 hk8 hi9 ?_
    cases hE
    exact r_ret rfl (Or.inl ⟨rfl, _, _, rfl, rfl, rfl, rfl⟩)
  · have hE := ifN hc1 hE
    refine r_iconst 0 rfl ci_0 ?_
    refine r_istore rfl (by decide) ?_
    refine r_aload_n (t := some a0) 0 rfl rfl rfl ?_
    refine r_iconst (-1) rfl ci_m1 ?_
    obtain ⟨hk10, hE⟩ := ckE hE
    obtain ⟨h11, he12, hE⟩ := ltE hE
    refine r_putI rfl (fl_11_390 rfl) finF rfl hk10 he12 ?_
    refine r_iconst 0 rfl ci_0 ?_
    refine r_istore rfl (by decide) ?_
    first | exact r_sb (Mo_greatest_b31_ok g N _ hD  N _ _ _ _ _ _ _ _ _ _ hE) ⟨rfl, rfl, rfl, rfl, rfl, rfl, rfl, trivial⟩ | exact r_sb (Mo_greatest_b31_ok g N _ hD  N _ _ _ _ _ _ _ _ _ _ hE) (by simp only [su1, su2, dr1_rf, dr1_in, dr1_lo, dr2_rf, dr2_in, dr2_lo]; exact ⟨rfl, rfl, rfl, rfl, rfl, rfl, rfl, trivial⟩)
def Mo_openBy_b52 (N : Nat) (self_6 : Nat → Int32 → Int32 → Int32 → Int32 → Int64 → Int32 → PH → Option (Int32 × PH)) (a0 : Nat) (x1 : Int32) (x2 : Int32) (x3 : Int32) (x4 : Int32) (x5 : Int64) (x7 : Int32) (h : PH) : Option (Int32 × PH) :=
  self_6 a0 x1 x2 x3 x4 x5 (x7 + 1) h
set_option maxRecDepth 20000 in
theorem Mo_openBy_b52_ok (g : GT) (N : Nat) (D : Nat) (hD : 3 ≤ D) (self_6 : Nat → Int32 → Int32 → Int32 → Int32 → Int64 → Int32 → PH → Option (Int32 × PH)) (hself_6 : ∀ (a0 : Nat) (x1 : Int32) (x2 : Int32) (x3 : Int32) (x4 : Int32) (x5 : Int64) (x7 : Int32) (h : PH) (v : Int32) (h' : PH), self_6 a0 x1 x2 x3 x4 x5 x7 h = some (v, h') → Run g pMo_openBy D 6 [(0, va_rf (some a0)), (1, .int x1), (2, .int x2), (3, .int x3), (4, .int x4), (5, .long x5), (7, .int x7)] [] h (rI v) h') : ∀ (a0 : Nat) (x1 : Int32) (x2 : Int32) (x3 : Int32) (x4 : Int32) (x5 : Int64) (x7 : Int32) (h : PH) (v : Int32) (h' : PH), Mo_openBy_b52 N self_6 a0 x1 x2 x3 x4 x5 x7 h = some (v, h') → Run g pMo_openBy D 52 [(0, va_rf (some a0)), (1, .int x1), (2, .int x2), (3, .int x3), (4, .int x4), (5, .long x5), (7, .int x7)] [] h (rI v) h' := by
  obtain ⟨D2, rfl⟩ : ∃ d, D = d + 1 := ⟨D - 1, by omega⟩
  intro a0 x1 x2 x3 x4 x5 x7 h v h' hE
  unfold Mo_openBy_b52 at hE
  refine r_iinc _ rfl rfl (congrArg _ ci_1) (by decide) ?_
  refine r_goto (tgt := 6) rfl (by decide) ?_
  first | exact r_sb (hself_6 _ _ _ _ _ _ _ _ _ _ hE) ⟨rfl, rfl, rfl, rfl, rfl, rfl, rfl, trivial⟩ | exact r_sb (hself_6 _ _ _ _ _ _ _ _ _ _ hE) (by simp only [su1, su2, dr1_rf, dr1_in, dr1_lo, dr2_rf, dr2_in, dr2_lo]; exact ⟨rfl, rfl, rfl, rfl, rfl, rfl, rfl, trivial⟩)
def Mo_openBy_b6 (N : Nat) : Nat → Nat → Int32 → Int32 → Int32 → Int32 → Int64 → Int32 → PH → Option (Int32 × PH)
  | 0 => fun _ _ _ _ _ _ _ _ => none
  | n + 1 => fun a0 x1 x2 x3 x4 x5 x7 h =>
    if 4 ≤ x7 then
      ck (¬ (10 : Int64) = 0) <|
      some ((Int64.toInt32 (x5 / 10)), h)
    else
      ck ((hK h a0).1 = 11) <|
      bd (Mo_chanceOf N a0 x1 x7 (bI (hZ h a0 45)) h) fun v4 h5 =>
      if v4 ≤ 0 then
        Mo_openBy_b52 N (Mo_openBy_b6 N n)  a0 x1 x2 x3 x4 x5 x7 h5
      else
        ck ((hK h5 a0).1 = 11) <|
        bd (Mo_greatest N a0 x1 (x7 + x4) x2 x3 h5) fun v9 h10 =>
        Mo_openBy_b52 N (Mo_openBy_b6 N n)  a0 x1 x2 x3 x4 (x5 + ((Int32.toInt64 v4) * (Int32.toInt64 v9))) x7 h10
set_option maxRecDepth 20000 in
theorem Mo_openBy_b6_ok (g : GT) (N : Nat) (D : Nat) (hD : 3 ≤ D) : ∀ (n : Nat) (a0 : Nat) (x1 : Int32) (x2 : Int32) (x3 : Int32) (x4 : Int32) (x5 : Int64) (x7 : Int32) (h : PH) (v : Int32) (h' : PH), Mo_openBy_b6 N n a0 x1 x2 x3 x4 x5 x7 h = some (v, h') → Run g pMo_openBy D 6 [(0, va_rf (some a0)), (1, .int x1), (2, .int x2), (3, .int x3), (4, .int x4), (5, .long x5), (7, .int x7)] [] h (rI v) h' := by
  obtain ⟨D2, rfl⟩ : ∃ d, D = d + 1 := ⟨D - 1, by omega⟩
  intro n
  induction n with
  | zero => exact fun _ _ _ _ _ _ _ _ _ _ hE => nomatch (show none = some _ from hE)
  | succ n ih =>
    intro a0 x1 x2 x3 x4 x5 x7 h v h' hE
    unfold Mo_openBy_b6 at hE
    refine r_iload rfl rfl ?_
    refine r_iconst 4 rfl ci_4 ?_
    refine r_icmp_ge (tgt := 58) rfl (by decide) (fun hc1 => ?_) (fun hc1 => ?_)
    · have hE := ifP hc1 hE
      refine r_lload rfl rfl ?_
      refine r_ldc2 rfl kc_11_351 ?_
      obtain ⟨hc2, hE⟩ := ckE hE
      refine r_ldiv rfl hc2 ?_
      refine r_l2i rfl ?_
      cases hE
      exact r_ret rfl (Or.inl ⟨rfl, _, _, rfl, rfl, rfl, rfl⟩)
    · have hE := ifN hc1 hE
      refine r_aload_n (t := some a0) 0 rfl rfl rfl ?_
      refine r_iload_n 1 rfl rfl rfl ?_
      refine r_iload rfl rfl ?_
      refine r_aload_n (t := some a0) 0 rfl rfl rfl ?_
      obtain ⟨hk3, hE⟩ := ckE hE
      refine r_getZ rfl (fl_11_397 rfl) rfl hk3 ?_
      obtain ⟨v4, h5, hq6, hE⟩ := bdE hE
      refine r_callV1 (rest := []) (hc := (Mo_chanceOf_ok g N _ _ _ _ _ _ _ hq6 D2 (by omega))) rfl pm_Mo_chanceOf lw_11_347 im_Mo_chanceOf sl_Mo_chanceOf rfl rfl rfl (rcOK hk3 rfl) (by decide) ?_
      refine r_istore rfl (by decide) ?_
      refine r_iload rfl rfl ?_
      refine r_if_le (tgt := 52) rfl (by decide) (fun hc7 => ?_) (fun hc7 => ?_)
      · have hE := ifP hc7 hE
        first | exact r_sb (Mo_openBy_b52_ok g N _ hD _ ih  _ _ _ _ _ _ _ _ _ _ hE) ⟨rfl, rfl, rfl, rfl, rfl, rfl, rfl, trivial⟩ | exact r_sb (Mo_openBy_b52_ok g N _ hD _ ih  _ _ _ _ _ _ _ _ _ _ hE) (by simp only [su1, su2, dr1_rf, dr1_in, dr1_lo, dr2_rf, dr2_in, dr2_lo]; exact ⟨rfl, rfl, rfl, rfl, rfl, rfl, rfl, trivial⟩)
      · have hE := ifN hc7 hE
        refine r_lload rfl rfl ?_
        refine r_iload rfl rfl ?_
        refine r_i2l rfl ?_
        refine r_aload_n (t := some a0) 0 rfl rfl rfl ?_
        refine r_iload_n 1 rfl rfl rfl ?_
        refine r_iload rfl rfl ?_
        refine r_iload rfl rfl ?_
        refine r_iadd rfl ?_
        refine r_iload_n 2 rfl rfl rfl ?_
        refine r_iload_n 3 rfl rfl rfl ?_
        obtain ⟨hk8, hE⟩ := ckE hE
        obtain ⟨v9, h10, hq11, hE⟩ := bdE hE
        refine r_callV1 (rest := [.long (Int32.toInt64 v4), .long x5]) (hc := (Mo_greatest_ok g N _ _ _ _ _ _ _ _ hq11 D2 (by omega))) rfl pm_Mo_greatest lw_11_400 im_Mo_greatest sl_Mo_greatest rfl rfl rfl (rcOK hk8 rfl) (by simp only [List.map_cons, List.map_nil, rf_cat, cat_i, cat_l, List.sum_cons, List.sum_nil]; decide) ?_
        refine r_i2l rfl ?_
        refine r_lmul rfl ?_
        refine r_ladd rfl ?_
        refine r_lstore rfl (by decide) ?_
        first | exact r_sb (Mo_openBy_b52_ok g N _ hD _ ih  _ _ _ _ _ _ _ _ _ _ hE) ⟨rfl, rfl, rfl, rfl, rfl, rfl, rfl, trivial⟩ | exact r_sb (Mo_openBy_b52_ok g N _ hD _ ih  _ _ _ _ _ _ _ _ _ _ hE) (by simp only [su1, su2, dr1_rf, dr1_in, dr1_lo, dr2_rf, dr2_in, dr2_lo]; exact ⟨rfl, rfl, rfl, rfl, rfl, rfl, rfl, trivial⟩)
def Mo_openBy (N : Nat) (a0 : Nat) (x1 : Int32) (x2 : Int32) (x3 : Int32) (x4 : Int32) (h : PH) : Option (Int32 × PH) :=
  Mo_openBy_b6 N N a0 x1 x2 x3 x4 0 0 h
set_option maxRecDepth 20000 in
theorem Mo_openBy_ok (g : GT) (N : Nat) (a0 : Nat) (x1 : Int32) (x2 : Int32) (x3 : Int32) (x4 : Int32) (h : PH) (v : Int32) (h' : PH) (hE : Mo_openBy N a0 x1 x2 x3 x4 h = some (v, h')) (D : Nat) (hD : 3 ≤ D) : Calls g D pMo_openBy [va_rf (some a0), .int x1, .int x2, .int x3, .int x4] h (oI v) h' := by
  refine Calls.of cok_Mo_openBy ht_Mo_openBy pl_Mo_openBy (fun ad => by rw [lg_len, sL_cat]; simp only [List.map_cons, List.map_nil, rf_cat, cat_i, cat_l, List.sum_cons, List.sum_nil]; decide) ?_
  rw [show lv_args 0 [va_rf (some a0), .int x1, .int x2, .int x3, .int x4] = [(0, va_rf (some a0)), (1, .int x1), (2, .int x2), (3, .int x3), (4, .int x4)] from (by simp only [lv_args, rf_cat, cat_i, cat_l]; try rfl)]
  obtain ⟨D2, rfl⟩ : ∃ d, D = d + 1 := ⟨D - 1, by omega⟩
  unfold Mo_openBy at hE
  refine r_lconst 0 rfl cl_0 ?_
  refine r_lstore rfl (by decide) ?_
  refine r_iconst 0 rfl ci_0 ?_
  refine r_istore rfl (by decide) ?_
  first | exact r_sb (Mo_openBy_b6_ok g N _ hD  N _ _ _ _ _ _ _ _ _ _ hE) ⟨rfl, rfl, rfl, rfl, rfl, rfl, rfl, trivial⟩ | exact r_sb (Mo_openBy_b6_ok g N _ hD  N _ _ _ _ _ _ _ _ _ _ hE) (by simp only [su1, su2, dr1_rf, dr1_in, dr1_lo, dr2_rf, dr2_in, dr2_lo]; exact ⟨rfl, rfl, rfl, rfl, rfl, rfl, rfl, trivial⟩)
def Mo_laysValues_b113 (N : Nat) (self_17 : Nat → Int32 → PH → Option (Unit × PH)) (self_24 : Nat → Int32 → Int32 → PH → Option (Unit × PH)) (self_38 : Nat → Int32 → Int32 → Int32 → PH → Option (Unit × PH)) (self_52 : Nat → Int32 → Int32 → Int32 → Int32 → PH → Option (Unit × PH)) (s0 : Option Nat) (s1 : Int32) (s2 : Int32) (a0 : Nat) (x3 : Int32) (x4 : Int32) (x5 : Int32) (x6 : Int32) (h : PH) : Option (Unit × PH) :=
  (s0).bind fun a_1 =>
  ck ((hK h a_1).1 = 20) <|
  ck (inb s1 (hK h a_1).2 = true) <|
  lt0 (wI h a_1 (ix s1) s2) fun h5 =>
  self_52 a0 x3 x4 x5 (x6 + 1) h5
set_option maxRecDepth 20000 in
theorem Mo_laysValues_b113_ok (g : GT) (N : Nat) (D : Nat) (hD : 4 ≤ D) (self_17 : Nat → Int32 → PH → Option (Unit × PH)) (hself_17 : ∀ (a0 : Nat) (x3 : Int32) (h : PH) (v : Unit) (h' : PH), self_17 a0 x3 h = some (v, h') → Run g pMo_laysValues D 17 [(0, va_rf (some a0)), (3, .int x3)] [] h (rV v) h') (self_24 : Nat → Int32 → Int32 → PH → Option (Unit × PH)) (hself_24 : ∀ (a0 : Nat) (x3 : Int32) (x4 : Int32) (h : PH) (v : Unit) (h' : PH), self_24 a0 x3 x4 h = some (v, h') → Run g pMo_laysValues D 24 [(0, va_rf (some a0)), (3, .int x3), (4, .int x4)] [] h (rV v) h') (self_38 : Nat → Int32 → Int32 → Int32 → PH → Option (Unit × PH)) (hself_38 : ∀ (a0 : Nat) (x3 : Int32) (x4 : Int32) (x5 : Int32) (h : PH) (v : Unit) (h' : PH), self_38 a0 x3 x4 x5 h = some (v, h') → Run g pMo_laysValues D 38 [(0, va_rf (some a0)), (3, .int x3), (4, .int x4), (5, .int x5)] [] h (rV v) h') (self_52 : Nat → Int32 → Int32 → Int32 → Int32 → PH → Option (Unit × PH)) (hself_52 : ∀ (a0 : Nat) (x3 : Int32) (x4 : Int32) (x5 : Int32) (x6 : Int32) (h : PH) (v : Unit) (h' : PH), self_52 a0 x3 x4 x5 x6 h = some (v, h') → Run g pMo_laysValues D 52 [(0, va_rf (some a0)), (3, .int x3), (4, .int x4), (5, .int x5), (6, .int x6)] [] h (rV v) h') : ∀ (s0 : Option Nat) (s1 : Int32) (s2 : Int32) (a0 : Nat) (x3 : Int32) (x4 : Int32) (x5 : Int32) (x6 : Int32) (h : PH) (v : Unit) (h' : PH), Mo_laysValues_b113 N self_17 self_24 self_38 self_52 s0 s1 s2 a0 x3 x4 x5 x6 h = some (v, h') → Run g pMo_laysValues D 113 [(0, va_rf (some a0)), (3, .int x3), (4, .int x4), (5, .int x5), (6, .int x6)] [.int s2, .int s1, va_rf s0] h (rV v) h' := by
  obtain ⟨D2, rfl⟩ : ∃ d, D = d + 1 := ⟨D - 1, by omega⟩
  intro s0 s1 s2 a0 x3 x4 x5 x6 h v h' hE
  unfold Mo_laysValues_b113 at hE
  obtain ⟨a_1, ha2, hE⟩ := bnE hE
  obtain ⟨hk3, hE⟩ := ckE hE
  obtain ⟨hi4, hE⟩ := ckE hE
  obtain ⟨h5, he6, hE⟩ := ltE hE
  refine r_iast rfl ha2 hk3 hi4 he6 ?_
  refine r_iinc _ rfl rfl (congrArg _ ci_1) (by decide) ?_
  refine r_goto (tgt := 52) rfl (by decide) ?_
  first | exact r_sb (hself_52 _ _ _ _ _ _ _ _ hE) ⟨rfl, rfl, rfl, rfl, rfl, trivial⟩ | exact r_sb (hself_52 _ _ _ _ _ _ _ _ hE) (by simp only [su1, su2, dr1_rf, dr1_in, dr1_lo, dr2_rf, dr2_in, dr2_lo]; exact ⟨rfl, rfl, rfl, rfl, rfl, trivial⟩)
def Mo_laysValues_b52 (N : Nat) (self_17 : Nat → Int32 → PH → Option (Unit × PH)) (self_24 : Nat → Int32 → Int32 → PH → Option (Unit × PH)) (self_38 : Nat → Int32 → Int32 → Int32 → PH → Option (Unit × PH)) : Nat → Nat → Int32 → Int32 → Int32 → Int32 → PH → Option (Unit × PH)
  | 0 => fun _ _ _ _ _ _ => none
  | n + 1 => fun a0 x3 x4 x5 x6 h =>
    if 2 ≤ x6 then
      self_38 a0 x3 x4 (x5 + 1) h
    else
      ck ((hK h a0).1 = 11) <|
      bd (Mo_at N x3 x4 x5 x6 h) fun v3 h4 =>
      ck ((hK h4 a0).1 = 11) <|
      ((hR h4 a0 10)).bind fun a_7 =>
      ck ((hK h4 a_7).1 = 20) <|
      ck (inb 0 (hK h4 a_7).2 = true) <|
      if x3 = (hI h4 a_7 (ix 0)) then
        bd (Mo_closedBy N a0 x3 x4 h4) fun v12 h13 =>
        Mo_laysValues_b113 N self_17 self_24 self_38 (Mo_laysValues_b52 N self_17 self_24 self_38 n)  (hR h a0 44) v3 v12 a0 x3 x4 x5 x6 h13
      else
        bd (Mo_closedBy N a0 x3 x4 h4) fun v15 h16 =>
        ck ((hK h16 a0).1 = 11) <|
        bd (Mo_openBy N a0 x3 x4 x5 x6 h16) fun v19 h20 =>
        Mo_laysValues_b113 N self_17 self_24 self_38 (Mo_laysValues_b52 N self_17 self_24 self_38 n)  (hR h a0 44) v3 (mxI v15 v19) a0 x3 x4 x5 x6 h20
set_option maxRecDepth 20000 in
theorem Mo_laysValues_b52_ok (g : GT) (N : Nat) (D : Nat) (hD : 4 ≤ D) (self_17 : Nat → Int32 → PH → Option (Unit × PH)) (hself_17 : ∀ (a0 : Nat) (x3 : Int32) (h : PH) (v : Unit) (h' : PH), self_17 a0 x3 h = some (v, h') → Run g pMo_laysValues D 17 [(0, va_rf (some a0)), (3, .int x3)] [] h (rV v) h') (self_24 : Nat → Int32 → Int32 → PH → Option (Unit × PH)) (hself_24 : ∀ (a0 : Nat) (x3 : Int32) (x4 : Int32) (h : PH) (v : Unit) (h' : PH), self_24 a0 x3 x4 h = some (v, h') → Run g pMo_laysValues D 24 [(0, va_rf (some a0)), (3, .int x3), (4, .int x4)] [] h (rV v) h') (self_38 : Nat → Int32 → Int32 → Int32 → PH → Option (Unit × PH)) (hself_38 : ∀ (a0 : Nat) (x3 : Int32) (x4 : Int32) (x5 : Int32) (h : PH) (v : Unit) (h' : PH), self_38 a0 x3 x4 x5 h = some (v, h') → Run g pMo_laysValues D 38 [(0, va_rf (some a0)), (3, .int x3), (4, .int x4), (5, .int x5)] [] h (rV v) h') : ∀ (n : Nat) (a0 : Nat) (x3 : Int32) (x4 : Int32) (x5 : Int32) (x6 : Int32) (h : PH) (v : Unit) (h' : PH), Mo_laysValues_b52 N self_17 self_24 self_38 n a0 x3 x4 x5 x6 h = some (v, h') → Run g pMo_laysValues D 52 [(0, va_rf (some a0)), (3, .int x3), (4, .int x4), (5, .int x5), (6, .int x6)] [] h (rV v) h' := by
  obtain ⟨D2, rfl⟩ : ∃ d, D = d + 1 := ⟨D - 1, by omega⟩
  intro n
  induction n with
  | zero => exact fun _ _ _ _ _ _ _ _ hE => nomatch (show none = some _ from hE)
  | succ n ih =>
    intro a0 x3 x4 x5 x6 h v h' hE
    unfold Mo_laysValues_b52 at hE
    refine r_iload rfl rfl ?_
    refine r_iconst 2 rfl ci_2 ?_
    refine r_icmp_ge (tgt := 120) rfl (by decide) (fun hc1 => ?_) (fun hc1 => ?_)
    · have hE := ifP hc1 hE
      refine r_iinc _ rfl rfl (congrArg _ ci_1) (by decide) ?_
      refine r_goto (tgt := 38) rfl (by decide) ?_
      first | exact r_sb (hself_38 _ _ _ _ _ _ _ hE) ⟨rfl, rfl, rfl, rfl, trivial⟩ | exact r_sb (hself_38 _ _ _ _ _ _ _ hE) (by simp only [su1, su2, dr1_rf, dr1_in, dr1_lo, dr2_rf, dr2_in, dr2_lo]; exact ⟨rfl, rfl, rfl, rfl, trivial⟩)
    · have hE := ifN hc1 hE
      refine r_aload_n (t := some a0) 0 rfl rfl rfl ?_
      obtain ⟨hk2, hE⟩ := ckE hE
      refine r_getR rfl (fl_11_97 rfl) (Or.inr ⟨_, rfl⟩) rfl hk2 ?_
      refine r_iload_n 3 rfl rfl rfl ?_
      refine r_iload rfl rfl ?_
      refine r_iload rfl rfl ?_
      refine r_iload rfl rfl ?_
      obtain ⟨v3, h4, hq5, hE⟩ := bdE hE
      refine r_callS1 (rest := [va_rf (hR h a0 44)]) (hc := (Mo_at_ok g N _ _ _ _ _ _ _ hq5 D2 (by omega))) rfl pm_Mo_at lw_11_386 st_Mo_at rfl rfl (by simp only [List.map_cons, List.map_nil, rf_cat, cat_i, cat_l, List.sum_cons, List.sum_nil]; decide) ?_
      refine r_iload_n 3 rfl rfl rfl ?_
      refine r_aload_n (t := some a0) 0 rfl rfl rfl ?_
      obtain ⟨hk6, hE⟩ := ckE hE
      refine r_getR rfl (fl_11_13 rfl) (Or.inr ⟨_, rfl⟩) rfl hk6 ?_
      refine r_iconst 0 rfl ci_0 ?_
      obtain ⟨a_7, ha8, hE⟩ := bnE hE
      obtain ⟨hk9, hE⟩ := ckE hE
      obtain ⟨hi10, hE⟩ := ckE hE
      refine r_iald rfl ha8 hk9 hi10 ?_
      refine r_icmp_ne (tgt := 92) rfl (by decide) (fun hc11 => ?_) (fun hc11 => ?_)
      · have hE := ifP hc11 hE
        refine r_aload_n (t := some a0) 0 rfl rfl rfl ?_
        refine r_iload_n 3 rfl rfl rfl ?_
        refine r_iload rfl rfl ?_
        obtain ⟨v12, h13, hq14, hE⟩ := bdE hE
        refine r_callV1 (rest := [.int v3, va_rf (hR h a0 44)]) (hc := (Mo_closedBy_ok g N _ _ _ _ _ _ hq14 D2 (by omega))) rfl pm_Mo_closedBy lw_11_403 im_Mo_closedBy sl_Mo_closedBy rfl rfl rfl (rcOK hk6 rfl) (by simp only [List.map_cons, List.map_nil, rf_cat, cat_i, cat_l, List.sum_cons, List.sum_nil]; decide) ?_
        refine r_goto (tgt := 113) rfl (by decide) ?_
        first | exact r_sb (Mo_laysValues_b113_ok g N _ hD _ hself_17 _ hself_24 _ hself_38 _ ih  _ _ _ _ _ _ _ _ _ _ _ hE) ⟨rfl, rfl, rfl, rfl, rfl, trivial⟩ | exact r_sb (Mo_laysValues_b113_ok g N _ hD _ hself_17 _ hself_24 _ hself_38 _ ih  _ _ _ _ _ _ _ _ _ _ _ hE) (by simp only [su1, su2, dr1_rf, dr1_in, dr1_lo, dr2_rf, dr2_in, dr2_lo]; exact ⟨rfl, rfl, rfl, rfl, rfl, trivial⟩)
      · have hE := ifN hc11 hE
        refine r_aload_n (t := some a0) 0 rfl rfl rfl ?_
        refine r_iload_n 3 rfl rfl rfl ?_
        refine r_iload rfl rfl ?_
        obtain ⟨v15, h16, hq17, hE⟩ := bdE hE
        refine r_callV1 (rest := [.int v3, va_rf (hR h a0 44)]) (hc := (Mo_closedBy_ok g N _ _ _ _ _ _ hq17 D2 (by omega))) rfl pm_Mo_closedBy lw_11_403 im_Mo_closedBy sl_Mo_closedBy rfl rfl rfl (rcOK hk6 rfl) (by simp only [List.map_cons, List.map_nil, rf_cat, cat_i, cat_l, List.sum_cons, List.sum_nil]; decide) ?_
        refine r_aload_n (t := some a0) 0 rfl rfl rfl ?_
        refine r_iload_n 3 rfl rfl rfl ?_
        refine r_iload rfl rfl ?_
        refine r_iload rfl rfl ?_
        refine r_iload rfl rfl ?_
        obtain ⟨hk18, hE⟩ := ckE hE
        obtain ⟨v19, h20, hq21, hE⟩ := bdE hE
        refine r_callV1 (rest := [.int v15, .int v3, va_rf (hR h a0 44)]) (hc := (Mo_openBy_ok g N _ _ _ _ _ _ _ _ hq21 D2 (by omega))) rfl pm_Mo_openBy lw_11_406 im_Mo_openBy sl_Mo_openBy rfl rfl rfl (rcOK hk18 rfl) (by simp only [List.map_cons, List.map_nil, rf_cat, cat_i, cat_l, List.sum_cons, List.sum_nil]; decide) ?_
        refine r_mmax rfl (gt8 51 rfl rfl) mm_max1 mm_2 mm_max3 (by simp only [List.map_cons, List.map_nil, rf_cat, cat_i, cat_l, List.sum_cons, List.sum_nil]; decide) ?_
        first | exact r_sb (Mo_laysValues_b113_ok g N _ hD _ hself_17 _ hself_24 _ hself_38 _ ih  _ _ _ _ _ _ _ _ _ _ _ hE) ⟨rfl, rfl, rfl, rfl, rfl, trivial⟩ | exact r_sb (Mo_laysValues_b113_ok g N _ hD _ hself_17 _ hself_24 _ hself_38 _ ih  _ _ _ _ _ _ _ _ _ _ _ hE) (by simp only [su1, su2, dr1_rf, dr1_in, dr1_lo, dr2_rf, dr2_in, dr2_lo]; exact ⟨rfl, rfl, rfl, rfl, rfl, trivial⟩)
def Mo_laysValues_b38 (N : Nat) (self_17 : Nat → Int32 → PH → Option (Unit × PH)) (self_24 : Nat → Int32 → Int32 → PH → Option (Unit × PH)) : Nat → Nat → Int32 → Int32 → Int32 → PH → Option (Unit × PH)
  | 0 => fun _ _ _ _ _ => none
  | n + 1 => fun a0 x3 x4 x5 h =>
    ck ((hK h a0).1 = 11) <|
    ((hR h a0 10)).bind fun a_2 =>
    ck ((hK h a_2).1 = 20) <|
    ck (inb 2 (hK h a_2).2 = true) <|
    if (hI h a_2 (ix 2)) < x5 then
      self_24 a0 x3 (x4 + 1) h
    else
      Mo_laysValues_b52 N self_17 self_24 (Mo_laysValues_b38 N self_17 self_24 n) N a0 x3 x4 x5 0 h
set_option maxRecDepth 20000 in
theorem Mo_laysValues_b38_ok (g : GT) (N : Nat) (D : Nat) (hD : 4 ≤ D) (self_17 : Nat → Int32 → PH → Option (Unit × PH)) (hself_17 : ∀ (a0 : Nat) (x3 : Int32) (h : PH) (v : Unit) (h' : PH), self_17 a0 x3 h = some (v, h') → Run g pMo_laysValues D 17 [(0, va_rf (some a0)), (3, .int x3)] [] h (rV v) h') (self_24 : Nat → Int32 → Int32 → PH → Option (Unit × PH)) (hself_24 : ∀ (a0 : Nat) (x3 : Int32) (x4 : Int32) (h : PH) (v : Unit) (h' : PH), self_24 a0 x3 x4 h = some (v, h') → Run g pMo_laysValues D 24 [(0, va_rf (some a0)), (3, .int x3), (4, .int x4)] [] h (rV v) h') : ∀ (n : Nat) (a0 : Nat) (x3 : Int32) (x4 : Int32) (x5 : Int32) (h : PH) (v : Unit) (h' : PH), Mo_laysValues_b38 N self_17 self_24 n a0 x3 x4 x5 h = some (v, h') → Run g pMo_laysValues D 38 [(0, va_rf (some a0)), (3, .int x3), (4, .int x4), (5, .int x5)] [] h (rV v) h' := by
  obtain ⟨D2, rfl⟩ : ∃ d, D = d + 1 := ⟨D - 1, by omega⟩
  intro n
  induction n with
  | zero => exact fun _ _ _ _ _ _ _ hE => nomatch (show none = some _ from hE)
  | succ n ih =>
    intro a0 x3 x4 x5 h v h' hE
    unfold Mo_laysValues_b38 at hE
    refine r_iload rfl rfl ?_
    refine r_aload_n (t := some a0) 0 rfl rfl rfl ?_
    obtain ⟨hk1, hE⟩ := ckE hE
    refine r_getR rfl (fl_11_13 rfl) (Or.inr ⟨_, rfl⟩) rfl hk1 ?_
    refine r_iconst 2 rfl ci_2 ?_
    obtain ⟨a_2, ha3, hE⟩ := bnE hE
    obtain ⟨hk4, hE⟩ := ckE hE
    obtain ⟨hi5, hE⟩ := ckE hE
    refine r_iald rfl ha3 hk4 hi5 ?_
    refine r_icmp_gt (tgt := 126) rfl (by decide) (fun hc6 => ?_) (fun hc6 => ?_)
    · have hE := ifP hc6 hE
      refine r_iinc _ rfl rfl (congrArg _ ci_1) (by decide) ?_
      refine r_goto (tgt := 24) rfl (by decide) ?_
      first | exact r_sb (hself_24 _ _ _ _ _ _ hE) ⟨rfl, rfl, rfl, trivial⟩ | exact r_sb (hself_24 _ _ _ _ _ _ hE) (by simp only [su1, su2, dr1_rf, dr1_in, dr1_lo, dr2_rf, dr2_in, dr2_lo]; exact ⟨rfl, rfl, rfl, trivial⟩)
    · have hE := ifN hc6 hE
      refine r_iconst 0 rfl ci_0 ?_
      refine r_istore rfl (by decide) ?_
      first | exact r_sb (Mo_laysValues_b52_ok g N _ hD _ hself_17 _ hself_24 _ ih N _ _ _ _ _ _ _ _ hE) ⟨rfl, rfl, rfl, rfl, rfl, trivial⟩ | exact r_sb (Mo_laysValues_b52_ok g N _ hD _ hself_17 _ hself_24 _ ih N _ _ _ _ _ _ _ _ hE) (by simp only [su1, su2, dr1_rf, dr1_in, dr1_lo, dr2_rf, dr2_in, dr2_lo]; exact ⟨rfl, rfl, rfl, rfl, rfl, trivial⟩)
def Mo_laysValues_b24 (N : Nat) (self_17 : Nat → Int32 → PH → Option (Unit × PH)) : Nat → Nat → Int32 → Int32 → PH → Option (Unit × PH)
  | 0 => fun _ _ _ _ => none
  | n + 1 => fun a0 x3 x4 h =>
    ck ((hK h a0).1 = 11) <|
    ((hR h a0 10)).bind fun a_2 =>
    ck ((hK h a_2).1 = 20) <|
    ck (inb 1 (hK h a_2).2 = true) <|
    if (hI h a_2 (ix 1)) < x4 then
      self_17 a0 (x3 + (-1)) h
    else
      Mo_laysValues_b38 N self_17 (Mo_laysValues_b24 N self_17 n) N a0 x3 x4 0 h
set_option maxRecDepth 20000 in
theorem Mo_laysValues_b24_ok (g : GT) (N : Nat) (D : Nat) (hD : 4 ≤ D) (self_17 : Nat → Int32 → PH → Option (Unit × PH)) (hself_17 : ∀ (a0 : Nat) (x3 : Int32) (h : PH) (v : Unit) (h' : PH), self_17 a0 x3 h = some (v, h') → Run g pMo_laysValues D 17 [(0, va_rf (some a0)), (3, .int x3)] [] h (rV v) h') : ∀ (n : Nat) (a0 : Nat) (x3 : Int32) (x4 : Int32) (h : PH) (v : Unit) (h' : PH), Mo_laysValues_b24 N self_17 n a0 x3 x4 h = some (v, h') → Run g pMo_laysValues D 24 [(0, va_rf (some a0)), (3, .int x3), (4, .int x4)] [] h (rV v) h' := by
  obtain ⟨D2, rfl⟩ : ∃ d, D = d + 1 := ⟨D - 1, by omega⟩
  intro n
  induction n with
  | zero => exact fun _ _ _ _ _ _ hE => nomatch (show none = some _ from hE)
  | succ n ih =>
    intro a0 x3 x4 h v h' hE
    unfold Mo_laysValues_b24 at hE
    refine r_iload rfl rfl ?_
    refine r_aload_n (t := some a0) 0 rfl rfl rfl ?_
    obtain ⟨hk1, hE⟩ := ckE hE
    refine r_getR rfl (fl_11_13 rfl) (Or.inr ⟨_, rfl⟩) rfl hk1 ?_
    refine r_iconst 1 rfl ci_1 ?_
    obtain ⟨a_2, ha3, hE⟩ := bnE hE
    obtain ⟨hk4, hE⟩ := ckE hE
    obtain ⟨hi5, hE⟩ := ckE hE
    refine r_iald rfl ha3 hk4 hi5 ?_
    refine r_icmp_gt (tgt := 132) rfl (by decide) (fun hc6 => ?_) (fun hc6 => ?_)
    · have hE := ifP hc6 hE
      refine r_iinc _ rfl rfl (congrArg _ ci_m1) (by decide) ?_
      refine r_goto (tgt := 17) rfl (by decide) ?_
      first | exact r_sb (hself_17 _ _ _ _ _ hE) ⟨rfl, rfl, trivial⟩ | exact r_sb (hself_17 _ _ _ _ _ hE) (by simp only [su1, su2, dr1_rf, dr1_in, dr1_lo, dr2_rf, dr2_in, dr2_lo]; exact ⟨rfl, rfl, trivial⟩)
    · have hE := ifN hc6 hE
      refine r_iconst 0 rfl ci_0 ?_
      refine r_istore rfl (by decide) ?_
      first | exact r_sb (Mo_laysValues_b38_ok g N _ hD _ hself_17 _ ih N _ _ _ _ _ _ _ hE) ⟨rfl, rfl, rfl, rfl, trivial⟩ | exact r_sb (Mo_laysValues_b38_ok g N _ hD _ hself_17 _ ih N _ _ _ _ _ _ _ hE) (by simp only [su1, su2, dr1_rf, dr1_in, dr1_lo, dr2_rf, dr2_in, dr2_lo]; exact ⟨rfl, rfl, rfl, rfl, trivial⟩)
def Mo_laysValues_b17 (N : Nat) : Nat → Nat → Int32 → PH → Option (Unit × PH)
  | 0 => fun _ _ _ => none
  | n + 1 => fun a0 x3 h =>
    if x3 < 0 then
      some ((), h)
    else
      Mo_laysValues_b24 N (Mo_laysValues_b17 N n) N a0 x3 0 h
set_option maxRecDepth 20000 in
theorem Mo_laysValues_b17_ok (g : GT) (N : Nat) (D : Nat) (hD : 4 ≤ D) : ∀ (n : Nat) (a0 : Nat) (x3 : Int32) (h : PH) (v : Unit) (h' : PH), Mo_laysValues_b17 N n a0 x3 h = some (v, h') → Run g pMo_laysValues D 17 [(0, va_rf (some a0)), (3, .int x3)] [] h (rV v) h' := by
  obtain ⟨D2, rfl⟩ : ∃ d, D = d + 1 := ⟨D - 1, by omega⟩
  intro n
  induction n with
  | zero => exact fun _ _ _ _ _ hE => nomatch (show none = some _ from hE)
  | succ n ih =>
    intro a0 x3 h v h' hE
    unfold Mo_laysValues_b17 at hE
    refine r_iload_n 3 rfl rfl rfl ?_
    refine r_if_lt (tgt := 138) rfl (by decide) (fun hc1 => ?_) (fun hc1 => ?_)
    · have hE := ifP hc1 hE
      cases hE
      exact r_ret rfl (Or.inr (Or.inr (Or.inr ⟨rfl, rfl, rfl, rfl⟩)))
    · have hE := ifN hc1 hE
      refine r_iconst 0 rfl ci_0 ?_
      refine r_istore rfl (by decide) ?_
      first | exact r_sb (Mo_laysValues_b24_ok g N _ hD _ ih N _ _ _ _ _ _ hE) ⟨rfl, rfl, rfl, trivial⟩ | exact r_sb (Mo_laysValues_b24_ok g N _ hD _ ih N _ _ _ _ _ _ hE) (by simp only [su1, su2, dr1_rf, dr1_in, dr1_lo, dr2_rf, dr2_in, dr2_lo]; exact ⟨rfl, rfl, rfl, trivial⟩)
def Mo_laysValues (N : Nat) (a0 : Nat) (x1 : Int32) (x2 : Int32) (h : PH) : Option (Unit × PH) :=
  ck ((hK h a0).1 = 11) <|
  ck (isB x1 = true) <|
  lt0 (wZ h a0 45 (tb x1)) fun h3 =>
  ck (isB x2 = true) <|
  lt0 (wZ h3 a0 46 (tb x2)) fun h6 =>
  ((hR h6 a0 10)).bind fun a_8 =>
  ck ((hK h6 a_8).1 = 20) <|
  ck (inb 0 (hK h6 a_8).2 = true) <|
  Mo_laysValues_b17 N N a0 (hI h6 a_8 (ix 0)) h6
set_option maxRecDepth 20000 in
theorem Mo_laysValues_ok (g : GT) (N : Nat) (a0 : Nat) (x1 : Int32) (x2 : Int32) (h : PH) (v : Unit) (h' : PH) (hE : Mo_laysValues N a0 x1 x2 h = some (v, h')) (D : Nat) (hD : 4 ≤ D) : Calls g D pMo_laysValues [va_rf (some a0), .int x1, .int x2] h (oV v) h' := by
  refine Calls.of cok_Mo_laysValues ht_Mo_laysValues pl_Mo_laysValues (fun ad => by rw [lg_len, sL_cat]; simp only [List.map_cons, List.map_nil, rf_cat, cat_i, cat_l, List.sum_cons, List.sum_nil]; decide) ?_
  rw [show lv_args 0 [va_rf (some a0), .int x1, .int x2] = [(0, va_rf (some a0)), (1, .int x1), (2, .int x2)] from (by simp only [lv_args, rf_cat, cat_i, cat_l]; try rfl)]
  obtain ⟨D2, rfl⟩ : ∃ d, D = d + 1 := ⟨D - 1, by omega⟩
  unfold Mo_laysValues at hE
  refine r_aload_n (t := some a0) 0 rfl rfl rfl ?_
  refine r_iload_n 1 rfl rfl rfl ?_
  obtain ⟨hk1, hE⟩ := ckE hE
  obtain ⟨hc2, hE⟩ := ckE hE
  obtain ⟨h3, he4, hE⟩ := ltE hE
  refine r_putZ rfl (fl_11_397 rfl) finF rfl hk1 hc2 he4 ?_
  refine r_aload_n (t := some a0) 0 rfl rfl rfl ?_
  refine r_iload_n 2 rfl rfl rfl ?_
  obtain ⟨hc5, hE⟩ := ckE hE
  obtain ⟨h6, he7, hE⟩ := ltE hE
  refine r_putZ rfl (fl_11_393 rfl) finF rfl (kwZ he4 hk1) hc5 he7 ?_
  refine r_aload_n (t := some a0) 0 rfl rfl rfl ?_
  refine r_getR rfl (fl_11_13 rfl) (Or.inr ⟨_, rfl⟩) rfl (kwZ he7 (kwZ he4 hk1)) ?_
  refine r_iconst 0 rfl ci_0 ?_
  obtain ⟨a_8, ha9, hE⟩ := bnE hE
  obtain ⟨hk10, hE⟩ := ckE hE
  obtain ⟨hi11, hE⟩ := ckE hE
  refine r_iald rfl ha9 hk10 hi11 ?_
  refine r_istore_n 3 rfl rfl (by decide) ?_
  first | exact r_sb (Mo_laysValues_b17_ok g N _ hD  N _ _ _ _ _ hE) ⟨rfl, rfl, trivial⟩ | exact r_sb (Mo_laysValues_b17_ok g N _ hD  N _ _ _ _ _ hE) (by simp only [su1, su2, dr1_rf, dr1_in, dr1_lo, dr2_rf, dr2_in, dr2_lo]; exact ⟨rfl, rfl, trivial⟩)
def Mo_value_b84 (N : Nat) (s0 : Option Nat) (s1 : Int32) (s2 : Int32) (s3 : Int32) (s4 : Int32) (h : PH) : Option (Int32 × PH) :=
  bd (Mo_at N s1 s2 s3 s4 h) fun v1 h2 =>
  (s0).bind fun a_4 =>
  ck ((hK h2 a_4).1 = 20) <|
  ck (inb v1 (hK h2 a_4).2 = true) <|
  some ((hI h2 a_4 (ix v1)), h2)
set_option maxRecDepth 20000 in
theorem Mo_value_b84_ok (g : GT) (N : Nat) (D : Nat) (hD : 5 ≤ D) : ∀ (s0 : Option Nat) (s1 : Int32) (s2 : Int32) (s3 : Int32) (s4 : Int32) (h : PH) (v : Int32) (h' : PH), Mo_value_b84 N s0 s1 s2 s3 s4 h = some (v, h') → Run g pMo_value D 84 [] [.int s4, .int s3, .int s2, .int s1, va_rf s0] h (rI v) h' := by
  obtain ⟨D2, rfl⟩ : ∃ d, D = d + 1 := ⟨D - 1, by omega⟩
  intro s0 s1 s2 s3 s4 h v h' hE
  unfold Mo_value_b84 at hE
  obtain ⟨v1, h2, hq3, hE⟩ := bdE hE
  refine r_callS1 (rest := [va_rf s0]) (hc := (Mo_at_ok g N _ _ _ _ _ _ _ hq3 D2 (by omega))) rfl pm_Mo_at lw_11_386 st_Mo_at rfl rfl (by simp only [List.map_cons, List.map_nil, rf_cat, cat_i, cat_l, List.sum_cons, List.sum_nil]; decide) ?_
  obtain ⟨a_4, ha5, hE⟩ := bnE hE
  obtain ⟨hk6, hE⟩ := ckE hE
  obtain ⟨hi7, hE⟩ := ckE hE
  refine r_iald rfl ha5 hk6 hi7 ?_
  cases hE
  exact r_ret rfl (Or.inl ⟨rfl, _, _, rfl, rfl, rfl, rfl⟩)
def Mo_value_b48 (N : Nat) (s0 : Nat) (s1 : Int32) (a0 : Nat) (x1 : Int32) (x2 : Int32) (x3 : Int32) (x4 : Int32) (h : PH) : Option (Int32 × PH) :=
  ck ((hK h s0).1 = 11) <|
  lt0 (wI h s0 0 s1) fun h2 =>
  ck ((hK h2 a0).1 = 11) <|
  if (hI h2 a0 0) = 1 then
    some (0, h2)
  else
    bd (Mo_laysValues N a0 0 0 h2) fun v6 h7 =>
    ck ((hK h7 a0).1 = 11) <|
    if x4 = 0 then
      Mo_value_b84 N  (hR h7 a0 44) x1 x2 x3 0 h7
    else
      Mo_value_b84 N  (hR h7 a0 44) x1 x2 x3 1 h7
set_option maxRecDepth 20000 in
theorem Mo_value_b48_ok (g : GT) (N : Nat) (D : Nat) (hD : 5 ≤ D) : ∀ (s0 : Nat) (s1 : Int32) (a0 : Nat) (x1 : Int32) (x2 : Int32) (x3 : Int32) (x4 : Int32) (h : PH) (v : Int32) (h' : PH), Mo_value_b48 N s0 s1 a0 x1 x2 x3 x4 h = some (v, h') → Run g pMo_value D 48 [(0, va_rf (some a0)), (1, .int x1), (2, .int x2), (3, .int x3), (4, .int x4)] [.int s1, va_rf (some s0)] h (rI v) h' := by
  obtain ⟨D2, rfl⟩ : ∃ d, D = d + 1 := ⟨D - 1, by omega⟩
  intro s0 s1 a0 x1 x2 x3 x4 h v h' hE
  unfold Mo_value_b48 at hE
  obtain ⟨hk1, hE⟩ := ckE hE
  obtain ⟨h2, he3, hE⟩ := ltE hE
  refine r_putI rfl (fl_11_119 rfl) finF rfl hk1 he3 ?_
  refine r_aload_n (t := some a0) 0 rfl rfl rfl ?_
  obtain ⟨hk4, hE⟩ := ckE hE
  refine r_getI rfl (fl_11_119 rfl) (Or.inl rfl) rfl hk4 ?_
  refine r_iconst 1 rfl ci_1 ?_
  refine r_icmp_ne (tgt := 61) rfl (by decide) (fun hc5 => ?_) (fun hc5 => ?_)
  · have hE := ifP hc5 hE
    refine r_iconst 0 rfl ci_0 ?_
    cases hE
    exact r_ret rfl (Or.inl ⟨rfl, _, _, rfl, rfl, rfl, rfl⟩)
  · have hE := ifN hc5 hE
    refine r_aload_n (t := some a0) 0 rfl rfl rfl ?_
    refine r_iconst 0 rfl ci_0 ?_
    refine r_iconst 0 rfl ci_0 ?_
    obtain ⟨v6, h7, hq8, hE⟩ := bdE hE
    refine r_callV0 (rest := []) (hc := (Mo_laysValues_ok g N _ _ _ _ _ _ hq8 D2 (by omega))) rfl pm_Mo_laysValues lw_11_412 im_Mo_laysValues sl_Mo_laysValues rfl rfl rfl (rcOK hk4 rfl) (by decide) ?_
    refine r_aload_n (t := some a0) 0 rfl rfl rfl ?_
    obtain ⟨hk9, hE⟩ := ckE hE
    refine r_getR rfl (fl_11_97 rfl) (Or.inr ⟨_, rfl⟩) rfl hk9 ?_
    refine r_iload_n 1 rfl rfl rfl ?_
    refine r_iload_n 2 rfl rfl rfl ?_
    refine r_iload_n 3 rfl rfl rfl ?_
    refine r_iload rfl rfl ?_
    refine r_if_eq (tgt := 83) rfl (by decide) (fun hc10 => ?_) (fun hc10 => ?_)
    · have hE := ifP hc10 hE
      refine r_iconst 0 rfl ci_0 ?_
      exact r_sb (Mo_value_b84_ok g N _ hD   _ _ _ _ _ _ _ _ hE) trivial
    · have hE := ifN hc10 hE
      refine r_iconst 1 rfl ci_1 ?_
      refine r_goto (tgt := 84) rfl (by decide) ?_
      exact r_sb (Mo_value_b84_ok g N _ hD   _ _ _ _ _ _ _ _ hE) trivial
def Mo_value_b47 (N : Nat) (s0 : Nat) (a0 : Nat) (x1 : Int32) (x2 : Int32) (x3 : Int32) (x4 : Int32) (h : PH) : Option (Int32 × PH) :=
  Mo_value_b48 N  s0 1 a0 x1 x2 x3 x4 h
set_option maxRecDepth 20000 in
theorem Mo_value_b47_ok (g : GT) (N : Nat) (D : Nat) (hD : 5 ≤ D) : ∀ (s0 : Nat) (a0 : Nat) (x1 : Int32) (x2 : Int32) (x3 : Int32) (x4 : Int32) (h : PH) (v : Int32) (h' : PH), Mo_value_b47 N s0 a0 x1 x2 x3 x4 h = some (v, h') → Run g pMo_value D 47 [(0, va_rf (some a0)), (1, .int x1), (2, .int x2), (3, .int x3), (4, .int x4)] [va_rf (some s0)] h (rI v) h' := by
  obtain ⟨D2, rfl⟩ : ∃ d, D = d + 1 := ⟨D - 1, by omega⟩
  intro s0 a0 x1 x2 x3 x4 h v h' hE
  unfold Mo_value_b47 at hE
  refine r_iconst 1 rfl ci_1 ?_
  first | exact r_sb (Mo_value_b48_ok g N _ hD   _ _ _ _ _ _ _ _ _ _ hE) ⟨rfl, rfl, rfl, rfl, rfl, trivial⟩ | exact r_sb (Mo_value_b48_ok g N _ hD   _ _ _ _ _ _ _ _ _ _ hE) (by simp only [su1, su2, dr1_rf, dr1_in, dr1_lo, dr2_rf, dr2_in, dr2_lo]; exact ⟨rfl, rfl, rfl, rfl, rfl, trivial⟩)
def Mo_value (N : Nat) (a0 : Nat) (x1 : Int32) (x2 : Int32) (x3 : Int32) (x4 : Int32) (h : PH) : Option (Int32 × PH) :=
  ck ((hK h a0).1 = 11) <|
  ((hR h a0 10)).bind fun a_2 =>
  ck ((hK h a_2).1 = 20) <|
  ck (inb 0 (hK h a_2).2 = true) <|
  bd (Mo_within N x1 0 (hI h a_2 (ix 0)) h) fun v6 h7 =>
  if (bI v6) = 0 then
    Mo_value_b47 N  a0 a0 x1 x2 x3 x4 h7
  else
    ck ((hK h7 a0).1 = 11) <|
    ((hR h7 a0 10)).bind fun a_11 =>
    ck ((hK h7 a_11).1 = 20) <|
    ck (inb 1 (hK h7 a_11).2 = true) <|
    bd (Mo_within N x2 0 (hI h7 a_11 (ix 1)) h7) fun v15 h16 =>
    if (bI v15) = 0 then
      Mo_value_b47 N  a0 a0 x1 x2 x3 x4 h16
    else
      ck ((hK h16 a0).1 = 11) <|
      ((hR h16 a0 10)).bind fun a_20 =>
      ck ((hK h16 a_20).1 = 20) <|
      ck (inb 2 (hK h16 a_20).2 = true) <|
      bd (Mo_within N x3 0 (hI h16 a_20 (ix 2)) h16) fun v24 h25 =>
      if (bI v24) = 0 then
        Mo_value_b47 N  a0 a0 x1 x2 x3 x4 h25
      else
        Mo_value_b48 N  a0 0 a0 x1 x2 x3 x4 h25
set_option maxRecDepth 20000 in
theorem Mo_value_ok (g : GT) (N : Nat) (a0 : Nat) (x1 : Int32) (x2 : Int32) (x3 : Int32) (x4 : Int32) (h : PH) (v : Int32) (h' : PH) (hE : Mo_value N a0 x1 x2 x3 x4 h = some (v, h')) (D : Nat) (hD : 5 ≤ D) : Calls g D pMo_value [va_rf (some a0), .int x1, .int x2, .int x3, .int x4] h (oI v) h' := by
  refine Calls.of cok_Mo_value ht_Mo_value pl_Mo_value (fun ad => by rw [lg_len, sL_cat]; simp only [List.map_cons, List.map_nil, rf_cat, cat_i, cat_l, List.sum_cons, List.sum_nil]; decide) ?_
  rw [show lv_args 0 [va_rf (some a0), .int x1, .int x2, .int x3, .int x4] = [(0, va_rf (some a0)), (1, .int x1), (2, .int x2), (3, .int x3), (4, .int x4)] from (by simp only [lv_args, rf_cat, cat_i, cat_l]; try rfl)]
  obtain ⟨D2, rfl⟩ : ∃ d, D = d + 1 := ⟨D - 1, by omega⟩
  unfold Mo_value at hE
  refine r_aload_n (t := some a0) 0 rfl rfl rfl ?_
  refine r_iload_n 1 rfl rfl rfl ?_
  refine r_iconst 0 rfl ci_0 ?_
  refine r_aload_n (t := some a0) 0 rfl rfl rfl ?_
  obtain ⟨hk1, hE⟩ := ckE hE
  refine r_getR rfl (fl_11_13 rfl) (Or.inr ⟨_, rfl⟩) rfl hk1 ?_
  refine r_iconst 0 rfl ci_0 ?_
  obtain ⟨a_2, ha3, hE⟩ := bnE hE
  obtain ⟨hk4, hE⟩ := ckE hE
  obtain ⟨hi5, hE⟩ := ckE hE
  refine r_iald rfl ha3 hk4 hi5 ?_
  obtain ⟨v6, h7, hq8, hE⟩ := bdE hE
  refine r_callS1 (rest := [va_rf (some a0)]) (hc := (Mo_within_ok g N _ _ _ _ _ _ hq8 D2 (by omega))) rfl pm_Mo_within lw_11_247 st_Mo_within rfl rfl (by simp only [List.map_cons, List.map_nil, rf_cat, cat_i, cat_l, List.sum_cons, List.sum_nil]; decide) ?_
  refine r_if_eq (tgt := 47) rfl (by decide) (fun hc9 => ?_) (fun hc9 => ?_)
  · have hE := ifP hc9 hE
    first | exact r_sb (Mo_value_b47_ok g N _ hD   _ _ _ _ _ _ _ _ _ hE) ⟨rfl, rfl, rfl, rfl, rfl, trivial⟩ | exact r_sb (Mo_value_b47_ok g N _ hD   _ _ _ _ _ _ _ _ _ hE) (by simp only [su1, su2, dr1_rf, dr1_in, dr1_lo, dr2_rf, dr2_in, dr2_lo]; exact ⟨rfl, rfl, rfl, rfl, rfl, trivial⟩)
  · have hE := ifN hc9 hE
    refine r_iload_n 2 rfl rfl rfl ?_
    refine r_iconst 0 rfl ci_0 ?_
    refine r_aload_n (t := some a0) 0 rfl rfl rfl ?_
    obtain ⟨hk10, hE⟩ := ckE hE
    refine r_getR rfl (fl_11_13 rfl) (Or.inr ⟨_, rfl⟩) rfl hk10 ?_
    refine r_iconst 1 rfl ci_1 ?_
    obtain ⟨a_11, ha12, hE⟩ := bnE hE
    obtain ⟨hk13, hE⟩ := ckE hE
    obtain ⟨hi14, hE⟩ := ckE hE
    refine r_iald rfl ha12 hk13 hi14 ?_
    obtain ⟨v15, h16, hq17, hE⟩ := bdE hE
    refine r_callS1 (rest := [va_rf (some a0)]) (hc := (Mo_within_ok g N _ _ _ _ _ _ hq17 D2 (by omega))) rfl pm_Mo_within lw_11_247 st_Mo_within rfl rfl (by simp only [List.map_cons, List.map_nil, rf_cat, cat_i, cat_l, List.sum_cons, List.sum_nil]; decide) ?_
    refine r_if_eq (tgt := 47) rfl (by decide) (fun hc18 => ?_) (fun hc18 => ?_)
    · have hE := ifP hc18 hE
      first | exact r_sb (Mo_value_b47_ok g N _ hD   _ _ _ _ _ _ _ _ _ hE) ⟨rfl, rfl, rfl, rfl, rfl, trivial⟩ | exact r_sb (Mo_value_b47_ok g N _ hD   _ _ _ _ _ _ _ _ _ hE) (by simp only [su1, su2, dr1_rf, dr1_in, dr1_lo, dr2_rf, dr2_in, dr2_lo]; exact ⟨rfl, rfl, rfl, rfl, rfl, trivial⟩)
    · have hE := ifN hc18 hE
      refine r_iload_n 3 rfl rfl rfl ?_
      refine r_iconst 0 rfl ci_0 ?_
      refine r_aload_n (t := some a0) 0 rfl rfl rfl ?_
      obtain ⟨hk19, hE⟩ := ckE hE
      refine r_getR rfl (fl_11_13 rfl) (Or.inr ⟨_, rfl⟩) rfl hk19 ?_
      refine r_iconst 2 rfl ci_2 ?_
      obtain ⟨a_20, ha21, hE⟩ := bnE hE
      obtain ⟨hk22, hE⟩ := ckE hE
      obtain ⟨hi23, hE⟩ := ckE hE
      refine r_iald rfl ha21 hk22 hi23 ?_
      obtain ⟨v24, h25, hq26, hE⟩ := bdE hE
      refine r_callS1 (rest := [va_rf (some a0)]) (hc := (Mo_within_ok g N _ _ _ _ _ _ hq26 D2 (by omega))) rfl pm_Mo_within lw_11_247 st_Mo_within rfl rfl (by simp only [List.map_cons, List.map_nil, rf_cat, cat_i, cat_l, List.sum_cons, List.sum_nil]; decide) ?_
      refine r_if_eq (tgt := 47) rfl (by decide) (fun hc27 => ?_) (fun hc27 => ?_)
      · have hE := ifP hc27 hE
        first | exact r_sb (Mo_value_b47_ok g N _ hD   _ _ _ _ _ _ _ _ _ hE) ⟨rfl, rfl, rfl, rfl, rfl, trivial⟩ | exact r_sb (Mo_value_b47_ok g N _ hD   _ _ _ _ _ _ _ _ _ hE) (by simp only [su1, su2, dr1_rf, dr1_in, dr1_lo, dr2_rf, dr2_in, dr2_lo]; exact ⟨rfl, rfl, rfl, rfl, rfl, trivial⟩)
      · have hE := ifN hc27 hE
        refine r_iconst 0 rfl ci_0 ?_
        refine r_goto (tgt := 48) rfl (by decide) ?_
        first | exact r_sb (Mo_value_b48_ok g N _ hD   _ _ _ _ _ _ _ _ _ _ hE) ⟨rfl, rfl, rfl, rfl, rfl, trivial⟩ | exact r_sb (Mo_value_b48_ok g N _ hD   _ _ _ _ _ _ _ _ _ _ hE) (by simp only [su1, su2, dr1_rf, dr1_in, dr1_lo, dr2_rf, dr2_in, dr2_lo]; exact ⟨rfl, rfl, rfl, rfl, rfl, trivial⟩)
def Mo_isOn (N : Nat) (a0 : Nat) (h : PH) : Option (Bool × PH) :=
  ck ((hK h a0).1 = 11) <|
  bd (Mo_isOver N a0 h) fun v2 h3 =>
  if (bI v2) = 0 then
    ck ((hK h3 a0).1 = 11) <|
    ((hR h3 a0 35)).bind fun a_7 =>
    ck ((hK h3 a_7).1 = 20) <|
    ck (inb 6 (hK h3 a_7).2 = true) <|
    if (hI h3 a_7 (ix 6)) = 0 then
      some (true, h3)
    else
      some (false, h3)
  else
    some (false, h3)
set_option maxRecDepth 20000 in
theorem Mo_isOn_ok (g : GT) (N : Nat) (a0 : Nat) (h : PH) (v : Bool) (h' : PH) (hE : Mo_isOn N a0 h = some (v, h')) (D : Nat) (hD : 1 ≤ D) : Calls g D pMo_isOn [va_rf (some a0)] h (oZ v) h' := by
  refine Calls.of cok_Mo_isOn ht_Mo_isOn pl_Mo_isOn (fun ad => by rw [lg_len, sL_cat]; simp only [List.map_cons, List.map_nil, rf_cat, cat_i, cat_l, List.sum_cons, List.sum_nil]; decide) ?_
  rw [show lv_args 0 [va_rf (some a0)] = [(0, va_rf (some a0))] from (by simp only [lv_args, rf_cat, cat_i, cat_l]; try rfl)]
  obtain ⟨D2, rfl⟩ : ∃ d, D = d + 1 := ⟨D - 1, by omega⟩
  unfold Mo_isOn at hE
  refine r_aload_n (t := some a0) 0 rfl rfl rfl ?_
  obtain ⟨hk1, hE⟩ := ckE hE
  obtain ⟨v2, h3, hq4, hE⟩ := bdE hE
  refine r_callV1 (rest := []) (hc := (Mo_isOver_ok g N _ _ _ _ hq4 D2 (by omega))) rfl pm_Mo_isOver lw_11_344 im_Mo_isOver sl_Mo_isOver rfl rfl rfl (rcOK hk1 rfl) (by decide) ?_
  refine r_if_ne (tgt := 21) rfl (by decide) (fun hc5 => ?_) (fun hc5 => ?_)
  · have hE := ifP hc5 hE
    refine r_aload_n (t := some a0) 0 rfl rfl rfl ?_
    obtain ⟨hk6, hE⟩ := ckE hE
    refine r_getR rfl (fl_11_81 rfl) (Or.inr ⟨_, rfl⟩) rfl hk6 ?_
    refine r_bipush 6 rfl cb_6 ?_
    obtain ⟨a_7, ha8, hE⟩ := bnE hE
    obtain ⟨hk9, hE⟩ := ckE hE
    obtain ⟨hi10, hE⟩ := ckE hE
    refine r_iald rfl ha8 hk9 hi10 ?_
    refine r_if_ne (tgt := 21) rfl (by decide) (fun hc11 => ?_) (fun hc11 => ?_)
    · have hE := ifP hc11 hE
      refine r_iconst 1 rfl ci_1 ?_
      refine r_goto (tgt := 22) rfl (by decide) ?_
      cases hE
      exact r_ret rfl (Or.inl ⟨rfl, _, _, rfl, rfl, rfl, rfl⟩)
    · have hE := ifN hc11 hE
      refine r_iconst 0 rfl ci_0 ?_
      cases hE
      exact r_ret rfl (Or.inl ⟨rfl, _, _, rfl, rfl, rfl, rfl⟩)
  · have hE := ifN hc5 hE
    refine r_iconst 0 rfl ci_0 ?_
    cases hE
    exact r_ret rfl (Or.inl ⟨rfl, _, _, rfl, rfl, rfl, rfl⟩)
def Mo_best (N : Nat) (a0 : Nat) (x1 : Int32) (h : PH) : Option (Int32 × PH) :=
  ck ((hK h a0).1 = 11) <|
  lt0 (wI h a0 0 0) fun h2 =>
  bd (Mo_isOn N a0 h2) fun v4 h5 =>
  if (bI v4) = 0 then
    some ((-1), h5)
  else
    bd (Mo_within N x1 1 4 h5) fun v8 h9 =>
    if (bI v8) = 0 then
      some ((-1), h9)
    else
      ck ((hK h9 a0).1 = 11) <|
      bd (Mo_laysValues N a0 0 0 h9) fun v13 h14 =>
      ck ((hK h14 a0).1 = 11) <|
      ((hR h14 a0 35)).bind fun a_17 =>
      ck ((hK h14 a_17).1 = 20) <|
      ck (inb 0 (hK h14 a_17).2 = true) <|
      ck (inb 1 (hK h14 a_17).2 = true) <|
      ck (inb 2 (hK h14 a_17).2 = true) <|
      bd (Mo_greatest N a0 (hI h14 a_17 (ix 0)) x1 (hI h14 a_17 (ix 1)) (hI h14 a_17 (ix 2)) h14) fun v23 h24 =>
      ck ((hK h24 a0).1 = 11) <|
      some ((hI h24 a0 47), h24)
set_option maxRecDepth 20000 in
theorem Mo_best_ok (g : GT) (N : Nat) (a0 : Nat) (x1 : Int32) (h : PH) (v : Int32) (h' : PH) (hE : Mo_best N a0 x1 h = some (v, h')) (D : Nat) (hD : 5 ≤ D) : Calls g D pMo_best [va_rf (some a0), .int x1] h (oI v) h' := by
  refine Calls.of cok_Mo_best ht_Mo_best pl_Mo_best (fun ad => by rw [lg_len, sL_cat]; simp only [List.map_cons, List.map_nil, rf_cat, cat_i, cat_l, List.sum_cons, List.sum_nil]; decide) ?_
  rw [show lv_args 0 [va_rf (some a0), .int x1] = [(0, va_rf (some a0)), (1, .int x1)] from (by simp only [lv_args, rf_cat, cat_i, cat_l]; try rfl)]
  obtain ⟨D2, rfl⟩ : ∃ d, D = d + 1 := ⟨D - 1, by omega⟩
  unfold Mo_best at hE
  refine r_aload_n (t := some a0) 0 rfl rfl rfl ?_
  refine r_iconst 0 rfl ci_0 ?_
  obtain ⟨hk1, hE⟩ := ckE hE
  obtain ⟨h2, he3, hE⟩ := ltE hE
  refine r_putI rfl (fl_11_119 rfl) finF rfl hk1 he3 ?_
  refine r_aload_n (t := some a0) 0 rfl rfl rfl ?_
  obtain ⟨v4, h5, hq6, hE⟩ := bdE hE
  refine r_callV1 (rest := []) (hc := (Mo_isOn_ok g N _ _ _ _ hq6 D2 (by omega))) rfl pm_Mo_isOn lw_11_416 im_Mo_isOn sl_Mo_isOn rfl rfl rfl (rcOK (kwI he3 hk1) rfl) (by decide) ?_
  refine r_if_eq (tgt := 21) rfl (by decide) (fun hc7 => ?_) (fun hc7 => ?_)
  · have hE := ifP hc7 hE
    refine r_iconst (-1) rfl ci_m1 ?_
    cases hE
    exact r_ret rfl (Or.inl ⟨rfl, _, _, rfl, rfl, rfl, rfl⟩)
  · have hE := ifN hc7 hE
    refine r_iload_n 1 rfl rfl rfl ?_
    refine r_iconst 1 rfl ci_1 ?_
    refine r_iconst 4 rfl ci_4 ?_
    obtain ⟨v8, h9, hq10, hE⟩ := bdE hE
    refine r_callS1 (rest := []) (hc := (Mo_within_ok g N _ _ _ _ _ _ hq10 D2 (by omega))) rfl pm_Mo_within lw_11_247 st_Mo_within rfl rfl (by decide) ?_
    refine r_if_ne (tgt := 23) rfl (by decide) (fun hc11 => ?_) (fun hc11 => ?_)
    · have hE := ifP hc11 hE
      refine r_iconst (-1) rfl ci_m1 ?_
      cases hE
      exact r_ret rfl (Or.inl ⟨rfl, _, _, rfl, rfl, rfl, rfl⟩)
    · have hE := ifN hc11 hE
      refine r_aload_n (t := some a0) 0 rfl rfl rfl ?_
      refine r_iconst 0 rfl ci_0 ?_
      refine r_iconst 0 rfl ci_0 ?_
      obtain ⟨hk12, hE⟩ := ckE hE
      obtain ⟨v13, h14, hq15, hE⟩ := bdE hE
      refine r_callV0 (rest := []) (hc := (Mo_laysValues_ok g N _ _ _ _ _ _ hq15 D2 (by omega))) rfl pm_Mo_laysValues lw_11_412 im_Mo_laysValues sl_Mo_laysValues rfl rfl rfl (rcOK hk12 rfl) (by decide) ?_
      refine r_aload_n (t := some a0) 0 rfl rfl rfl ?_
      refine r_aload_n (t := some a0) 0 rfl rfl rfl ?_
      obtain ⟨hk16, hE⟩ := ckE hE
      refine r_getR rfl (fl_11_81 rfl) (Or.inr ⟨_, rfl⟩) rfl hk16 ?_
      refine r_iconst 0 rfl ci_0 ?_
      obtain ⟨a_17, ha18, hE⟩ := bnE hE
      obtain ⟨hk19, hE⟩ := ckE hE
      obtain ⟨hi20, hE⟩ := ckE hE
      refine r_iald rfl ha18 hk19 hi20 ?_
      refine r_iload_n 1 rfl rfl rfl ?_
      refine r_aload_n (t := some a0) 0 rfl rfl rfl ?_
      refine r_getR rfl (fl_11_81 rfl) (Or.inr ⟨_, rfl⟩) rfl hk16 ?_
      refine r_iconst 1 rfl ci_1 ?_
      obtain ⟨hi21, hE⟩ := ckE hE
      refine r_iald rfl ha18 hk19 hi21 ?_
      refine r_aload_n (t := some a0) 0 rfl rfl rfl ?_
      refine r_getR rfl (fl_11_81 rfl) (Or.inr ⟨_, rfl⟩) rfl hk16 ?_
      refine r_iconst 2 rfl ci_2 ?_
      obtain ⟨hi22, hE⟩ := ckE hE
      refine r_iald rfl ha18 hk19 hi22 ?_
      obtain ⟨v23, h24, hq25, hE⟩ := bdE hE
      refine r_callV1 (rest := []) (hc := (Mo_greatest_ok g N _ _ _ _ _ _ _ _ hq25 D2 (by omega))) rfl pm_Mo_greatest lw_11_400 im_Mo_greatest sl_Mo_greatest rfl rfl rfl (rcOK hk16 rfl) (by decide) ?_
      refine r_pop rfl rfl ?_
      refine r_aload_n (t := some a0) 0 rfl rfl rfl ?_
      obtain ⟨hk26, hE⟩ := ckE hE
      refine r_getI rfl (fl_11_390 rfl) (Or.inl rfl) rfl hk26 ?_
      cases hE
      exact r_ret rfl (Or.inl ⟨rfl, _, _, rfl, rfl, rfl, rfl⟩)
def Mo_may_b22 (N : Nat) (s0 : Nat) (s1 : Int32) (a0 : Nat) (x1 : Int32) (h : PH) : Option (Int32 × PH) :=
  ck ((hK h s0).1 = 11) <|
  lt0 (wI h s0 0 s1) fun h2 =>
  ck ((hK h2 a0).1 = 11) <|
  if (hI h2 a0 0) = 1 then
    some (0, h2)
  else
    bd (Mo_laysValues N a0 0 0 h2) fun v6 h7 =>
    ck ((hK h7 a0).1 = 11) <|
    ((hR h7 a0 35)).bind fun a_10 =>
    ck ((hK h7 a_10).1 = 20) <|
    ck (inb 0 (hK h7 a_10).2 = true) <|
    ck (inb 1 (hK h7 a_10).2 = true) <|
    ck (inb 2 (hK h7 a_10).2 = true) <|
    bd (Mo_greatest N a0 (hI h7 a_10 (ix 0)) x1 (hI h7 a_10 (ix 1)) (hI h7 a_10 (ix 2)) h7) fun v16 h17 =>
    some (v16, h17)
set_option maxRecDepth 20000 in
theorem Mo_may_b22_ok (g : GT) (N : Nat) (D : Nat) (hD : 5 ≤ D) : ∀ (s0 : Nat) (s1 : Int32) (a0 : Nat) (x1 : Int32) (h : PH) (v : Int32) (h' : PH), Mo_may_b22 N s0 s1 a0 x1 h = some (v, h') → Run g pMo_may D 22 [(0, va_rf (some a0)), (1, .int x1)] [.int s1, va_rf (some s0)] h (rI v) h' := by
  obtain ⟨D2, rfl⟩ : ∃ d, D = d + 1 := ⟨D - 1, by omega⟩
  intro s0 s1 a0 x1 h v h' hE
  unfold Mo_may_b22 at hE
  obtain ⟨hk1, hE⟩ := ckE hE
  obtain ⟨h2, he3, hE⟩ := ltE hE
  refine r_putI rfl (fl_11_119 rfl) finF rfl hk1 he3 ?_
  refine r_aload_n (t := some a0) 0 rfl rfl rfl ?_
  obtain ⟨hk4, hE⟩ := ckE hE
  refine r_getI rfl (fl_11_119 rfl) (Or.inl rfl) rfl hk4 ?_
  refine r_iconst 1 rfl ci_1 ?_
  refine r_icmp_ne (tgt := 35) rfl (by decide) (fun hc5 => ?_) (fun hc5 => ?_)
  · have hE := ifP hc5 hE
    refine r_iconst 0 rfl ci_0 ?_
    cases hE
    exact r_ret rfl (Or.inl ⟨rfl, _, _, rfl, rfl, rfl, rfl⟩)
  · have hE := ifN hc5 hE
    refine r_aload_n (t := some a0) 0 rfl rfl rfl ?_
    refine r_iconst 0 rfl ci_0 ?_
    refine r_iconst 0 rfl ci_0 ?_
    obtain ⟨v6, h7, hq8, hE⟩ := bdE hE
    refine r_callV0 (rest := []) (hc := (Mo_laysValues_ok g N _ _ _ _ _ _ hq8 D2 (by omega))) rfl pm_Mo_laysValues lw_11_412 im_Mo_laysValues sl_Mo_laysValues rfl rfl rfl (rcOK hk4 rfl) (by decide) ?_
    refine r_aload_n (t := some a0) 0 rfl rfl rfl ?_
    refine r_aload_n (t := some a0) 0 rfl rfl rfl ?_
    obtain ⟨hk9, hE⟩ := ckE hE
    refine r_getR rfl (fl_11_81 rfl) (Or.inr ⟨_, rfl⟩) rfl hk9 ?_
    refine r_iconst 0 rfl ci_0 ?_
    obtain ⟨a_10, ha11, hE⟩ := bnE hE
    obtain ⟨hk12, hE⟩ := ckE hE
    obtain ⟨hi13, hE⟩ := ckE hE
    refine r_iald rfl ha11 hk12 hi13 ?_
    refine r_iload_n 1 rfl rfl rfl ?_
    refine r_aload_n (t := some a0) 0 rfl rfl rfl ?_
    refine r_getR rfl (fl_11_81 rfl) (Or.inr ⟨_, rfl⟩) rfl hk9 ?_
    refine r_iconst 1 rfl ci_1 ?_
    obtain ⟨hi14, hE⟩ := ckE hE
    refine r_iald rfl ha11 hk12 hi14 ?_
    refine r_aload_n (t := some a0) 0 rfl rfl rfl ?_
    refine r_getR rfl (fl_11_81 rfl) (Or.inr ⟨_, rfl⟩) rfl hk9 ?_
    refine r_iconst 2 rfl ci_2 ?_
    obtain ⟨hi15, hE⟩ := ckE hE
    refine r_iald rfl ha11 hk12 hi15 ?_
    obtain ⟨v16, h17, hq18, hE⟩ := bdE hE
    refine r_callV1 (rest := []) (hc := (Mo_greatest_ok g N _ _ _ _ _ _ _ _ hq18 D2 (by omega))) rfl pm_Mo_greatest lw_11_400 im_Mo_greatest sl_Mo_greatest rfl rfl rfl (rcOK hk9 rfl) (by decide) ?_
    cases hE
    exact r_ret rfl (Or.inl ⟨rfl, _, _, rfl, rfl, rfl, rfl⟩)
def Mo_may_b21 (N : Nat) (s0 : Nat) (a0 : Nat) (x1 : Int32) (h : PH) : Option (Int32 × PH) :=
  Mo_may_b22 N  s0 1 a0 x1 h
set_option maxRecDepth 20000 in
theorem Mo_may_b21_ok (g : GT) (N : Nat) (D : Nat) (hD : 5 ≤ D) : ∀ (s0 : Nat) (a0 : Nat) (x1 : Int32) (h : PH) (v : Int32) (h' : PH), Mo_may_b21 N s0 a0 x1 h = some (v, h') → Run g pMo_may D 21 [(0, va_rf (some a0)), (1, .int x1)] [va_rf (some s0)] h (rI v) h' := by
  obtain ⟨D2, rfl⟩ : ∃ d, D = d + 1 := ⟨D - 1, by omega⟩
  intro s0 a0 x1 h v h' hE
  unfold Mo_may_b21 at hE
  refine r_iconst 1 rfl ci_1 ?_
  first | exact r_sb (Mo_may_b22_ok g N _ hD   _ _ _ _ _ _ _ hE) ⟨rfl, rfl, trivial⟩ | exact r_sb (Mo_may_b22_ok g N _ hD   _ _ _ _ _ _ _ hE) (by simp only [su1, su2, dr1_rf, dr1_in, dr1_lo, dr2_rf, dr2_in, dr2_lo]; exact ⟨rfl, rfl, trivial⟩)
def Mo_may (N : Nat) (a0 : Nat) (x1 : Int32) (h : PH) : Option (Int32 × PH) :=
  ck ((hK h a0).1 = 11) <|
  bd (Mo_isOn N a0 h) fun v2 h3 =>
  if (bI v2) = 0 then
    Mo_may_b21 N  a0 a0 x1 h3
  else
    bd (Mo_within N x1 0 4 h3) fun v6 h7 =>
    if (bI v6) = 0 then
      Mo_may_b21 N  a0 a0 x1 h7
    else
      Mo_may_b22 N  a0 0 a0 x1 h7
set_option maxRecDepth 20000 in
theorem Mo_may_ok (g : GT) (N : Nat) (a0 : Nat) (x1 : Int32) (h : PH) (v : Int32) (h' : PH) (hE : Mo_may N a0 x1 h = some (v, h')) (D : Nat) (hD : 5 ≤ D) : Calls g D pMo_may [va_rf (some a0), .int x1] h (oI v) h' := by
  refine Calls.of cok_Mo_may ht_Mo_may pl_Mo_may (fun ad => by rw [lg_len, sL_cat]; simp only [List.map_cons, List.map_nil, rf_cat, cat_i, cat_l, List.sum_cons, List.sum_nil]; decide) ?_
  rw [show lv_args 0 [va_rf (some a0), .int x1] = [(0, va_rf (some a0)), (1, .int x1)] from (by simp only [lv_args, rf_cat, cat_i, cat_l]; try rfl)]
  obtain ⟨D2, rfl⟩ : ∃ d, D = d + 1 := ⟨D - 1, by omega⟩
  unfold Mo_may at hE
  refine r_aload_n (t := some a0) 0 rfl rfl rfl ?_
  refine r_aload_n (t := some a0) 0 rfl rfl rfl ?_
  obtain ⟨hk1, hE⟩ := ckE hE
  obtain ⟨v2, h3, hq4, hE⟩ := bdE hE
  refine r_callV1 (rest := [va_rf (some a0)]) (hc := (Mo_isOn_ok g N _ _ _ _ hq4 D2 (by omega))) rfl pm_Mo_isOn lw_11_416 im_Mo_isOn sl_Mo_isOn rfl rfl rfl (rcOK hk1 rfl) (by simp only [List.map_cons, List.map_nil, rf_cat, cat_i, cat_l, List.sum_cons, List.sum_nil]; decide) ?_
  refine r_if_eq (tgt := 21) rfl (by decide) (fun hc5 => ?_) (fun hc5 => ?_)
  · have hE := ifP hc5 hE
    first | exact r_sb (Mo_may_b21_ok g N _ hD   _ _ _ _ _ _ hE) ⟨rfl, rfl, trivial⟩ | exact r_sb (Mo_may_b21_ok g N _ hD   _ _ _ _ _ _ hE) (by simp only [su1, su2, dr1_rf, dr1_in, dr1_lo, dr2_rf, dr2_in, dr2_lo]; exact ⟨rfl, rfl, trivial⟩)
  · have hE := ifN hc5 hE
    refine r_iload_n 1 rfl rfl rfl ?_
    refine r_iconst 0 rfl ci_0 ?_
    refine r_iconst 4 rfl ci_4 ?_
    obtain ⟨v6, h7, hq8, hE⟩ := bdE hE
    refine r_callS1 (rest := [va_rf (some a0)]) (hc := (Mo_within_ok g N _ _ _ _ _ _ hq8 D2 (by omega))) rfl pm_Mo_within lw_11_247 st_Mo_within rfl rfl (by simp only [List.map_cons, List.map_nil, rf_cat, cat_i, cat_l, List.sum_cons, List.sum_nil]; decide) ?_
    refine r_if_eq (tgt := 21) rfl (by decide) (fun hc9 => ?_) (fun hc9 => ?_)
    · have hE := ifP hc9 hE
      first | exact r_sb (Mo_may_b21_ok g N _ hD   _ _ _ _ _ _ hE) ⟨rfl, rfl, trivial⟩ | exact r_sb (Mo_may_b21_ok g N _ hD   _ _ _ _ _ _ hE) (by simp only [su1, su2, dr1_rf, dr1_in, dr1_lo, dr2_rf, dr2_in, dr2_lo]; exact ⟨rfl, rfl, trivial⟩)
    · have hE := ifN hc9 hE
      refine r_iconst 0 rfl ci_0 ?_
      refine r_goto (tgt := 22) rfl (by decide) ?_
      first | exact r_sb (Mo_may_b22_ok g N _ hD   _ _ _ _ _ _ _ hE) ⟨rfl, rfl, trivial⟩ | exact r_sb (Mo_may_b22_ok g N _ hD   _ _ _ _ _ _ _ hE) (by simp only [su1, su2, dr1_rf, dr1_in, dr1_lo, dr2_rf, dr2_in, dr2_lo]; exact ⟨rfl, rfl, trivial⟩)
def Mo_stay (N : Nat) (a0 : Nat) (h : PH) : Option (Int32 × PH) :=
  ck ((hK h a0).1 = 11) <|
  lt0 (wI h a0 0 0) fun h2 =>
  bd (Mo_isOn N a0 h2) fun v4 h5 =>
  if (bI v4) = 0 then
    some ((-1), h5)
  else
    ck ((hK h5 a0).1 = 11) <|
    bd (Mo_laysValues N a0 0 0 h5) fun v9 h10 =>
    ck ((hK h10 a0).1 = 11) <|
    ((hR h10 a0 35)).bind fun a_13 =>
    ck ((hK h10 a_13).1 = 20) <|
    ck (inb 0 (hK h10 a_13).2 = true) <|
    ck (inb 1 (hK h10 a_13).2 = true) <|
    ck (inb 2 (hK h10 a_13).2 = true) <|
    ck (inb 7 (hK h10 a_13).2 = true) <|
    bd (Mo_openBy N a0 (hI h10 a_13 (ix 0)) (hI h10 a_13 (ix 1)) (hI h10 a_13 (ix 2)) (hI h10 a_13 (ix 7)) h10) fun v20 h21 =>
    ck ((hK h21 a0).1 = 11) <|
    ((hR h21 a0 35)).bind fun a_24 =>
    ck ((hK h21 a_24).1 = 20) <|
    ck (inb 0 (hK h21 a_24).2 = true) <|
    ck (inb 1 (hK h21 a_24).2 = true) <|
    bd (Mo_closedBy N a0 (hI h21 a_24 (ix 0)) (hI h21 a_24 (ix 1)) h21) fun v29 h30 =>
    if v20 < v29 then
      some (0, h30)
    else
      some (1, h30)
set_option maxRecDepth 20000 in
theorem Mo_stay_ok (g : GT) (N : Nat) (a0 : Nat) (h : PH) (v : Int32) (h' : PH) (hE : Mo_stay N a0 h = some (v, h')) (D : Nat) (hD : 5 ≤ D) : Calls g D pMo_stay [va_rf (some a0)] h (oI v) h' := by
  refine Calls.of cok_Mo_stay ht_Mo_stay pl_Mo_stay (fun ad => by rw [lg_len, sL_cat]; simp only [List.map_cons, List.map_nil, rf_cat, cat_i, cat_l, List.sum_cons, List.sum_nil]; decide) ?_
  rw [show lv_args 0 [va_rf (some a0)] = [(0, va_rf (some a0))] from (by simp only [lv_args, rf_cat, cat_i, cat_l]; try rfl)]
  obtain ⟨D2, rfl⟩ : ∃ d, D = d + 1 := ⟨D - 1, by omega⟩
  unfold Mo_stay at hE
  refine r_aload_n (t := some a0) 0 rfl rfl rfl ?_
  refine r_iconst 0 rfl ci_0 ?_
  obtain ⟨hk1, hE⟩ := ckE hE
  obtain ⟨h2, he3, hE⟩ := ltE hE
  refine r_putI rfl (fl_11_119 rfl) finF rfl hk1 he3 ?_
  refine r_aload_n (t := some a0) 0 rfl rfl rfl ?_
  obtain ⟨v4, h5, hq6, hE⟩ := bdE hE
  refine r_callV1 (rest := []) (hc := (Mo_isOn_ok g N _ _ _ _ hq6 D2 (by omega))) rfl pm_Mo_isOn lw_11_416 im_Mo_isOn sl_Mo_isOn rfl rfl rfl (rcOK (kwI he3 hk1) rfl) (by decide) ?_
  refine r_if_ne (tgt := 14) rfl (by decide) (fun hc7 => ?_) (fun hc7 => ?_)
  · have hE := ifP hc7 hE
    refine r_iconst (-1) rfl ci_m1 ?_
    cases hE
    exact r_ret rfl (Or.inl ⟨rfl, _, _, rfl, rfl, rfl, rfl⟩)
  · have hE := ifN hc7 hE
    refine r_aload_n (t := some a0) 0 rfl rfl rfl ?_
    refine r_iconst 0 rfl ci_0 ?_
    refine r_iconst 0 rfl ci_0 ?_
    obtain ⟨hk8, hE⟩ := ckE hE
    obtain ⟨v9, h10, hq11, hE⟩ := bdE hE
    refine r_callV0 (rest := []) (hc := (Mo_laysValues_ok g N _ _ _ _ _ _ hq11 D2 (by omega))) rfl pm_Mo_laysValues lw_11_412 im_Mo_laysValues sl_Mo_laysValues rfl rfl rfl (rcOK hk8 rfl) (by decide) ?_
    refine r_aload_n (t := some a0) 0 rfl rfl rfl ?_
    refine r_aload_n (t := some a0) 0 rfl rfl rfl ?_
    obtain ⟨hk12, hE⟩ := ckE hE
    refine r_getR rfl (fl_11_81 rfl) (Or.inr ⟨_, rfl⟩) rfl hk12 ?_
    refine r_iconst 0 rfl ci_0 ?_
    obtain ⟨a_13, ha14, hE⟩ := bnE hE
    obtain ⟨hk15, hE⟩ := ckE hE
    obtain ⟨hi16, hE⟩ := ckE hE
    refine r_iald rfl ha14 hk15 hi16 ?_
    refine r_aload_n (t := some a0) 0 rfl rfl rfl ?_
    refine r_getR rfl (fl_11_81 rfl) (Or.inr ⟨_, rfl⟩) rfl hk12 ?_
    refine r_iconst 1 rfl ci_1 ?_
    obtain ⟨hi17, hE⟩ := ckE hE
    refine r_iald rfl ha14 hk15 hi17 ?_
    refine r_aload_n (t := some a0) 0 rfl rfl rfl ?_
    refine r_getR rfl (fl_11_81 rfl) (Or.inr ⟨_, rfl⟩) rfl hk12 ?_
    refine r_iconst 2 rfl ci_2 ?_
    obtain ⟨hi18, hE⟩ := ckE hE
    refine r_iald rfl ha14 hk15 hi18 ?_
    refine r_aload_n (t := some a0) 0 rfl rfl rfl ?_
    refine r_getR rfl (fl_11_81 rfl) (Or.inr ⟨_, rfl⟩) rfl hk12 ?_
    refine r_bipush 7 rfl cb_7 ?_
    obtain ⟨hi19, hE⟩ := ckE hE
    refine r_iald rfl ha14 hk15 hi19 ?_
    obtain ⟨v20, h21, hq22, hE⟩ := bdE hE
    refine r_callV1 (rest := []) (hc := (Mo_openBy_ok g N _ _ _ _ _ _ _ _ hq22 D2 (by omega))) rfl pm_Mo_openBy lw_11_406 im_Mo_openBy sl_Mo_openBy rfl rfl rfl (rcOK hk12 rfl) (by decide) ?_
    refine r_aload_n (t := some a0) 0 rfl rfl rfl ?_
    refine r_aload_n (t := some a0) 0 rfl rfl rfl ?_
    obtain ⟨hk23, hE⟩ := ckE hE
    refine r_getR rfl (fl_11_81 rfl) (Or.inr ⟨_, rfl⟩) rfl hk23 ?_
    refine r_iconst 0 rfl ci_0 ?_
    obtain ⟨a_24, ha25, hE⟩ := bnE hE
    obtain ⟨hk26, hE⟩ := ckE hE
    obtain ⟨hi27, hE⟩ := ckE hE
    refine r_iald rfl ha25 hk26 hi27 ?_
    refine r_aload_n (t := some a0) 0 rfl rfl rfl ?_
    refine r_getR rfl (fl_11_81 rfl) (Or.inr ⟨_, rfl⟩) rfl hk23 ?_
    refine r_iconst 1 rfl ci_1 ?_
    obtain ⟨hi28, hE⟩ := ckE hE
    refine r_iald rfl ha25 hk26 hi28 ?_
    obtain ⟨v29, h30, hq31, hE⟩ := bdE hE
    refine r_callV1 (rest := [.int v20]) (hc := (Mo_closedBy_ok g N _ _ _ _ _ _ hq31 D2 (by omega))) rfl pm_Mo_closedBy lw_11_403 im_Mo_closedBy sl_Mo_closedBy rfl rfl rfl (rcOK hk23 rfl) (by simp only [List.map_cons, List.map_nil, rf_cat, cat_i, cat_l, List.sum_cons, List.sum_nil]; decide) ?_
    refine r_icmp_lt (tgt := 72) rfl (by decide) (fun hc32 => ?_) (fun hc32 => ?_)
    · have hE := ifP hc32 hE
      refine r_iconst 0 rfl ci_0 ?_
      cases hE
      exact r_ret rfl (Or.inl ⟨rfl, _, _, rfl, rfl, rfl, rfl⟩)
    · have hE := ifN hc32 hE
      refine r_iconst 1 rfl ci_1 ?_
      refine r_goto (tgt := 73) rfl (by decide) ?_
      cases hE
      exact r_ret rfl (Or.inl ⟨rfl, _, _, rfl, rfl, rfl, rfl⟩)
def Mo_nowBy_b43 (N : Nat) (s0 : Option Nat) (s1 : Int32) (s2 : Int32) (s3 : Int32) (s4 : Int32) (h : PH) : Option (Int32 × PH) :=
  bd (Mo_at N s1 s2 s3 s4 h) fun v1 h2 =>
  (s0).bind fun a_4 =>
  ck ((hK h2 a_4).1 = 20) <|
  ck (inb v1 (hK h2 a_4).2 = true) <|
  some ((hI h2 a_4 (ix v1)), h2)
set_option maxRecDepth 20000 in
theorem Mo_nowBy_b43_ok (g : GT) (N : Nat) (D : Nat) (hD : 5 ≤ D) : ∀ (s0 : Option Nat) (s1 : Int32) (s2 : Int32) (s3 : Int32) (s4 : Int32) (h : PH) (v : Int32) (h' : PH), Mo_nowBy_b43 N s0 s1 s2 s3 s4 h = some (v, h') → Run g pMo_nowBy D 43 [] [.int s4, .int s3, .int s2, .int s1, va_rf s0] h (rI v) h' := by
  obtain ⟨D2, rfl⟩ : ∃ d, D = d + 1 := ⟨D - 1, by omega⟩
  intro s0 s1 s2 s3 s4 h v h' hE
  unfold Mo_nowBy_b43 at hE
  obtain ⟨v1, h2, hq3, hE⟩ := bdE hE
  refine r_callS1 (rest := [va_rf s0]) (hc := (Mo_at_ok g N _ _ _ _ _ _ _ hq3 D2 (by omega))) rfl pm_Mo_at lw_11_386 st_Mo_at rfl rfl (by simp only [List.map_cons, List.map_nil, rf_cat, cat_i, cat_l, List.sum_cons, List.sum_nil]; decide) ?_
  obtain ⟨a_4, ha5, hE⟩ := bnE hE
  obtain ⟨hk6, hE⟩ := ckE hE
  obtain ⟨hi7, hE⟩ := ckE hE
  refine r_iald rfl ha5 hk6 hi7 ?_
  cases hE
  exact r_ret rfl (Or.inl ⟨rfl, _, _, rfl, rfl, rfl, rfl⟩)
def Mo_nowBy (N : Nat) (a0 : Nat) (x1 : Int32) (x2 : Int32) (h : PH) : Option (Int32 × PH) :=
  ck ((hK h a0).1 = 11) <|
  bd (Mo_laysValues N a0 x1 x2 h) fun v2 h3 =>
  ck ((hK h3 a0).1 = 11) <|
  ((hR h3 a0 35)).bind fun a_6 =>
  ck ((hK h3 a_6).1 = 20) <|
  ck (inb 0 (hK h3 a_6).2 = true) <|
  ck (inb 1 (hK h3 a_6).2 = true) <|
  ck (inb 2 (hK h3 a_6).2 = true) <|
  if x2 = 0 then
    ck (inb 7 (hK h3 a_6).2 = true) <|
    Mo_nowBy_b43 N  (hR h3 a0 44) (hI h3 a_6 (ix 0)) (hI h3 a_6 (ix 1)) (hI h3 a_6 (ix 2)) (hI h3 a_6 (ix 7)) h3
  else
    Mo_nowBy_b43 N  (hR h3 a0 44) (hI h3 a_6 (ix 0)) (hI h3 a_6 (ix 1)) (hI h3 a_6 (ix 2)) 0 h3
set_option maxRecDepth 20000 in
theorem Mo_nowBy_ok (g : GT) (N : Nat) (a0 : Nat) (x1 : Int32) (x2 : Int32) (h : PH) (v : Int32) (h' : PH) (hE : Mo_nowBy N a0 x1 x2 h = some (v, h')) (D : Nat) (hD : 5 ≤ D) : Calls g D pMo_nowBy [va_rf (some a0), .int x1, .int x2] h (oI v) h' := by
  refine Calls.of cok_Mo_nowBy ht_Mo_nowBy pl_Mo_nowBy (fun ad => by rw [lg_len, sL_cat]; simp only [List.map_cons, List.map_nil, rf_cat, cat_i, cat_l, List.sum_cons, List.sum_nil]; decide) ?_
  rw [show lv_args 0 [va_rf (some a0), .int x1, .int x2] = [(0, va_rf (some a0)), (1, .int x1), (2, .int x2)] from (by simp only [lv_args, rf_cat, cat_i, cat_l]; try rfl)]
  obtain ⟨D2, rfl⟩ : ∃ d, D = d + 1 := ⟨D - 1, by omega⟩
  unfold Mo_nowBy at hE
  refine r_aload_n (t := some a0) 0 rfl rfl rfl ?_
  refine r_iload_n 1 rfl rfl rfl ?_
  refine r_iload_n 2 rfl rfl rfl ?_
  obtain ⟨hk1, hE⟩ := ckE hE
  obtain ⟨v2, h3, hq4, hE⟩ := bdE hE
  refine r_callV0 (rest := []) (hc := (Mo_laysValues_ok g N _ _ _ _ _ _ hq4 D2 (by omega))) rfl pm_Mo_laysValues lw_11_412 im_Mo_laysValues sl_Mo_laysValues rfl rfl rfl (rcOK hk1 rfl) (by decide) ?_
  refine r_aload_n (t := some a0) 0 rfl rfl rfl ?_
  obtain ⟨hk5, hE⟩ := ckE hE
  refine r_getR rfl (fl_11_97 rfl) (Or.inr ⟨_, rfl⟩) rfl hk5 ?_
  refine r_aload_n (t := some a0) 0 rfl rfl rfl ?_
  refine r_getR rfl (fl_11_81 rfl) (Or.inr ⟨_, rfl⟩) rfl hk5 ?_
  refine r_iconst 0 rfl ci_0 ?_
  obtain ⟨a_6, ha7, hE⟩ := bnE hE
  obtain ⟨hk8, hE⟩ := ckE hE
  obtain ⟨hi9, hE⟩ := ckE hE
  refine r_iald rfl ha7 hk8 hi9 ?_
  refine r_aload_n (t := some a0) 0 rfl rfl rfl ?_
  refine r_getR rfl (fl_11_81 rfl) (Or.inr ⟨_, rfl⟩) rfl hk5 ?_
  refine r_iconst 1 rfl ci_1 ?_
  obtain ⟨hi10, hE⟩ := ckE hE
  refine r_iald rfl ha7 hk8 hi10 ?_
  refine r_aload_n (t := some a0) 0 rfl rfl rfl ?_
  refine r_getR rfl (fl_11_81 rfl) (Or.inr ⟨_, rfl⟩) rfl hk5 ?_
  refine r_iconst 2 rfl ci_2 ?_
  obtain ⟨hi11, hE⟩ := ckE hE
  refine r_iald rfl ha7 hk8 hi11 ?_
  refine r_iload_n 2 rfl rfl rfl ?_
  refine r_if_eq (tgt := 36) rfl (by decide) (fun hc12 => ?_) (fun hc12 => ?_)
  · have hE := ifP hc12 hE
    refine r_aload_n (t := some a0) 0 rfl rfl rfl ?_
    refine r_getR rfl (fl_11_81 rfl) (Or.inr ⟨_, rfl⟩) rfl hk5 ?_
    refine r_bipush 7 rfl cb_7 ?_
    obtain ⟨hi13, hE⟩ := ckE hE
    refine r_iald rfl ha7 hk8 hi13 ?_
    exact r_sb (Mo_nowBy_b43_ok g N _ hD   _ _ _ _ _ _ _ _ hE) trivial
  · have hE := ifN hc12 hE
    refine r_iconst 0 rfl ci_0 ?_
    refine r_goto (tgt := 43) rfl (by decide) ?_
    exact r_sb (Mo_nowBy_b43_ok g N _ hD   _ _ _ _ _ _ _ _ hE) trivial
def Mo_talk_b13 (N : Nat) (s0 : Nat) (s1 : Int32) (a0 : Nat) (h : PH) : Option (Int32 × PH) :=
  ck ((hK h s0).1 = 11) <|
  lt0 (wI h s0 0 s1) fun h2 =>
  ck ((hK h2 a0).1 = 11) <|
  if (hI h2 a0 0) = 1 then
    some (0, h2)
  else
    bd (Mo_nowBy N a0 0 0 h2) fun v6 h7 =>
    ck ((hK h7 a0).1 = 11) <|
    bd (Mo_nowBy N a0 0 1 h7) fun v10 h11 =>
    some ((v6 - v10), h11)
set_option maxRecDepth 20000 in
theorem Mo_talk_b13_ok (g : GT) (N : Nat) (D : Nat) (hD : 6 ≤ D) : ∀ (s0 : Nat) (s1 : Int32) (a0 : Nat) (h : PH) (v : Int32) (h' : PH), Mo_talk_b13 N s0 s1 a0 h = some (v, h') → Run g pMo_talk D 13 [(0, va_rf (some a0))] [.int s1, va_rf (some s0)] h (rI v) h' := by
  obtain ⟨D2, rfl⟩ : ∃ d, D = d + 1 := ⟨D - 1, by omega⟩
  intro s0 s1 a0 h v h' hE
  unfold Mo_talk_b13 at hE
  obtain ⟨hk1, hE⟩ := ckE hE
  obtain ⟨h2, he3, hE⟩ := ltE hE
  refine r_putI rfl (fl_11_119 rfl) finF rfl hk1 he3 ?_
  refine r_aload_n (t := some a0) 0 rfl rfl rfl ?_
  obtain ⟨hk4, hE⟩ := ckE hE
  refine r_getI rfl (fl_11_119 rfl) (Or.inl rfl) rfl hk4 ?_
  refine r_iconst 1 rfl ci_1 ?_
  refine r_icmp_ne (tgt := 26) rfl (by decide) (fun hc5 => ?_) (fun hc5 => ?_)
  · have hE := ifP hc5 hE
    refine r_iconst 0 rfl ci_0 ?_
    cases hE
    exact r_ret rfl (Or.inl ⟨rfl, _, _, rfl, rfl, rfl, rfl⟩)
  · have hE := ifN hc5 hE
    refine r_aload_n (t := some a0) 0 rfl rfl rfl ?_
    refine r_iconst 0 rfl ci_0 ?_
    refine r_iconst 0 rfl ci_0 ?_
    obtain ⟨v6, h7, hq8, hE⟩ := bdE hE
    refine r_callV1 (rest := []) (hc := (Mo_nowBy_ok g N _ _ _ _ _ _ hq8 D2 (by omega))) rfl pm_Mo_nowBy lw_11_419 im_Mo_nowBy sl_Mo_nowBy rfl rfl rfl (rcOK hk4 rfl) (by decide) ?_
    refine r_istore_n 1 rfl rfl (by decide) ?_
    refine r_iload_n 1 rfl rfl rfl ?_
    refine r_aload_n (t := some a0) 0 rfl rfl rfl ?_
    refine r_iconst 0 rfl ci_0 ?_
    refine r_iconst 1 rfl ci_1 ?_
    obtain ⟨hk9, hE⟩ := ckE hE
    obtain ⟨v10, h11, hq12, hE⟩ := bdE hE
    refine r_callV1 (rest := [.int v6]) (hc := (Mo_nowBy_ok g N _ _ _ _ _ _ hq12 D2 (by omega))) rfl pm_Mo_nowBy lw_11_419 im_Mo_nowBy sl_Mo_nowBy rfl rfl rfl (rcOK hk9 rfl) (by simp only [List.map_cons, List.map_nil, rf_cat, cat_i, cat_l, List.sum_cons, List.sum_nil]; decide) ?_
    refine r_isub rfl ?_
    cases hE
    exact r_ret rfl (Or.inl ⟨rfl, _, _, rfl, rfl, rfl, rfl⟩)
def Mo_talk (N : Nat) (a0 : Nat) (h : PH) : Option (Int32 × PH) :=
  ck ((hK h a0).1 = 11) <|
  bd (Mo_isOn N a0 h) fun v2 h3 =>
  if (bI v2) = 0 then
    Mo_talk_b13 N  a0 1 a0 h3
  else
    Mo_talk_b13 N  a0 0 a0 h3
set_option maxRecDepth 20000 in
theorem Mo_talk_ok (g : GT) (N : Nat) (a0 : Nat) (h : PH) (v : Int32) (h' : PH) (hE : Mo_talk N a0 h = some (v, h')) (D : Nat) (hD : 6 ≤ D) : Calls g D pMo_talk [va_rf (some a0)] h (oI v) h' := by
  refine Calls.of cok_Mo_talk ht_Mo_talk pl_Mo_talk (fun ad => by rw [lg_len, sL_cat]; simp only [List.map_cons, List.map_nil, rf_cat, cat_i, cat_l, List.sum_cons, List.sum_nil]; decide) ?_
  rw [show lv_args 0 [va_rf (some a0)] = [(0, va_rf (some a0))] from (by simp only [lv_args, rf_cat, cat_i, cat_l]; try rfl)]
  obtain ⟨D2, rfl⟩ : ∃ d, D = d + 1 := ⟨D - 1, by omega⟩
  unfold Mo_talk at hE
  refine r_aload_n (t := some a0) 0 rfl rfl rfl ?_
  refine r_aload_n (t := some a0) 0 rfl rfl rfl ?_
  obtain ⟨hk1, hE⟩ := ckE hE
  obtain ⟨v2, h3, hq4, hE⟩ := bdE hE
  refine r_callV1 (rest := [va_rf (some a0)]) (hc := (Mo_isOn_ok g N _ _ _ _ hq4 D2 (by omega))) rfl pm_Mo_isOn lw_11_416 im_Mo_isOn sl_Mo_isOn rfl rfl rfl (rcOK hk1 rfl) (by simp only [List.map_cons, List.map_nil, rf_cat, cat_i, cat_l, List.sum_cons, List.sum_nil]; decide) ?_
  refine r_if_eq (tgt := 12) rfl (by decide) (fun hc5 => ?_) (fun hc5 => ?_)
  · have hE := ifP hc5 hE
    refine r_iconst 1 rfl ci_1 ?_
    first | exact r_sb (Mo_talk_b13_ok g N _ hD   _ _ _ _ _ _ hE) ⟨rfl, trivial⟩ | exact r_sb (Mo_talk_b13_ok g N _ hD   _ _ _ _ _ _ hE) (by simp only [su1, su2, dr1_rf, dr1_in, dr1_lo, dr2_rf, dr2_in, dr2_lo]; exact ⟨rfl, trivial⟩)
  · have hE := ifN hc5 hE
    refine r_iconst 0 rfl ci_0 ?_
    refine r_goto (tgt := 13) rfl (by decide) ?_
    first | exact r_sb (Mo_talk_b13_ok g N _ hD   _ _ _ _ _ _ hE) ⟨rfl, trivial⟩ | exact r_sb (Mo_talk_b13_ok g N _ hD   _ _ _ _ _ _ hE) (by simp only [su1, su2, dr1_rf, dr1_in, dr1_lo, dr2_rf, dr2_in, dr2_lo]; exact ⟨rfl, trivial⟩)
def Mo_rains (N : Nat) (a0 : Nat) (h : PH) : Option (Int32 × PH) :=
  ck ((hK h a0).1 = 11) <|
  lt0 (wI h a0 0 0) fun h2 =>
  ((hR h2 a0 35)).bind fun a_4 =>
  ck ((hK h2 a_4).1 = 20) <|
  ck (inb 13 (hK h2 a_4).2 = true) <|
  some ((hI h2 a_4 (ix 13)), h2)
set_option maxRecDepth 20000 in
theorem Mo_rains_ok (g : GT) (N : Nat) (a0 : Nat) (h : PH) (v : Int32) (h' : PH) (hE : Mo_rains N a0 h = some (v, h')) (D : Nat) (hD : 0 ≤ D) : Calls g D pMo_rains [va_rf (some a0)] h (oI v) h' := by
  refine Calls.of cok_Mo_rains ht_Mo_rains pl_Mo_rains (fun ad => by rw [lg_len, sL_cat]; simp only [List.map_cons, List.map_nil, rf_cat, cat_i, cat_l, List.sum_cons, List.sum_nil]; decide) ?_
  rw [show lv_args 0 [va_rf (some a0)] = [(0, va_rf (some a0))] from (by simp only [lv_args, rf_cat, cat_i, cat_l]; try rfl)]
  unfold Mo_rains at hE
  refine r_aload_n (t := some a0) 0 rfl rfl rfl ?_
  refine r_iconst 0 rfl ci_0 ?_
  obtain ⟨hk1, hE⟩ := ckE hE
  obtain ⟨h2, he3, hE⟩ := ltE hE
  refine r_putI rfl (fl_11_119 rfl) finF rfl hk1 he3 ?_
  refine r_aload_n (t := some a0) 0 rfl rfl rfl ?_
  refine r_getR rfl (fl_11_81 rfl) (Or.inr ⟨_, rfl⟩) rfl (kwI he3 hk1) ?_
  refine r_bipush 13 rfl cb_13 ?_
  obtain ⟨a_4, ha5, hE⟩ := bnE hE
  obtain ⟨hk6, hE⟩ := ckE hE
  obtain ⟨hi7, hE⟩ := ckE hE
  refine r_iald rfl ha5 hk6 hi7 ?_
  cases hE
  exact r_ret rfl (Or.inl ⟨rfl, _, _, rfl, rfl, rfl, rfl⟩)
def Mo_tonight_b13 (N : Nat) (s0 : Nat) (s1 : Int32) (a0 : Nat) (h : PH) : Option (Int32 × PH) :=
  ck ((hK h s0).1 = 11) <|
  lt0 (wI h s0 0 s1) fun h2 =>
  ck ((hK h2 a0).1 = 11) <|
  if (hI h2 a0 0) = 1 then
    some (0, h2)
  else
    bd (Mo_nowBy N a0 1 0 h2) fun v6 h7 =>
    ck ((hK h7 a0).1 = 11) <|
    bd (Mo_nowBy N a0 0 0 h7) fun v10 h11 =>
    ck ((hK h11 a0).1 = 11) <|
    ((hR h11 a0 35)).bind fun a_14 =>
    ck ((hK h11 a_14).1 = 20) <|
    ck (inb 13 (hK h11 a_14).2 = true) <|
    ck (inb 13 (hK h11 a_14).2 = true) <|
    ck (¬ (1000000 : Int64) = 0) <|
    some ((Int64.toInt32 ((((Int32.toInt64 (hI h11 a_14 (ix 13))) * (Int32.toInt64 v6)) + ((1000000 - (Int32.toInt64 (hI h11 a_14 (ix 13)))) * (Int32.toInt64 v10))) / 1000000)), h11)
set_option maxRecDepth 20000 in
theorem Mo_tonight_b13_ok (g : GT) (N : Nat) (D : Nat) (hD : 6 ≤ D) : ∀ (s0 : Nat) (s1 : Int32) (a0 : Nat) (h : PH) (v : Int32) (h' : PH), Mo_tonight_b13 N s0 s1 a0 h = some (v, h') → Run g pMo_tonight D 13 [(0, va_rf (some a0))] [.int s1, va_rf (some s0)] h (rI v) h' := by
  obtain ⟨D2, rfl⟩ : ∃ d, D = d + 1 := ⟨D - 1, by omega⟩
  intro s0 s1 a0 h v h' hE
  unfold Mo_tonight_b13 at hE
  obtain ⟨hk1, hE⟩ := ckE hE
  obtain ⟨h2, he3, hE⟩ := ltE hE
  refine r_putI rfl (fl_11_119 rfl) finF rfl hk1 he3 ?_
  refine r_aload_n (t := some a0) 0 rfl rfl rfl ?_
  obtain ⟨hk4, hE⟩ := ckE hE
  refine r_getI rfl (fl_11_119 rfl) (Or.inl rfl) rfl hk4 ?_
  refine r_iconst 1 rfl ci_1 ?_
  refine r_icmp_ne (tgt := 26) rfl (by decide) (fun hc5 => ?_) (fun hc5 => ?_)
  · have hE := ifP hc5 hE
    refine r_iconst 0 rfl ci_0 ?_
    cases hE
    exact r_ret rfl (Or.inl ⟨rfl, _, _, rfl, rfl, rfl, rfl⟩)
  · have hE := ifN hc5 hE
    refine r_aload_n (t := some a0) 0 rfl rfl rfl ?_
    refine r_iconst 1 rfl ci_1 ?_
    refine r_iconst 0 rfl ci_0 ?_
    obtain ⟨v6, h7, hq8, hE⟩ := bdE hE
    refine r_callV1 (rest := []) (hc := (Mo_nowBy_ok g N _ _ _ _ _ _ hq8 D2 (by omega))) rfl pm_Mo_nowBy lw_11_419 im_Mo_nowBy sl_Mo_nowBy rfl rfl rfl (rcOK hk4 rfl) (by decide) ?_
    refine r_i2l rfl ?_
    refine r_lstore_n 1 rfl rfl (by decide) ?_
    refine r_aload_n (t := some a0) 0 rfl rfl rfl ?_
    refine r_iconst 0 rfl ci_0 ?_
    refine r_iconst 0 rfl ci_0 ?_
    obtain ⟨hk9, hE⟩ := ckE hE
    obtain ⟨v10, h11, hq12, hE⟩ := bdE hE
    refine r_callV1 (rest := []) (hc := (Mo_nowBy_ok g N _ _ _ _ _ _ hq12 D2 (by omega))) rfl pm_Mo_nowBy lw_11_419 im_Mo_nowBy sl_Mo_nowBy rfl rfl rfl (rcOK hk9 rfl) (by decide) ?_
    refine r_i2l rfl ?_
    refine r_lstore_n 3 rfl rfl (by decide) ?_
    refine r_aload_n (t := some a0) 0 rfl rfl rfl ?_
    obtain ⟨hk13, hE⟩ := ckE hE
    refine r_getR rfl (fl_11_81 rfl) (Or.inr ⟨_, rfl⟩) rfl hk13 ?_
    refine r_bipush 13 rfl cb_13 ?_
    obtain ⟨a_14, ha15, hE⟩ := bnE hE
    obtain ⟨hk16, hE⟩ := ckE hE
    obtain ⟨hi17, hE⟩ := ckE hE
    refine r_iald rfl ha15 hk16 hi17 ?_
    refine r_i2l rfl ?_
    refine r_lload_n 1 rfl rfl rfl ?_
    refine r_lmul rfl ?_
    refine r_ldc2 rfl kc_11_353 ?_
    refine r_aload_n (t := some a0) 0 rfl rfl rfl ?_
    refine r_getR rfl (fl_11_81 rfl) (Or.inr ⟨_, rfl⟩) rfl hk13 ?_
    refine r_bipush 13 rfl cb_13 ?_
    obtain ⟨hi18, hE⟩ := ckE hE
    refine r_iald rfl ha15 hk16 hi18 ?_
    refine r_i2l rfl ?_
    refine r_lsub rfl ?_
    refine r_lload_n 3 rfl rfl rfl ?_
    refine r_lmul rfl ?_
    refine r_ladd rfl ?_
    refine r_ldc2 rfl kc_11_353 ?_
    obtain ⟨hc19, hE⟩ := ckE hE
    refine r_ldiv rfl hc19 ?_
    refine r_l2i rfl ?_
    cases hE
    exact r_ret rfl (Or.inl ⟨rfl, _, _, rfl, rfl, rfl, rfl⟩)
def Mo_tonight (N : Nat) (a0 : Nat) (h : PH) : Option (Int32 × PH) :=
  ck ((hK h a0).1 = 11) <|
  bd (Mo_isOn N a0 h) fun v2 h3 =>
  if (bI v2) = 0 then
    Mo_tonight_b13 N  a0 1 a0 h3
  else
    Mo_tonight_b13 N  a0 0 a0 h3
set_option maxRecDepth 20000 in
theorem Mo_tonight_ok (g : GT) (N : Nat) (a0 : Nat) (h : PH) (v : Int32) (h' : PH) (hE : Mo_tonight N a0 h = some (v, h')) (D : Nat) (hD : 6 ≤ D) : Calls g D pMo_tonight [va_rf (some a0)] h (oI v) h' := by
  refine Calls.of cok_Mo_tonight ht_Mo_tonight pl_Mo_tonight (fun ad => by rw [lg_len, sL_cat]; simp only [List.map_cons, List.map_nil, rf_cat, cat_i, cat_l, List.sum_cons, List.sum_nil]; decide) ?_
  rw [show lv_args 0 [va_rf (some a0)] = [(0, va_rf (some a0))] from (by simp only [lv_args, rf_cat, cat_i, cat_l]; try rfl)]
  obtain ⟨D2, rfl⟩ : ∃ d, D = d + 1 := ⟨D - 1, by omega⟩
  unfold Mo_tonight at hE
  refine r_aload_n (t := some a0) 0 rfl rfl rfl ?_
  refine r_aload_n (t := some a0) 0 rfl rfl rfl ?_
  obtain ⟨hk1, hE⟩ := ckE hE
  obtain ⟨v2, h3, hq4, hE⟩ := bdE hE
  refine r_callV1 (rest := [va_rf (some a0)]) (hc := (Mo_isOn_ok g N _ _ _ _ hq4 D2 (by omega))) rfl pm_Mo_isOn lw_11_416 im_Mo_isOn sl_Mo_isOn rfl rfl rfl (rcOK hk1 rfl) (by simp only [List.map_cons, List.map_nil, rf_cat, cat_i, cat_l, List.sum_cons, List.sum_nil]; decide) ?_
  refine r_if_eq (tgt := 12) rfl (by decide) (fun hc5 => ?_) (fun hc5 => ?_)
  · have hE := ifP hc5 hE
    refine r_iconst 1 rfl ci_1 ?_
    first | exact r_sb (Mo_tonight_b13_ok g N _ hD   _ _ _ _ _ _ hE) ⟨rfl, trivial⟩ | exact r_sb (Mo_tonight_b13_ok g N _ hD   _ _ _ _ _ _ hE) (by simp only [su1, su2, dr1_rf, dr1_in, dr1_lo, dr2_rf, dr2_in, dr2_lo]; exact ⟨rfl, trivial⟩)
  · have hE := ifN hc5 hE
    refine r_iconst 0 rfl ci_0 ?_
    refine r_goto (tgt := 13) rfl (by decide) ?_
    first | exact r_sb (Mo_tonight_b13_ok g N _ hD   _ _ _ _ _ _ hE) ⟨rfl, trivial⟩ | exact r_sb (Mo_tonight_b13_ok g N _ hD   _ _ _ _ _ _ hE) (by simp only [su1, su2, dr1_rf, dr1_in, dr1_lo, dr2_rf, dr2_in, dr2_lo]; exact ⟨rfl, trivial⟩)
def Mo_isHabit (N : Nat) (a0 : Nat) (x1 : Int32) (h : PH) : Option (Bool × PH) :=
  if x1 < 0 then
    some (false, h)
  else
    ck ((hK h a0).1 = 11) <|
    ((hR h a0 10)).bind fun a_3 =>
    ck ((hK h a_3).1 = 20) <|
    ck (inb 15 (hK h a_3).2 = true) <|
    if (hI h a_3 (ix 15)) ≤ x1 then
      some (false, h)
    else
      some (true, h)
set_option maxRecDepth 20000 in
theorem Mo_isHabit_ok (g : GT) (N : Nat) (a0 : Nat) (x1 : Int32) (h : PH) (v : Bool) (h' : PH) (hE : Mo_isHabit N a0 x1 h = some (v, h')) (D : Nat) (hD : 0 ≤ D) : Calls g D pMo_isHabit [va_rf (some a0), .int x1] h (oZ v) h' := by
  refine Calls.of cok_Mo_isHabit ht_Mo_isHabit pl_Mo_isHabit (fun ad => by rw [lg_len, sL_cat]; simp only [List.map_cons, List.map_nil, rf_cat, cat_i, cat_l, List.sum_cons, List.sum_nil]; decide) ?_
  rw [show lv_args 0 [va_rf (some a0), .int x1] = [(0, va_rf (some a0)), (1, .int x1)] from (by simp only [lv_args, rf_cat, cat_i, cat_l]; try rfl)]
  unfold Mo_isHabit at hE
  refine r_iload_n 1 rfl rfl rfl ?_
  refine r_if_lt (tgt := 19) rfl (by decide) (fun hc1 => ?_) (fun hc1 => ?_)
  · have hE := ifP hc1 hE
    refine r_iconst 0 rfl ci_0 ?_
    cases hE
    exact r_ret rfl (Or.inl ⟨rfl, _, _, rfl, rfl, rfl, rfl⟩)
  · have hE := ifN hc1 hE
    refine r_iload_n 1 rfl rfl rfl ?_
    refine r_aload_n (t := some a0) 0 rfl rfl rfl ?_
    obtain ⟨hk2, hE⟩ := ckE hE
    refine r_getR rfl (fl_11_13 rfl) (Or.inr ⟨_, rfl⟩) rfl hk2 ?_
    refine r_bipush 15 rfl cb_15 ?_
    obtain ⟨a_3, ha4, hE⟩ := bnE hE
    obtain ⟨hk5, hE⟩ := ckE hE
    obtain ⟨hi6, hE⟩ := ckE hE
    refine r_iald rfl ha4 hk5 hi6 ?_
    refine r_icmp_ge (tgt := 19) rfl (by decide) (fun hc7 => ?_) (fun hc7 => ?_)
    · have hE := ifP hc7 hE
      refine r_iconst 0 rfl ci_0 ?_
      cases hE
      exact r_ret rfl (Or.inl ⟨rfl, _, _, rfl, rfl, rfl, rfl⟩)
    · have hE := ifN hc7 hE
      refine r_iconst 1 rfl ci_1 ?_
      refine r_goto (tgt := 20) rfl (by decide) ?_
      cases hE
      exact r_ret rfl (Or.inl ⟨rfl, _, _, rfl, rfl, rfl, rfl⟩)
def Mo_opens (N : Nat) (a0 : Nat) (x1 : Int32) (h : PH) : Option (Unit × PH) :=
  ck ((hK h a0).1 = 11) <|
  ((hR h a0 22)).bind fun a_2 =>
  ck ((hK h a_2).1 = 20) <|
  ck (inb x1 (hK h a_2).2 = true) <|
  lt0 (wI h a_2 (ix x1) 0) fun h6 =>
  ((hR h6 a0 24)).bind fun a_8 =>
  ck ((hK h6 a_8).1 = 20) <|
  ck (inb x1 (hK h6 a_8).2 = true) <|
  lt0 (wI h6 a_8 (ix x1) 0) fun h12 =>
  ((hR h12 a0 25)).bind fun a_14 =>
  ck ((hK h12 a_14).1 = 20) <|
  ck (inb x1 (hK h12 a_14).2 = true) <|
  lt0 (wI h12 a_14 (ix x1) 0) fun h18 =>
  ((hR h18 a0 26)).bind fun a_20 =>
  ck ((hK h18 a_20).1 = 20) <|
  ck (inb x1 (hK h18 a_20).2 = true) <|
  lt0 (wI h18 a_20 (ix x1) 20) fun h24 =>
  ((hR h24 a0 28)).bind fun a_26 =>
  ck ((hK h24 a_26).1 = 20) <|
  ck (inb x1 (hK h24 a_26).2 = true) <|
  lt0 (wI h24 a_26 (ix x1) 0) fun h30 =>
  some ((), h30)
set_option maxRecDepth 20000 in
theorem Mo_opens_ok (g : GT) (N : Nat) (a0 : Nat) (x1 : Int32) (h : PH) (v : Unit) (h' : PH) (hE : Mo_opens N a0 x1 h = some (v, h')) (D : Nat) (hD : 0 ≤ D) : Calls g D pMo_opens [va_rf (some a0), .int x1] h (oV v) h' := by
  refine Calls.of cok_Mo_opens ht_Mo_opens pl_Mo_opens (fun ad => by rw [lg_len, sL_cat]; simp only [List.map_cons, List.map_nil, rf_cat, cat_i, cat_l, List.sum_cons, List.sum_nil]; decide) ?_
  rw [show lv_args 0 [va_rf (some a0), .int x1] = [(0, va_rf (some a0)), (1, .int x1)] from (by simp only [lv_args, rf_cat, cat_i, cat_l]; try rfl)]
  unfold Mo_opens at hE
  refine r_aload_n (t := some a0) 0 rfl rfl rfl ?_
  obtain ⟨hk1, hE⟩ := ckE hE
  refine r_getR rfl (fl_11_45 rfl) (Or.inr ⟨_, rfl⟩) rfl hk1 ?_
  refine r_iload_n 1 rfl rfl rfl ?_
  refine r_iconst 0 rfl ci_0 ?_
  obtain ⟨a_2, ha3, hE⟩ := bnE hE
  obtain ⟨hk4, hE⟩ := ckE hE
  obtain ⟨hi5, hE⟩ := ckE hE
  obtain ⟨h6, he7, hE⟩ := ltE hE
  refine r_iast rfl ha3 hk4 hi5 he7 ?_
  refine r_aload_n (t := some a0) 0 rfl rfl rfl ?_
  refine r_getR rfl (fl_11_51 rfl) (Or.inr ⟨_, rfl⟩) rfl (kwI he7 hk1) ?_
  refine r_iload_n 1 rfl rfl rfl ?_
  refine r_iconst 0 rfl ci_0 ?_
  obtain ⟨a_8, ha9, hE⟩ := bnE hE
  obtain ⟨hk10, hE⟩ := ckE hE
  obtain ⟨hi11, hE⟩ := ckE hE
  obtain ⟨h12, he13, hE⟩ := ltE hE
  refine r_iast rfl ha9 hk10 hi11 he13 ?_
  refine r_aload_n (t := some a0) 0 rfl rfl rfl ?_
  refine r_getR rfl (fl_11_54 rfl) (Or.inr ⟨_, rfl⟩) rfl (kwI he13 (kwI he7 hk1)) ?_
  refine r_iload_n 1 rfl rfl rfl ?_
  refine r_iconst 0 rfl ci_0 ?_
  obtain ⟨a_14, ha15, hE⟩ := bnE hE
  obtain ⟨hk16, hE⟩ := ckE hE
  obtain ⟨hi17, hE⟩ := ckE hE
  obtain ⟨h18, he19, hE⟩ := ltE hE
  refine r_iast rfl ha15 hk16 hi17 he19 ?_
  refine r_aload_n (t := some a0) 0 rfl rfl rfl ?_
  refine r_getR rfl (fl_11_57 rfl) (Or.inr ⟨_, rfl⟩) rfl (kwI he19 (kwI he13 (kwI he7 hk1))) ?_
  refine r_iload_n 1 rfl rfl rfl ?_
  refine r_bipush 20 rfl cb_20 ?_
  obtain ⟨a_20, ha21, hE⟩ := bnE hE
  obtain ⟨hk22, hE⟩ := ckE hE
  obtain ⟨hi23, hE⟩ := ckE hE
  obtain ⟨h24, he25, hE⟩ := ltE hE
  refine r_iast rfl ha21 hk22 hi23 he25 ?_
  refine r_aload_n (t := some a0) 0 rfl rfl rfl ?_
  refine r_getR rfl (fl_11_63 rfl) (Or.inr ⟨_, rfl⟩) rfl (kwI he25 (kwI he19 (kwI he13 (kwI he7 hk1)))) ?_
  refine r_iload_n 1 rfl rfl rfl ?_
  refine r_iconst 0 rfl ci_0 ?_
  obtain ⟨a_26, ha27, hE⟩ := bnE hE
  obtain ⟨hk28, hE⟩ := ckE hE
  obtain ⟨hi29, hE⟩ := ckE hE
  obtain ⟨h30, he31, hE⟩ := ltE hE
  refine r_iast rfl ha27 hk28 hi29 he31 ?_
  cases hE
  exact r_ret rfl (Or.inr (Or.inr (Or.inr ⟨rfl, rfl, rfl, rfl⟩)))
def Mo_sums_b45 (N : Nat) (s0 : Option Nat) (s1 : Int32) (s2 : Int32) (a0 : Nat) (x1 : Int32) (h : PH) : Option (Unit × PH) :=
  (s0).bind fun a_1 =>
  ck ((hK h a_1).1 = 20) <|
  ck (inb s1 (hK h a_1).2 = true) <|
  lt0 (wI h a_1 (ix s1) s2) fun h5 =>
  ck ((hK h5 a0).1 = 11) <|
  ((hR h5 a0 28)).bind fun a_8 =>
  ck ((hK h5 a_8).1 = 20) <|
  ck (inb x1 (hK h5 a_8).2 = true) <|
  lt0 (wI h5 a_8 (ix x1) 0) fun h12 =>
  some ((), h12)
set_option maxRecDepth 20000 in
theorem Mo_sums_b45_ok (g : GT) (N : Nat) (D : Nat) (hD : 0 ≤ D) : ∀ (s0 : Option Nat) (s1 : Int32) (s2 : Int32) (a0 : Nat) (x1 : Int32) (h : PH) (v : Unit) (h' : PH), Mo_sums_b45 N s0 s1 s2 a0 x1 h = some (v, h') → Run g pMo_sums D 45 [(0, va_rf (some a0)), (1, .int x1)] [.int s2, .int s1, va_rf s0] h (rV v) h' := by
  intro s0 s1 s2 a0 x1 h v h' hE
  unfold Mo_sums_b45 at hE
  obtain ⟨a_1, ha2, hE⟩ := bnE hE
  obtain ⟨hk3, hE⟩ := ckE hE
  obtain ⟨hi4, hE⟩ := ckE hE
  obtain ⟨h5, he6, hE⟩ := ltE hE
  refine r_iast rfl ha2 hk3 hi4 he6 ?_
  refine r_aload_n (t := some a0) 0 rfl rfl rfl ?_
  obtain ⟨hk7, hE⟩ := ckE hE
  refine r_getR rfl (fl_11_63 rfl) (Or.inr ⟨_, rfl⟩) rfl hk7 ?_
  refine r_iload_n 1 rfl rfl rfl ?_
  refine r_iconst 0 rfl ci_0 ?_
  obtain ⟨a_8, ha9, hE⟩ := bnE hE
  obtain ⟨hk10, hE⟩ := ckE hE
  obtain ⟨hi11, hE⟩ := ckE hE
  obtain ⟨h12, he13, hE⟩ := ltE hE
  refine r_iast rfl ha9 hk10 hi11 he13 ?_
  cases hE
  exact r_ret rfl (Or.inr (Or.inr (Or.inr ⟨rfl, rfl, rfl, rfl⟩)))
def Mo_sums (N : Nat) (a0 : Nat) (x1 : Int32) (h : PH) : Option (Unit × PH) :=
  ck ((hK h a0).1 = 11) <|
  ((hR h a0 26)).bind fun a_2 =>
  ck ((hK h a_2).1 = 20) <|
  ck (inb x1 (hK h a_2).2 = true) <|
  if (hI h a_2 (ix x1)) = 21 then
    ((hR h a0 25)).bind fun a_7 =>
    ck ((hK h a_7).1 = 20) <|
    ck (inb x1 (hK h a_7).2 = true) <|
    ((hR h a0 27)).bind fun a_11 =>
    ck ((hK h a_11).1 = 20) <|
    ck (inb x1 (hK h a_11).2 = true) <|
    Mo_sums_b45 N  (hR h a0 25) x1 ((hI h a_7 (ix x1)) - (hI h a_11 (ix x1))) a0 x1 h
  else
    ((hR h a0 25)).bind fun a_15 =>
    ck ((hK h a_15).1 = 20) <|
    ck (inb x1 (hK h a_15).2 = true) <|
    ((hR h a0 27)).bind fun a_19 =>
    ck ((hK h a_19).1 = 20) <|
    ck (inb x1 (hK h a_19).2 = true) <|
    Mo_sums_b45 N  (hR h a0 25) x1 ((hI h a_15 (ix x1)) + (hI h a_19 (ix x1))) a0 x1 h
set_option maxRecDepth 20000 in
theorem Mo_sums_ok (g : GT) (N : Nat) (a0 : Nat) (x1 : Int32) (h : PH) (v : Unit) (h' : PH) (hE : Mo_sums N a0 x1 h = some (v, h')) (D : Nat) (hD : 0 ≤ D) : Calls g D pMo_sums [va_rf (some a0), .int x1] h (oV v) h' := by
  refine Calls.of cok_Mo_sums ht_Mo_sums pl_Mo_sums (fun ad => by rw [lg_len, sL_cat]; simp only [List.map_cons, List.map_nil, rf_cat, cat_i, cat_l, List.sum_cons, List.sum_nil]; decide) ?_
  rw [show lv_args 0 [va_rf (some a0), .int x1] = [(0, va_rf (some a0)), (1, .int x1)] from (by simp only [lv_args, rf_cat, cat_i, cat_l]; try rfl)]
  unfold Mo_sums at hE
  refine r_aload_n (t := some a0) 0 rfl rfl rfl ?_
  obtain ⟨hk1, hE⟩ := ckE hE
  refine r_getR rfl (fl_11_54 rfl) (Or.inr ⟨_, rfl⟩) rfl hk1 ?_
  refine r_iload_n 1 rfl rfl rfl ?_
  refine r_aload_n (t := some a0) 0 rfl rfl rfl ?_
  refine r_getR rfl (fl_11_57 rfl) (Or.inr ⟨_, rfl⟩) rfl hk1 ?_
  refine r_iload_n 1 rfl rfl rfl ?_
  obtain ⟨a_2, ha3, hE⟩ := bnE hE
  obtain ⟨hk4, hE⟩ := ckE hE
  obtain ⟨hi5, hE⟩ := ckE hE
  refine r_iald rfl ha3 hk4 hi5 ?_
  refine r_bipush 21 rfl cb_21 ?_
  refine r_icmp_ne (tgt := 32) rfl (by decide) (fun hc6 => ?_) (fun hc6 => ?_)
  · have hE := ifP hc6 hE
    refine r_aload_n (t := some a0) 0 rfl rfl rfl ?_
    refine r_getR rfl (fl_11_54 rfl) (Or.inr ⟨_, rfl⟩) rfl hk1 ?_
    refine r_iload_n 1 rfl rfl rfl ?_
    obtain ⟨a_7, ha8, hE⟩ := bnE hE
    obtain ⟨hk9, hE⟩ := ckE hE
    obtain ⟨hi10, hE⟩ := ckE hE
    refine r_iald rfl ha8 hk9 hi10 ?_
    refine r_aload_n (t := some a0) 0 rfl rfl rfl ?_
    refine r_getR rfl (fl_11_60 rfl) (Or.inr ⟨_, rfl⟩) rfl hk1 ?_
    refine r_iload_n 1 rfl rfl rfl ?_
    obtain ⟨a_11, ha12, hE⟩ := bnE hE
    obtain ⟨hk13, hE⟩ := ckE hE
    obtain ⟨hi14, hE⟩ := ckE hE
    refine r_iald rfl ha12 hk13 hi14 ?_
    refine r_isub rfl ?_
    refine r_goto (tgt := 45) rfl (by decide) ?_
    first | exact r_sb (Mo_sums_b45_ok g N _ hD   _ _ _ _ _ _ _ _ hE) ⟨rfl, rfl, trivial⟩ | exact r_sb (Mo_sums_b45_ok g N _ hD   _ _ _ _ _ _ _ _ hE) (by simp only [su1, su2, dr1_rf, dr1_in, dr1_lo, dr2_rf, dr2_in, dr2_lo]; exact ⟨rfl, rfl, trivial⟩)
  · have hE := ifN hc6 hE
    refine r_aload_n (t := some a0) 0 rfl rfl rfl ?_
    refine r_getR rfl (fl_11_54 rfl) (Or.inr ⟨_, rfl⟩) rfl hk1 ?_
    refine r_iload_n 1 rfl rfl rfl ?_
    obtain ⟨a_15, ha16, hE⟩ := bnE hE
    obtain ⟨hk17, hE⟩ := ckE hE
    obtain ⟨hi18, hE⟩ := ckE hE
    refine r_iald rfl ha16 hk17 hi18 ?_
    refine r_aload_n (t := some a0) 0 rfl rfl rfl ?_
    refine r_getR rfl (fl_11_60 rfl) (Or.inr ⟨_, rfl⟩) rfl hk1 ?_
    refine r_iload_n 1 rfl rfl rfl ?_
    obtain ⟨a_19, ha20, hE⟩ := bnE hE
    obtain ⟨hk21, hE⟩ := ckE hE
    obtain ⟨hi22, hE⟩ := ckE hE
    refine r_iald rfl ha20 hk21 hi22 ?_
    refine r_iadd rfl ?_
    first | exact r_sb (Mo_sums_b45_ok g N _ hD   _ _ _ _ _ _ _ _ hE) ⟨rfl, rfl, trivial⟩ | exact r_sb (Mo_sums_b45_ok g N _ hD   _ _ _ _ _ _ _ _ hE) (by simp only [su1, su2, dr1_rf, dr1_in, dr1_lo, dr2_rf, dr2_in, dr2_lo]; exact ⟨rfl, rfl, trivial⟩)
def Mo_tests_b136 (N : Nat) (a0 : Nat) (x1 : Int32) (x2 : Int32) (h : PH) : Option (Unit × PH) :=
  ck ((hK h a0).1 = 11) <|
  ((hR h a0 21)).bind fun a_2 =>
  ck ((hK h a_2).1 = 20) <|
  ck (inb x1 (hK h a_2).2 = true) <|
  lt0 (wI h a_2 (ix x1) x2) fun h6 =>
  ((hR h6 a0 24)).bind fun a_8 =>
  ck ((hK h6 a_8).1 = 20) <|
  ck (inb x1 (hK h6 a_8).2 = true) <|
  lt0 (wI h6 a_8 (ix x1) 0) fun h12 =>
  ((hR h12 a0 25)).bind fun a_14 =>
  ck ((hK h12 a_14).1 = 20) <|
  ck (inb x1 (hK h12 a_14).2 = true) <|
  lt0 (wI h12 a_14 (ix x1) 0) fun h18 =>
  ((hR h18 a0 26)).bind fun a_20 =>
  ck ((hK h18 a_20).1 = 20) <|
  ck (inb x1 (hK h18 a_20).2 = true) <|
  lt0 (wI h18 a_20 (ix x1) 20) fun h24 =>
  some ((), h24)
set_option maxRecDepth 20000 in
theorem Mo_tests_b136_ok (g : GT) (N : Nat) (D : Nat) (hD : 1 ≤ D) : ∀ (a0 : Nat) (x1 : Int32) (x2 : Int32) (h : PH) (v : Unit) (h' : PH), Mo_tests_b136 N a0 x1 x2 h = some (v, h') → Run g pMo_tests D 136 [(0, va_rf (some a0)), (1, .int x1), (2, .int x2)] [] h (rV v) h' := by
  obtain ⟨D2, rfl⟩ : ∃ d, D = d + 1 := ⟨D - 1, by omega⟩
  intro a0 x1 x2 h v h' hE
  unfold Mo_tests_b136 at hE
  refine r_aload_n (t := some a0) 0 rfl rfl rfl ?_
  obtain ⟨hk1, hE⟩ := ckE hE
  refine r_getR rfl (fl_11_42 rfl) (Or.inr ⟨_, rfl⟩) rfl hk1 ?_
  refine r_iload_n 1 rfl rfl rfl ?_
  refine r_iload_n 2 rfl rfl rfl ?_
  obtain ⟨a_2, ha3, hE⟩ := bnE hE
  obtain ⟨hk4, hE⟩ := ckE hE
  obtain ⟨hi5, hE⟩ := ckE hE
  obtain ⟨h6, he7, hE⟩ := ltE hE
  refine r_iast rfl ha3 hk4 hi5 he7 ?_
  refine r_aload_n (t := some a0) 0 rfl rfl rfl ?_
  refine r_getR rfl (fl_11_51 rfl) (Or.inr ⟨_, rfl⟩) rfl (kwI he7 hk1) ?_
  refine r_iload_n 1 rfl rfl rfl ?_
  refine r_iconst 0 rfl ci_0 ?_
  obtain ⟨a_8, ha9, hE⟩ := bnE hE
  obtain ⟨hk10, hE⟩ := ckE hE
  obtain ⟨hi11, hE⟩ := ckE hE
  obtain ⟨h12, he13, hE⟩ := ltE hE
  refine r_iast rfl ha9 hk10 hi11 he13 ?_
  refine r_aload_n (t := some a0) 0 rfl rfl rfl ?_
  refine r_getR rfl (fl_11_54 rfl) (Or.inr ⟨_, rfl⟩) rfl (kwI he13 (kwI he7 hk1)) ?_
  refine r_iload_n 1 rfl rfl rfl ?_
  refine r_iconst 0 rfl ci_0 ?_
  obtain ⟨a_14, ha15, hE⟩ := bnE hE
  obtain ⟨hk16, hE⟩ := ckE hE
  obtain ⟨hi17, hE⟩ := ckE hE
  obtain ⟨h18, he19, hE⟩ := ltE hE
  refine r_iast rfl ha15 hk16 hi17 he19 ?_
  refine r_aload_n (t := some a0) 0 rfl rfl rfl ?_
  refine r_getR rfl (fl_11_57 rfl) (Or.inr ⟨_, rfl⟩) rfl (kwI he19 (kwI he13 (kwI he7 hk1))) ?_
  refine r_iload_n 1 rfl rfl rfl ?_
  refine r_bipush 20 rfl cb_20 ?_
  obtain ⟨a_20, ha21, hE⟩ := bnE hE
  obtain ⟨hk22, hE⟩ := ckE hE
  obtain ⟨hi23, hE⟩ := ckE hE
  obtain ⟨h24, he25, hE⟩ := ltE hE
  refine r_iast rfl ha21 hk22 hi23 he25 ?_
  cases hE
  exact r_ret rfl (Or.inr (Or.inr (Or.inr ⟨rfl, rfl, rfl, rfl⟩)))
def Mo_tests_b135 (N : Nat) (s0 : Int32) (a0 : Nat) (x1 : Int32) (h : PH) : Option (Unit × PH) :=
  Mo_tests_b136 N  a0 x1 s0 h
set_option maxRecDepth 20000 in
theorem Mo_tests_b135_ok (g : GT) (N : Nat) (D : Nat) (hD : 1 ≤ D) : ∀ (s0 : Int32) (a0 : Nat) (x1 : Int32) (h : PH) (v : Unit) (h' : PH), Mo_tests_b135 N s0 a0 x1 h = some (v, h') → Run g pMo_tests D 135 [(0, va_rf (some a0)), (1, .int x1)] [.int s0] h (rV v) h' := by
  obtain ⟨D2, rfl⟩ : ∃ d, D = d + 1 := ⟨D - 1, by omega⟩
  intro s0 a0 x1 h v h' hE
  unfold Mo_tests_b135 at hE
  refine r_istore_n 2 rfl rfl (by decide) ?_
  first | exact r_sb (Mo_tests_b136_ok g N _ hD   _ _ _ _ _ _ hE) ⟨rfl, rfl, rfl, trivial⟩ | exact r_sb (Mo_tests_b136_ok g N _ hD   _ _ _ _ _ _ hE) (by simp only [su1, su2, dr1_rf, dr1_in, dr1_lo, dr2_rf, dr2_in, dr2_lo]; exact ⟨rfl, rfl, rfl, trivial⟩)
def Mo_tests_b130 (N : Nat) (a0 : Nat) (x1 : Int32) (h : PH) : Option (Unit × PH) :=
  Mo_tests_b135 N  1 a0 x1 h
set_option maxRecDepth 20000 in
theorem Mo_tests_b130_ok (g : GT) (N : Nat) (D : Nat) (hD : 1 ≤ D) : ∀ (a0 : Nat) (x1 : Int32) (h : PH) (v : Unit) (h' : PH), Mo_tests_b130 N a0 x1 h = some (v, h') → Run g pMo_tests D 130 [(0, va_rf (some a0)), (1, .int x1)] [] h (rV v) h' := by
  obtain ⟨D2, rfl⟩ : ∃ d, D = d + 1 := ⟨D - 1, by omega⟩
  intro a0 x1 h v h' hE
  unfold Mo_tests_b130 at hE
  refine r_iconst 1 rfl ci_1 ?_
  refine r_goto (tgt := 135) rfl (by decide) ?_
  first | exact r_sb (Mo_tests_b135_ok g N _ hD   _ _ _ _ _ _ hE) ⟨rfl, rfl, trivial⟩ | exact r_sb (Mo_tests_b135_ok g N _ hD   _ _ _ _ _ _ hE) (by simp only [su1, su2, dr1_rf, dr1_in, dr1_lo, dr2_rf, dr2_in, dr2_lo]; exact ⟨rfl, rfl, trivial⟩)
def Mo_tests_b106 (N : Nat) (a0 : Nat) (x1 : Int32) (x2 : Int32) (h : PH) : Option (Unit × PH) :=
  ck ((hK h a0).1 = 11) <|
  ((hR h a0 22)).bind fun a_2 =>
  ck ((hK h a_2).1 = 20) <|
  ck (inb x1 (hK h a_2).2 = true) <|
  if (hI h a_2 (ix x1)) = 27 then
    ((hR h a0 21)).bind fun a_7 =>
    ck ((hK h a_7).1 = 20) <|
    ck (inb x1 (hK h a_7).2 = true) <|
    if (hI h a_7 (ix x1)) = 0 then
      if x2 = 0 then
        Mo_tests_b135 N  0 a0 x1 h
      else
        Mo_tests_b130 N  a0 x1 h
    else
      Mo_tests_b130 N  a0 x1 h
  else
    Mo_tests_b136 N  a0 x1 x2 h
set_option maxRecDepth 20000 in
theorem Mo_tests_b106_ok (g : GT) (N : Nat) (D : Nat) (hD : 1 ≤ D) : ∀ (a0 : Nat) (x1 : Int32) (x2 : Int32) (h : PH) (v : Unit) (h' : PH), Mo_tests_b106 N a0 x1 x2 h = some (v, h') → Run g pMo_tests D 106 [(0, va_rf (some a0)), (1, .int x1), (2, .int x2)] [] h (rV v) h' := by
  obtain ⟨D2, rfl⟩ : ∃ d, D = d + 1 := ⟨D - 1, by omega⟩
  intro a0 x1 x2 h v h' hE
  unfold Mo_tests_b106 at hE
  refine r_aload_n (t := some a0) 0 rfl rfl rfl ?_
  obtain ⟨hk1, hE⟩ := ckE hE
  refine r_getR rfl (fl_11_45 rfl) (Or.inr ⟨_, rfl⟩) rfl hk1 ?_
  refine r_iload_n 1 rfl rfl rfl ?_
  obtain ⟨a_2, ha3, hE⟩ := bnE hE
  obtain ⟨hk4, hE⟩ := ckE hE
  obtain ⟨hi5, hE⟩ := ckE hE
  refine r_iald rfl ha3 hk4 hi5 ?_
  refine r_bipush 27 rfl cb_27 ?_
  refine r_icmp_ne (tgt := 136) rfl (by decide) (fun hc6 => ?_) (fun hc6 => ?_)
  · have hE := ifP hc6 hE
    refine r_aload_n (t := some a0) 0 rfl rfl rfl ?_
    refine r_getR rfl (fl_11_42 rfl) (Or.inr ⟨_, rfl⟩) rfl hk1 ?_
    refine r_iload_n 1 rfl rfl rfl ?_
    obtain ⟨a_7, ha8, hE⟩ := bnE hE
    obtain ⟨hk9, hE⟩ := ckE hE
    obtain ⟨hi10, hE⟩ := ckE hE
    refine r_iald rfl ha8 hk9 hi10 ?_
    refine r_if_ne (tgt := 130) rfl (by decide) (fun hc11 => ?_) (fun hc11 => ?_)
    · have hE := ifP hc11 hE
      refine r_iload_n 2 rfl rfl rfl ?_
      refine r_if_eq (tgt := 134) rfl (by decide) (fun hc12 => ?_) (fun hc12 => ?_)
      · have hE := ifP hc12 hE
        refine r_iconst 0 rfl ci_0 ?_
        first | exact r_sb (Mo_tests_b135_ok g N _ hD   _ _ _ _ _ _ hE) ⟨rfl, rfl, trivial⟩ | exact r_sb (Mo_tests_b135_ok g N _ hD   _ _ _ _ _ _ hE) (by simp only [su1, su2, dr1_rf, dr1_in, dr1_lo, dr2_rf, dr2_in, dr2_lo]; exact ⟨rfl, rfl, trivial⟩)
      · have hE := ifN hc12 hE
        first | exact r_sb (Mo_tests_b130_ok g N _ hD   _ _ _ _ _ hE) ⟨rfl, rfl, trivial⟩ | exact r_sb (Mo_tests_b130_ok g N _ hD   _ _ _ _ _ hE) (by simp only [su1, su2, dr1_rf, dr1_in, dr1_lo, dr2_rf, dr2_in, dr2_lo]; exact ⟨rfl, rfl, trivial⟩)
    · have hE := ifN hc11 hE
      first | exact r_sb (Mo_tests_b130_ok g N _ hD   _ _ _ _ _ hE) ⟨rfl, rfl, trivial⟩ | exact r_sb (Mo_tests_b130_ok g N _ hD   _ _ _ _ _ hE) (by simp only [su1, su2, dr1_rf, dr1_in, dr1_lo, dr2_rf, dr2_in, dr2_lo]; exact ⟨rfl, rfl, trivial⟩)
  · have hE := ifN hc6 hE
    first | exact r_sb (Mo_tests_b136_ok g N _ hD   _ _ _ _ _ _ hE) ⟨rfl, rfl, rfl, trivial⟩ | exact r_sb (Mo_tests_b136_ok g N _ hD   _ _ _ _ _ _ hE) (by simp only [su1, su2, dr1_rf, dr1_in, dr1_lo, dr2_rf, dr2_in, dr2_lo]; exact ⟨rfl, rfl, rfl, trivial⟩)
def Mo_tests_b105 (N : Nat) (s0 : Int32) (a0 : Nat) (x1 : Int32) (h : PH) : Option (Unit × PH) :=
  Mo_tests_b106 N  a0 x1 s0 h
set_option maxRecDepth 20000 in
theorem Mo_tests_b105_ok (g : GT) (N : Nat) (D : Nat) (hD : 1 ≤ D) : ∀ (s0 : Int32) (a0 : Nat) (x1 : Int32) (h : PH) (v : Unit) (h' : PH), Mo_tests_b105 N s0 a0 x1 h = some (v, h') → Run g pMo_tests D 105 [(0, va_rf (some a0)), (1, .int x1)] [.int s0] h (rV v) h' := by
  obtain ⟨D2, rfl⟩ : ∃ d, D = d + 1 := ⟨D - 1, by omega⟩
  intro s0 a0 x1 h v h' hE
  unfold Mo_tests_b105 at hE
  refine r_istore_n 2 rfl rfl (by decide) ?_
  first | exact r_sb (Mo_tests_b106_ok g N _ hD   _ _ _ _ _ _ hE) ⟨rfl, rfl, rfl, trivial⟩ | exact r_sb (Mo_tests_b106_ok g N _ hD   _ _ _ _ _ _ hE) (by simp only [su1, su2, dr1_rf, dr1_in, dr1_lo, dr2_rf, dr2_in, dr2_lo]; exact ⟨rfl, rfl, rfl, trivial⟩)
def Mo_tests_b104 (N : Nat) (a0 : Nat) (x1 : Int32) (h : PH) : Option (Unit × PH) :=
  Mo_tests_b105 N  0 a0 x1 h
set_option maxRecDepth 20000 in
theorem Mo_tests_b104_ok (g : GT) (N : Nat) (D : Nat) (hD : 1 ≤ D) : ∀ (a0 : Nat) (x1 : Int32) (h : PH) (v : Unit) (h' : PH), Mo_tests_b104 N a0 x1 h = some (v, h') → Run g pMo_tests D 104 [(0, va_rf (some a0)), (1, .int x1)] [] h (rV v) h' := by
  obtain ⟨D2, rfl⟩ : ∃ d, D = d + 1 := ⟨D - 1, by omega⟩
  intro a0 x1 h v h' hE
  unfold Mo_tests_b104 at hE
  refine r_iconst 0 rfl ci_0 ?_
  first | exact r_sb (Mo_tests_b105_ok g N _ hD   _ _ _ _ _ _ hE) ⟨rfl, rfl, trivial⟩ | exact r_sb (Mo_tests_b105_ok g N _ hD   _ _ _ _ _ _ hE) (by simp only [su1, su2, dr1_rf, dr1_in, dr1_lo, dr2_rf, dr2_in, dr2_lo]; exact ⟨rfl, rfl, trivial⟩)
def Mo_tests_b76 (N : Nat) (a0 : Nat) (x1 : Int32) (x2 : Int32) (h : PH) : Option (Unit × PH) :=
  ck ((hK h a0).1 = 11) <|
  ((hR h a0 22)).bind fun a_2 =>
  ck ((hK h a_2).1 = 20) <|
  ck (inb x1 (hK h a_2).2 = true) <|
  if (hI h a_2 (ix x1)) = 26 then
    ((hR h a0 21)).bind fun a_7 =>
    ck ((hK h a_7).1 = 20) <|
    ck (inb x1 (hK h a_7).2 = true) <|
    if (hI h a_7 (ix x1)) = 0 then
      Mo_tests_b104 N  a0 x1 h
    else
      if x2 = 0 then
        Mo_tests_b104 N  a0 x1 h
      else
        Mo_tests_b105 N  1 a0 x1 h
  else
    Mo_tests_b106 N  a0 x1 x2 h
set_option maxRecDepth 20000 in
theorem Mo_tests_b76_ok (g : GT) (N : Nat) (D : Nat) (hD : 1 ≤ D) : ∀ (a0 : Nat) (x1 : Int32) (x2 : Int32) (h : PH) (v : Unit) (h' : PH), Mo_tests_b76 N a0 x1 x2 h = some (v, h') → Run g pMo_tests D 76 [(0, va_rf (some a0)), (1, .int x1), (2, .int x2)] [] h (rV v) h' := by
  obtain ⟨D2, rfl⟩ : ∃ d, D = d + 1 := ⟨D - 1, by omega⟩
  intro a0 x1 x2 h v h' hE
  unfold Mo_tests_b76 at hE
  refine r_aload_n (t := some a0) 0 rfl rfl rfl ?_
  obtain ⟨hk1, hE⟩ := ckE hE
  refine r_getR rfl (fl_11_45 rfl) (Or.inr ⟨_, rfl⟩) rfl hk1 ?_
  refine r_iload_n 1 rfl rfl rfl ?_
  obtain ⟨a_2, ha3, hE⟩ := bnE hE
  obtain ⟨hk4, hE⟩ := ckE hE
  obtain ⟨hi5, hE⟩ := ckE hE
  refine r_iald rfl ha3 hk4 hi5 ?_
  refine r_bipush 26 rfl cb_26 ?_
  refine r_icmp_ne (tgt := 106) rfl (by decide) (fun hc6 => ?_) (fun hc6 => ?_)
  · have hE := ifP hc6 hE
    refine r_aload_n (t := some a0) 0 rfl rfl rfl ?_
    refine r_getR rfl (fl_11_42 rfl) (Or.inr ⟨_, rfl⟩) rfl hk1 ?_
    refine r_iload_n 1 rfl rfl rfl ?_
    obtain ⟨a_7, ha8, hE⟩ := bnE hE
    obtain ⟨hk9, hE⟩ := ckE hE
    obtain ⟨hi10, hE⟩ := ckE hE
    refine r_iald rfl ha8 hk9 hi10 ?_
    refine r_if_eq (tgt := 104) rfl (by decide) (fun hc11 => ?_) (fun hc11 => ?_)
    · have hE := ifP hc11 hE
      first | exact r_sb (Mo_tests_b104_ok g N _ hD   _ _ _ _ _ hE) ⟨rfl, rfl, trivial⟩ | exact r_sb (Mo_tests_b104_ok g N _ hD   _ _ _ _ _ hE) (by simp only [su1, su2, dr1_rf, dr1_in, dr1_lo, dr2_rf, dr2_in, dr2_lo]; exact ⟨rfl, rfl, trivial⟩)
    · have hE := ifN hc11 hE
      refine r_iload_n 2 rfl rfl rfl ?_
      refine r_if_eq (tgt := 104) rfl (by decide) (fun hc12 => ?_) (fun hc12 => ?_)
      · have hE := ifP hc12 hE
        first | exact r_sb (Mo_tests_b104_ok g N _ hD   _ _ _ _ _ hE) ⟨rfl, rfl, trivial⟩ | exact r_sb (Mo_tests_b104_ok g N _ hD   _ _ _ _ _ hE) (by simp only [su1, su2, dr1_rf, dr1_in, dr1_lo, dr2_rf, dr2_in, dr2_lo]; exact ⟨rfl, rfl, trivial⟩)
      · have hE := ifN hc12 hE
        refine r_iconst 1 rfl ci_1 ?_
        refine r_goto (tgt := 105) rfl (by decide) ?_
        first | exact r_sb (Mo_tests_b105_ok g N _ hD   _ _ _ _ _ _ hE) ⟨rfl, rfl, trivial⟩ | exact r_sb (Mo_tests_b105_ok g N _ hD   _ _ _ _ _ _ hE) (by simp only [su1, su2, dr1_rf, dr1_in, dr1_lo, dr2_rf, dr2_in, dr2_lo]; exact ⟨rfl, rfl, trivial⟩)
  · have hE := ifN hc6 hE
    first | exact r_sb (Mo_tests_b106_ok g N _ hD   _ _ _ _ _ _ hE) ⟨rfl, rfl, rfl, trivial⟩ | exact r_sb (Mo_tests_b106_ok g N _ hD   _ _ _ _ _ _ hE) (by simp only [su1, su2, dr1_rf, dr1_in, dr1_lo, dr2_rf, dr2_in, dr2_lo]; exact ⟨rfl, rfl, rfl, trivial⟩)
def Mo_tests_b75 (N : Nat) (s0 : Int32) (a0 : Nat) (x1 : Int32) (h : PH) : Option (Unit × PH) :=
  Mo_tests_b76 N  a0 x1 s0 h
set_option maxRecDepth 20000 in
theorem Mo_tests_b75_ok (g : GT) (N : Nat) (D : Nat) (hD : 1 ≤ D) : ∀ (s0 : Int32) (a0 : Nat) (x1 : Int32) (h : PH) (v : Unit) (h' : PH), Mo_tests_b75 N s0 a0 x1 h = some (v, h') → Run g pMo_tests D 75 [(0, va_rf (some a0)), (1, .int x1)] [.int s0] h (rV v) h' := by
  obtain ⟨D2, rfl⟩ : ∃ d, D = d + 1 := ⟨D - 1, by omega⟩
  intro s0 a0 x1 h v h' hE
  unfold Mo_tests_b75 at hE
  refine r_istore_n 2 rfl rfl (by decide) ?_
  first | exact r_sb (Mo_tests_b76_ok g N _ hD   _ _ _ _ _ _ hE) ⟨rfl, rfl, rfl, trivial⟩ | exact r_sb (Mo_tests_b76_ok g N _ hD   _ _ _ _ _ _ hE) (by simp only [su1, su2, dr1_rf, dr1_in, dr1_lo, dr2_rf, dr2_in, dr2_lo]; exact ⟨rfl, rfl, rfl, trivial⟩)
def Mo_tests_b44 (N : Nat) (a0 : Nat) (x1 : Int32) (x2 : Int32) (h : PH) : Option (Unit × PH) :=
  ck ((hK h a0).1 = 11) <|
  ((hR h a0 24)).bind fun a_2 =>
  ck ((hK h a_2).1 = 20) <|
  ck (inb x1 (hK h a_2).2 = true) <|
  if (hI h a_2 (ix x1)) = 25 then
    ((hR h a0 23)).bind fun a_7 =>
    ck ((hK h a_7).1 = 20) <|
    ck (inb x1 (hK h a_7).2 = true) <|
    ((hR h a0 25)).bind fun a_11 =>
    ck ((hK h a_11).1 = 20) <|
    ck (inb x1 (hK h a_11).2 = true) <|
    if (hI h a_7 (ix x1)) = (hI h a_11 (ix x1)) then
      Mo_tests_b75 N  1 a0 x1 h
    else
      Mo_tests_b75 N  0 a0 x1 h
  else
    Mo_tests_b76 N  a0 x1 x2 h
set_option maxRecDepth 20000 in
theorem Mo_tests_b44_ok (g : GT) (N : Nat) (D : Nat) (hD : 1 ≤ D) : ∀ (a0 : Nat) (x1 : Int32) (x2 : Int32) (h : PH) (v : Unit) (h' : PH), Mo_tests_b44 N a0 x1 x2 h = some (v, h') → Run g pMo_tests D 44 [(0, va_rf (some a0)), (1, .int x1), (2, .int x2)] [] h (rV v) h' := by
  obtain ⟨D2, rfl⟩ : ∃ d, D = d + 1 := ⟨D - 1, by omega⟩
  intro a0 x1 x2 h v h' hE
  unfold Mo_tests_b44 at hE
  refine r_aload_n (t := some a0) 0 rfl rfl rfl ?_
  obtain ⟨hk1, hE⟩ := ckE hE
  refine r_getR rfl (fl_11_51 rfl) (Or.inr ⟨_, rfl⟩) rfl hk1 ?_
  refine r_iload_n 1 rfl rfl rfl ?_
  obtain ⟨a_2, ha3, hE⟩ := bnE hE
  obtain ⟨hk4, hE⟩ := ckE hE
  obtain ⟨hi5, hE⟩ := ckE hE
  refine r_iald rfl ha3 hk4 hi5 ?_
  refine r_bipush 25 rfl cb_25 ?_
  refine r_icmp_ne (tgt := 76) rfl (by decide) (fun hc6 => ?_) (fun hc6 => ?_)
  · have hE := ifP hc6 hE
    refine r_aload_n (t := some a0) 0 rfl rfl rfl ?_
    refine r_getR rfl (fl_11_48 rfl) (Or.inr ⟨_, rfl⟩) rfl hk1 ?_
    refine r_iload_n 1 rfl rfl rfl ?_
    obtain ⟨a_7, ha8, hE⟩ := bnE hE
    obtain ⟨hk9, hE⟩ := ckE hE
    obtain ⟨hi10, hE⟩ := ckE hE
    refine r_iald rfl ha8 hk9 hi10 ?_
    refine r_aload_n (t := some a0) 0 rfl rfl rfl ?_
    refine r_getR rfl (fl_11_54 rfl) (Or.inr ⟨_, rfl⟩) rfl hk1 ?_
    refine r_iload_n 1 rfl rfl rfl ?_
    obtain ⟨a_11, ha12, hE⟩ := bnE hE
    obtain ⟨hk13, hE⟩ := ckE hE
    obtain ⟨hi14, hE⟩ := ckE hE
    refine r_iald rfl ha12 hk13 hi14 ?_
    refine r_icmp_ne (tgt := 74) rfl (by decide) (fun hc15 => ?_) (fun hc15 => ?_)
    · have hE := ifP hc15 hE
      refine r_iconst 1 rfl ci_1 ?_
      refine r_goto (tgt := 75) rfl (by decide) ?_
      first | exact r_sb (Mo_tests_b75_ok g N _ hD   _ _ _ _ _ _ hE) ⟨rfl, rfl, trivial⟩ | exact r_sb (Mo_tests_b75_ok g N _ hD   _ _ _ _ _ _ hE) (by simp only [su1, su2, dr1_rf, dr1_in, dr1_lo, dr2_rf, dr2_in, dr2_lo]; exact ⟨rfl, rfl, trivial⟩)
    · have hE := ifN hc15 hE
      refine r_iconst 0 rfl ci_0 ?_
      first | exact r_sb (Mo_tests_b75_ok g N _ hD   _ _ _ _ _ _ hE) ⟨rfl, rfl, trivial⟩ | exact r_sb (Mo_tests_b75_ok g N _ hD   _ _ _ _ _ _ hE) (by simp only [su1, su2, dr1_rf, dr1_in, dr1_lo, dr2_rf, dr2_in, dr2_lo]; exact ⟨rfl, rfl, trivial⟩)
  · have hE := ifN hc6 hE
    first | exact r_sb (Mo_tests_b76_ok g N _ hD   _ _ _ _ _ _ hE) ⟨rfl, rfl, rfl, trivial⟩ | exact r_sb (Mo_tests_b76_ok g N _ hD   _ _ _ _ _ _ hE) (by simp only [su1, su2, dr1_rf, dr1_in, dr1_lo, dr2_rf, dr2_in, dr2_lo]; exact ⟨rfl, rfl, rfl, trivial⟩)
def Mo_tests_b43 (N : Nat) (s0 : Int32) (a0 : Nat) (x1 : Int32) (h : PH) : Option (Unit × PH) :=
  Mo_tests_b44 N  a0 x1 s0 h
set_option maxRecDepth 20000 in
theorem Mo_tests_b43_ok (g : GT) (N : Nat) (D : Nat) (hD : 1 ≤ D) : ∀ (s0 : Int32) (a0 : Nat) (x1 : Int32) (h : PH) (v : Unit) (h' : PH), Mo_tests_b43 N s0 a0 x1 h = some (v, h') → Run g pMo_tests D 43 [(0, va_rf (some a0)), (1, .int x1)] [.int s0] h (rV v) h' := by
  obtain ⟨D2, rfl⟩ : ∃ d, D = d + 1 := ⟨D - 1, by omega⟩
  intro s0 a0 x1 h v h' hE
  unfold Mo_tests_b43 at hE
  refine r_istore_n 2 rfl rfl (by decide) ?_
  first | exact r_sb (Mo_tests_b44_ok g N _ hD   _ _ _ _ _ _ hE) ⟨rfl, rfl, rfl, trivial⟩ | exact r_sb (Mo_tests_b44_ok g N _ hD   _ _ _ _ _ _ hE) (by simp only [su1, su2, dr1_rf, dr1_in, dr1_lo, dr2_rf, dr2_in, dr2_lo]; exact ⟨rfl, rfl, rfl, trivial⟩)
def Mo_tests (N : Nat) (a0 : Nat) (x1 : Int32) (h : PH) : Option (Unit × PH) :=
  ck ((hK h a0).1 = 11) <|
  bd (Mo_sums N a0 x1 h) fun v2 h3 =>
  ck ((hK h3 a0).1 = 11) <|
  ((hR h3 a0 25)).bind fun a_6 =>
  ck ((hK h3 a_6).1 = 20) <|
  ck (inb x1 (hK h3 a_6).2 = true) <|
  ((hR h3 a0 24)).bind fun a_10 =>
  ck ((hK h3 a_10).1 = 20) <|
  ck (inb x1 (hK h3 a_10).2 = true) <|
  if (hI h3 a_10 (ix x1)) = 24 then
    ((hR h3 a0 23)).bind fun a_15 =>
    ck ((hK h3 a_15).1 = 20) <|
    ck (inb x1 (hK h3 a_15).2 = true) <|
    ck (inb x1 (hK h3 a_6).2 = true) <|
    if (hI h3 a_6 (ix x1)) ≤ (hI h3 a_15 (ix x1)) then
      Mo_tests_b43 N  0 a0 x1 h3
    else
      Mo_tests_b43 N  1 a0 x1 h3
  else
    Mo_tests_b44 N  a0 x1 (hI h3 a_6 (ix x1)) h3
set_option maxRecDepth 20000 in
theorem Mo_tests_ok (g : GT) (N : Nat) (a0 : Nat) (x1 : Int32) (h : PH) (v : Unit) (h' : PH) (hE : Mo_tests N a0 x1 h = some (v, h')) (D : Nat) (hD : 1 ≤ D) : Calls g D pMo_tests [va_rf (some a0), .int x1] h (oV v) h' := by
  refine Calls.of cok_Mo_tests ht_Mo_tests pl_Mo_tests (fun ad => by rw [lg_len, sL_cat]; simp only [List.map_cons, List.map_nil, rf_cat, cat_i, cat_l, List.sum_cons, List.sum_nil]; decide) ?_
  rw [show lv_args 0 [va_rf (some a0), .int x1] = [(0, va_rf (some a0)), (1, .int x1)] from (by simp only [lv_args, rf_cat, cat_i, cat_l]; try rfl)]
  obtain ⟨D2, rfl⟩ : ∃ d, D = d + 1 := ⟨D - 1, by omega⟩
  unfold Mo_tests at hE
  refine r_aload_n (t := some a0) 0 rfl rfl rfl ?_
  refine r_iload_n 1 rfl rfl rfl ?_
  obtain ⟨hk1, hE⟩ := ckE hE
  obtain ⟨v2, h3, hq4, hE⟩ := bdE hE
  refine r_callV0 (rest := []) (hc := (Mo_sums_ok g N _ _ _ _ _ hq4 D2 (by omega))) rfl pm_Mo_sums lw_11_198 im_Mo_sums sl_Mo_sums rfl rfl rfl (rcOK hk1 rfl) (by decide) ?_
  refine r_aload_n (t := some a0) 0 rfl rfl rfl ?_
  obtain ⟨hk5, hE⟩ := ckE hE
  refine r_getR rfl (fl_11_54 rfl) (Or.inr ⟨_, rfl⟩) rfl hk5 ?_
  refine r_iload_n 1 rfl rfl rfl ?_
  obtain ⟨a_6, ha7, hE⟩ := bnE hE
  obtain ⟨hk8, hE⟩ := ckE hE
  obtain ⟨hi9, hE⟩ := ckE hE
  refine r_iald rfl ha7 hk8 hi9 ?_
  refine r_istore_n 2 rfl rfl (by decide) ?_
  refine r_aload_n (t := some a0) 0 rfl rfl rfl ?_
  refine r_getR rfl (fl_11_51 rfl) (Or.inr ⟨_, rfl⟩) rfl hk5 ?_
  refine r_iload_n 1 rfl rfl rfl ?_
  obtain ⟨a_10, ha11, hE⟩ := bnE hE
  obtain ⟨hk12, hE⟩ := ckE hE
  obtain ⟨hi13, hE⟩ := ckE hE
  refine r_iald rfl ha11 hk12 hi13 ?_
  refine r_bipush 24 rfl cb_24 ?_
  refine r_icmp_ne (tgt := 44) rfl (by decide) (fun hc14 => ?_) (fun hc14 => ?_)
  · have hE := ifP hc14 hE
    refine r_aload_n (t := some a0) 0 rfl rfl rfl ?_
    refine r_getR rfl (fl_11_48 rfl) (Or.inr ⟨_, rfl⟩) rfl hk5 ?_
    refine r_iload_n 1 rfl rfl rfl ?_
    obtain ⟨a_15, ha16, hE⟩ := bnE hE
    obtain ⟨hk17, hE⟩ := ckE hE
    obtain ⟨hi18, hE⟩ := ckE hE
    refine r_iald rfl ha16 hk17 hi18 ?_
    refine r_aload_n (t := some a0) 0 rfl rfl rfl ?_
    refine r_getR rfl (fl_11_54 rfl) (Or.inr ⟨_, rfl⟩) rfl hk5 ?_
    refine r_iload_n 1 rfl rfl rfl ?_
    obtain ⟨hi19, hE⟩ := ckE hE
    refine r_iald rfl ha7 hk8 hi19 ?_
    refine r_icmp_ge (tgt := 42) rfl (by decide) (fun hc20 => ?_) (fun hc20 => ?_)
    · have hE := ifP hc20 hE
      refine r_iconst 0 rfl ci_0 ?_
      first | exact r_sb (Mo_tests_b43_ok g N _ hD   _ _ _ _ _ _ hE) ⟨rfl, rfl, trivial⟩ | exact r_sb (Mo_tests_b43_ok g N _ hD   _ _ _ _ _ _ hE) (by simp only [su1, su2, dr1_rf, dr1_in, dr1_lo, dr2_rf, dr2_in, dr2_lo]; exact ⟨rfl, rfl, trivial⟩)
    · have hE := ifN hc20 hE
      refine r_iconst 1 rfl ci_1 ?_
      refine r_goto (tgt := 43) rfl (by decide) ?_
      first | exact r_sb (Mo_tests_b43_ok g N _ hD   _ _ _ _ _ _ hE) ⟨rfl, rfl, trivial⟩ | exact r_sb (Mo_tests_b43_ok g N _ hD   _ _ _ _ _ _ hE) (by simp only [su1, su2, dr1_rf, dr1_in, dr1_lo, dr2_rf, dr2_in, dr2_lo]; exact ⟨rfl, rfl, trivial⟩)
  · have hE := ifN hc14 hE
    first | exact r_sb (Mo_tests_b44_ok g N _ hD   _ _ _ _ _ _ hE) ⟨rfl, rfl, rfl, trivial⟩ | exact r_sb (Mo_tests_b44_ok g N _ hD   _ _ _ _ _ _ hE) (by simp only [su1, su2, dr1_rf, dr1_in, dr1_lo, dr2_rf, dr2_in, dr2_lo]; exact ⟨rfl, rfl, rfl, trivial⟩)
def Mo_worked_b329 (N : Nat) (self_14 : Nat → Int32 → Int32 → Int32 → PH → Option (Int32 × PH)) (a0 : Nat) (x1 : Int32) (x2 : Int32) (x3 : Int32) (h : PH) : Option (Int32 × PH) :=
  self_14 a0 x1 x2 (x3 + 1) h
set_option maxRecDepth 20000 in
theorem Mo_worked_b329_ok (g : GT) (N : Nat) (D : Nat) (hD : 2 ≤ D) (self_14 : Nat → Int32 → Int32 → Int32 → PH → Option (Int32 × PH)) (hself_14 : ∀ (a0 : Nat) (x1 : Int32) (x2 : Int32) (x3 : Int32) (h : PH) (v : Int32) (h' : PH), self_14 a0 x1 x2 x3 h = some (v, h') → Run g pMo_worked D 14 [(0, va_rf (some a0)), (1, .int x1), (2, .int x2), (3, .int x3)] [] h (rI v) h') : ∀ (a0 : Nat) (x1 : Int32) (x2 : Int32) (x3 : Int32) (h : PH) (v : Int32) (h' : PH), Mo_worked_b329 N self_14 a0 x1 x2 x3 h = some (v, h') → Run g pMo_worked D 329 [(0, va_rf (some a0)), (1, .int x1), (2, .int x2), (3, .int x3)] [] h (rI v) h' := by
  obtain ⟨D2, rfl⟩ : ∃ d, D = d + 1 := ⟨D - 1, by omega⟩
  intro a0 x1 x2 x3 h v h' hE
  unfold Mo_worked_b329 at hE
  refine r_iinc _ rfl rfl (congrArg _ ci_1) (by decide) ?_
  refine r_goto (tgt := 14) rfl (by decide) ?_
  first | exact r_sb (hself_14 _ _ _ _ _ _ _ hE) ⟨rfl, rfl, rfl, rfl, trivial⟩ | exact r_sb (hself_14 _ _ _ _ _ _ _ hE) (by simp only [su1, su2, dr1_rf, dr1_in, dr1_lo, dr2_rf, dr2_in, dr2_lo]; exact ⟨rfl, rfl, rfl, rfl, trivial⟩)
def Mo_worked_b66 (N : Nat) (self_14 : Nat → Int32 → Int32 → Int32 → PH → Option (Int32 × PH)) (s0 : Option Nat) (s1 : Int32) (s2 : Int32) (a0 : Nat) (x1 : Int32) (x2 : Int32) (x3 : Int32) (h : PH) : Option (Int32 × PH) :=
  (s0).bind fun a_1 =>
  ck ((hK h a_1).1 = 20) <|
  ck (inb s1 (hK h a_1).2 = true) <|
  lt0 (wI h a_1 (ix s1) s2) fun h5 =>
  ck ((hK h5 a0).1 = 11) <|
  bd (Mo_opens N a0 x2 h5) fun v8 h9 =>
  Mo_worked_b329 N self_14  a0 x1 x2 x3 h9
set_option maxRecDepth 20000 in
theorem Mo_worked_b66_ok (g : GT) (N : Nat) (D : Nat) (hD : 2 ≤ D) (self_14 : Nat → Int32 → Int32 → Int32 → PH → Option (Int32 × PH)) (hself_14 : ∀ (a0 : Nat) (x1 : Int32) (x2 : Int32) (x3 : Int32) (h : PH) (v : Int32) (h' : PH), self_14 a0 x1 x2 x3 h = some (v, h') → Run g pMo_worked D 14 [(0, va_rf (some a0)), (1, .int x1), (2, .int x2), (3, .int x3)] [] h (rI v) h') : ∀ (s0 : Option Nat) (s1 : Int32) (s2 : Int32) (a0 : Nat) (x1 : Int32) (x2 : Int32) (x3 : Int32) (h : PH) (v : Int32) (h' : PH), Mo_worked_b66 N self_14 s0 s1 s2 a0 x1 x2 x3 h = some (v, h') → Run g pMo_worked D 66 [(0, va_rf (some a0)), (1, .int x1), (2, .int x2), (3, .int x3)] [.int s2, .int s1, va_rf s0] h (rI v) h' := by
  obtain ⟨D2, rfl⟩ : ∃ d, D = d + 1 := ⟨D - 1, by omega⟩
  intro s0 s1 s2 a0 x1 x2 x3 h v h' hE
  unfold Mo_worked_b66 at hE
  obtain ⟨a_1, ha2, hE⟩ := bnE hE
  obtain ⟨hk3, hE⟩ := ckE hE
  obtain ⟨hi4, hE⟩ := ckE hE
  obtain ⟨h5, he6, hE⟩ := ltE hE
  refine r_iast rfl ha2 hk3 hi4 he6 ?_
  refine r_aload_n (t := some a0) 0 rfl rfl rfl ?_
  refine r_iload_n 2 rfl rfl rfl ?_
  obtain ⟨hk7, hE⟩ := ckE hE
  obtain ⟨v8, h9, hq10, hE⟩ := bdE hE
  refine r_callV0 (rest := []) (hc := (Mo_opens_ok g N _ _ _ _ _ hq10 D2 (by omega))) rfl pm_Mo_opens lw_11_201 im_Mo_opens sl_Mo_opens rfl rfl rfl (rcOK hk7 rfl) (by decide) ?_
  refine r_goto (tgt := 329) rfl (by decide) ?_
  first | exact r_sb (Mo_worked_b329_ok g N _ hD _ hself_14  _ _ _ _ _ _ _ hE) ⟨rfl, rfl, rfl, rfl, trivial⟩ | exact r_sb (Mo_worked_b329_ok g N _ hD _ hself_14  _ _ _ _ _ _ _ hE) (by simp only [su1, su2, dr1_rf, dr1_in, dr1_lo, dr2_rf, dr2_in, dr2_lo]; exact ⟨rfl, rfl, rfl, rfl, trivial⟩)
def Mo_worked_b46 (N : Nat) (self_14 : Nat → Int32 → Int32 → Int32 → PH → Option (Int32 × PH)) (a0 : Nat) (x1 : Int32) (x2 : Int32) (x3 : Int32) (x4 : Int32) (h : PH) : Option (Int32 × PH) :=
  ck ((hK h a0).1 = 11) <|
  if x4 = 30 then
    Mo_worked_b66 N self_14  (hR h a0 29) (x2 + 1) 1 a0 x1 (x2 + 1) x3 h
  else
    Mo_worked_b66 N self_14  (hR h a0 29) (x2 + 1) 0 a0 x1 (x2 + 1) x3 h
set_option maxRecDepth 20000 in
theorem Mo_worked_b46_ok (g : GT) (N : Nat) (D : Nat) (hD : 2 ≤ D) (self_14 : Nat → Int32 → Int32 → Int32 → PH → Option (Int32 × PH)) (hself_14 : ∀ (a0 : Nat) (x1 : Int32) (x2 : Int32) (x3 : Int32) (h : PH) (v : Int32) (h' : PH), self_14 a0 x1 x2 x3 h = some (v, h') → Run g pMo_worked D 14 [(0, va_rf (some a0)), (1, .int x1), (2, .int x2), (3, .int x3)] [] h (rI v) h') : ∀ (a0 : Nat) (x1 : Int32) (x2 : Int32) (x3 : Int32) (x4 : Int32) (h : PH) (v : Int32) (h' : PH), Mo_worked_b46 N self_14 a0 x1 x2 x3 x4 h = some (v, h') → Run g pMo_worked D 46 [(0, va_rf (some a0)), (1, .int x1), (2, .int x2), (3, .int x3), (4, .int x4)] [] h (rI v) h' := by
  obtain ⟨D2, rfl⟩ : ∃ d, D = d + 1 := ⟨D - 1, by omega⟩
  intro a0 x1 x2 x3 x4 h v h' hE
  unfold Mo_worked_b46 at hE
  refine r_iinc _ rfl rfl (congrArg _ ci_1) (by decide) ?_
  refine r_aload_n (t := some a0) 0 rfl rfl rfl ?_
  obtain ⟨hk1, hE⟩ := ckE hE
  refine r_getR rfl (fl_11_66 rfl) (Or.inr ⟨_, rfl⟩) rfl hk1 ?_
  refine r_iload_n 2 rfl rfl rfl ?_
  refine r_iload rfl rfl ?_
  refine r_bipush 30 rfl cb_30 ?_
  refine r_icmp_ne (tgt := 65) rfl (by decide) (fun hc2 => ?_) (fun hc2 => ?_)
  · have hE := ifP hc2 hE
    refine r_iconst 1 rfl ci_1 ?_
    refine r_goto (tgt := 66) rfl (by decide) ?_
    first | exact r_sb (Mo_worked_b66_ok g N _ hD _ hself_14  _ _ _ _ _ _ _ _ _ _ hE) ⟨rfl, rfl, rfl, rfl, trivial⟩ | exact r_sb (Mo_worked_b66_ok g N _ hD _ hself_14  _ _ _ _ _ _ _ _ _ _ hE) (by simp only [su1, su2, dr1_rf, dr1_in, dr1_lo, dr2_rf, dr2_in, dr2_lo]; exact ⟨rfl, rfl, rfl, rfl, trivial⟩)
  · have hE := ifN hc2 hE
    refine r_iconst 0 rfl ci_0 ?_
    first | exact r_sb (Mo_worked_b66_ok g N _ hD _ hself_14  _ _ _ _ _ _ _ _ _ _ hE) ⟨rfl, rfl, rfl, rfl, trivial⟩ | exact r_sb (Mo_worked_b66_ok g N _ hD _ hself_14  _ _ _ _ _ _ _ _ _ _ hE) (by simp only [su1, su2, dr1_rf, dr1_in, dr1_lo, dr2_rf, dr2_in, dr2_lo]; exact ⟨rfl, rfl, rfl, rfl, trivial⟩)
def Mo_worked_b89 (N : Nat) (self_14 : Nat → Int32 → Int32 → Int32 → PH → Option (Int32 × PH)) (a0 : Nat) (x1 : Int32) (x2 : Int32) (x3 : Int32) (x4 : Int32) (h : PH) : Option (Int32 × PH) :=
  ck ((hK h a0).1 = 11) <|
  bd (Mo_sums N a0 x2 h) fun v2 h3 =>
  ck ((hK h3 a0).1 = 11) <|
  ((hR h3 a0 26)).bind fun a_6 =>
  ck ((hK h3 a_6).1 = 20) <|
  ck (inb x2 (hK h3 a_6).2 = true) <|
  lt0 (wI h3 a_6 (ix x2) x4) fun h10 =>
  Mo_worked_b329 N self_14  a0 x1 x2 x3 h10
set_option maxRecDepth 20000 in
theorem Mo_worked_b89_ok (g : GT) (N : Nat) (D : Nat) (hD : 2 ≤ D) (self_14 : Nat → Int32 → Int32 → Int32 → PH → Option (Int32 × PH)) (hself_14 : ∀ (a0 : Nat) (x1 : Int32) (x2 : Int32) (x3 : Int32) (h : PH) (v : Int32) (h' : PH), self_14 a0 x1 x2 x3 h = some (v, h') → Run g pMo_worked D 14 [(0, va_rf (some a0)), (1, .int x1), (2, .int x2), (3, .int x3)] [] h (rI v) h') : ∀ (a0 : Nat) (x1 : Int32) (x2 : Int32) (x3 : Int32) (x4 : Int32) (h : PH) (v : Int32) (h' : PH), Mo_worked_b89 N self_14 a0 x1 x2 x3 x4 h = some (v, h') → Run g pMo_worked D 89 [(0, va_rf (some a0)), (1, .int x1), (2, .int x2), (3, .int x3), (4, .int x4)] [] h (rI v) h' := by
  obtain ⟨D2, rfl⟩ : ∃ d, D = d + 1 := ⟨D - 1, by omega⟩
  intro a0 x1 x2 x3 x4 h v h' hE
  unfold Mo_worked_b89 at hE
  refine r_aload_n (t := some a0) 0 rfl rfl rfl ?_
  refine r_iload_n 2 rfl rfl rfl ?_
  obtain ⟨hk1, hE⟩ := ckE hE
  obtain ⟨v2, h3, hq4, hE⟩ := bdE hE
  refine r_callV0 (rest := []) (hc := (Mo_sums_ok g N _ _ _ _ _ hq4 D2 (by omega))) rfl pm_Mo_sums lw_11_198 im_Mo_sums sl_Mo_sums rfl rfl rfl (rcOK hk1 rfl) (by decide) ?_
  refine r_aload_n (t := some a0) 0 rfl rfl rfl ?_
  obtain ⟨hk5, hE⟩ := ckE hE
  refine r_getR rfl (fl_11_57 rfl) (Or.inr ⟨_, rfl⟩) rfl hk5 ?_
  refine r_iload_n 2 rfl rfl rfl ?_
  refine r_iload rfl rfl ?_
  obtain ⟨a_6, ha7, hE⟩ := bnE hE
  obtain ⟨hk8, hE⟩ := ckE hE
  obtain ⟨hi9, hE⟩ := ckE hE
  obtain ⟨h10, he11, hE⟩ := ltE hE
  refine r_iast rfl ha7 hk8 hi9 he11 ?_
  refine r_goto (tgt := 329) rfl (by decide) ?_
  first | exact r_sb (Mo_worked_b329_ok g N _ hD _ hself_14  _ _ _ _ _ _ _ hE) ⟨rfl, rfl, rfl, rfl, trivial⟩ | exact r_sb (Mo_worked_b329_ok g N _ hD _ hself_14  _ _ _ _ _ _ _ hE) (by simp only [su1, su2, dr1_rf, dr1_in, dr1_lo, dr2_rf, dr2_in, dr2_lo]; exact ⟨rfl, rfl, rfl, rfl, trivial⟩)
def Mo_worked_b137 (N : Nat) (self_14 : Nat → Int32 → Int32 → Int32 → PH → Option (Int32 × PH)) (a0 : Nat) (x1 : Int32) (x2 : Int32) (x3 : Int32) (x4 : Int32) (h : PH) : Option (Int32 × PH) :=
  ck ((hK h a0).1 = 11) <|
  bd (Mo_sums N a0 x2 h) fun v2 h3 =>
  ck ((hK h3 a0).1 = 11) <|
  ((hR h3 a0 25)).bind fun a_6 =>
  ck ((hK h3 a_6).1 = 20) <|
  ck (inb x2 (hK h3 a_6).2 = true) <|
  ((hR h3 a0 23)).bind fun a_10 =>
  ck ((hK h3 a_10).1 = 20) <|
  ck (inb x2 (hK h3 a_10).2 = true) <|
  lt0 (wI h3 a_10 (ix x2) (hI h3 a_6 (ix x2))) fun h14 =>
  ((hR h14 a0 24)).bind fun a_16 =>
  ck ((hK h14 a_16).1 = 20) <|
  ck (inb x2 (hK h14 a_16).2 = true) <|
  lt0 (wI h14 a_16 (ix x2) x4) fun h20 =>
  ((hR h20 a0 25)).bind fun a_22 =>
  ck ((hK h20 a_22).1 = 20) <|
  ck (inb x2 (hK h20 a_22).2 = true) <|
  lt0 (wI h20 a_22 (ix x2) 0) fun h26 =>
  ((hR h26 a0 26)).bind fun a_28 =>
  ck ((hK h26 a_28).1 = 20) <|
  ck (inb x2 (hK h26 a_28).2 = true) <|
  lt0 (wI h26 a_28 (ix x2) 20) fun h32 =>
  Mo_worked_b329 N self_14  a0 x1 x2 x3 h32
set_option maxRecDepth 20000 in
theorem Mo_worked_b137_ok (g : GT) (N : Nat) (D : Nat) (hD : 2 ≤ D) (self_14 : Nat → Int32 → Int32 → Int32 → PH → Option (Int32 × PH)) (hself_14 : ∀ (a0 : Nat) (x1 : Int32) (x2 : Int32) (x3 : Int32) (h : PH) (v : Int32) (h' : PH), self_14 a0 x1 x2 x3 h = some (v, h') → Run g pMo_worked D 14 [(0, va_rf (some a0)), (1, .int x1), (2, .int x2), (3, .int x3)] [] h (rI v) h') : ∀ (a0 : Nat) (x1 : Int32) (x2 : Int32) (x3 : Int32) (x4 : Int32) (h : PH) (v : Int32) (h' : PH), Mo_worked_b137 N self_14 a0 x1 x2 x3 x4 h = some (v, h') → Run g pMo_worked D 137 [(0, va_rf (some a0)), (1, .int x1), (2, .int x2), (3, .int x3), (4, .int x4)] [] h (rI v) h' := by
  obtain ⟨D2, rfl⟩ : ∃ d, D = d + 1 := ⟨D - 1, by omega⟩
  intro a0 x1 x2 x3 x4 h v h' hE
  unfold Mo_worked_b137 at hE
  refine r_aload_n (t := some a0) 0 rfl rfl rfl ?_
  refine r_iload_n 2 rfl rfl rfl ?_
  obtain ⟨hk1, hE⟩ := ckE hE
  obtain ⟨v2, h3, hq4, hE⟩ := bdE hE
  refine r_callV0 (rest := []) (hc := (Mo_sums_ok g N _ _ _ _ _ hq4 D2 (by omega))) rfl pm_Mo_sums lw_11_198 im_Mo_sums sl_Mo_sums rfl rfl rfl (rcOK hk1 rfl) (by decide) ?_
  refine r_aload_n (t := some a0) 0 rfl rfl rfl ?_
  obtain ⟨hk5, hE⟩ := ckE hE
  refine r_getR rfl (fl_11_48 rfl) (Or.inr ⟨_, rfl⟩) rfl hk5 ?_
  refine r_iload_n 2 rfl rfl rfl ?_
  refine r_aload_n (t := some a0) 0 rfl rfl rfl ?_
  refine r_getR rfl (fl_11_54 rfl) (Or.inr ⟨_, rfl⟩) rfl hk5 ?_
  refine r_iload_n 2 rfl rfl rfl ?_
  obtain ⟨a_6, ha7, hE⟩ := bnE hE
  obtain ⟨hk8, hE⟩ := ckE hE
  obtain ⟨hi9, hE⟩ := ckE hE
  refine r_iald rfl ha7 hk8 hi9 ?_
  obtain ⟨a_10, ha11, hE⟩ := bnE hE
  obtain ⟨hk12, hE⟩ := ckE hE
  obtain ⟨hi13, hE⟩ := ckE hE
  obtain ⟨h14, he15, hE⟩ := ltE hE
  refine r_iast rfl ha11 hk12 hi13 he15 ?_
  refine r_aload_n (t := some a0) 0 rfl rfl rfl ?_
  refine r_getR rfl (fl_11_51 rfl) (Or.inr ⟨_, rfl⟩) rfl (kwI he15 hk5) ?_
  refine r_iload_n 2 rfl rfl rfl ?_
  refine r_iload rfl rfl ?_
  obtain ⟨a_16, ha17, hE⟩ := bnE hE
  obtain ⟨hk18, hE⟩ := ckE hE
  obtain ⟨hi19, hE⟩ := ckE hE
  obtain ⟨h20, he21, hE⟩ := ltE hE
  refine r_iast rfl ha17 hk18 hi19 he21 ?_
  refine r_aload_n (t := some a0) 0 rfl rfl rfl ?_
  refine r_getR rfl (fl_11_54 rfl) (Or.inr ⟨_, rfl⟩) rfl (kwI he21 (kwI he15 hk5)) ?_
  refine r_iload_n 2 rfl rfl rfl ?_
  refine r_iconst 0 rfl ci_0 ?_
  obtain ⟨a_22, ha23, hE⟩ := bnE hE
  obtain ⟨hk24, hE⟩ := ckE hE
  obtain ⟨hi25, hE⟩ := ckE hE
  obtain ⟨h26, he27, hE⟩ := ltE hE
  refine r_iast rfl ha23 hk24 hi25 he27 ?_
  refine r_aload_n (t := some a0) 0 rfl rfl rfl ?_
  refine r_getR rfl (fl_11_57 rfl) (Or.inr ⟨_, rfl⟩) rfl (kwI he27 (kwI he21 (kwI he15 hk5))) ?_
  refine r_iload_n 2 rfl rfl rfl ?_
  refine r_bipush 20 rfl cb_20 ?_
  obtain ⟨a_28, ha29, hE⟩ := bnE hE
  obtain ⟨hk30, hE⟩ := ckE hE
  obtain ⟨hi31, hE⟩ := ckE hE
  obtain ⟨h32, he33, hE⟩ := ltE hE
  refine r_iast rfl ha29 hk30 hi31 he33 ?_
  refine r_goto (tgt := 329) rfl (by decide) ?_
  first | exact r_sb (Mo_worked_b329_ok g N _ hD _ hself_14  _ _ _ _ _ _ _ hE) ⟨rfl, rfl, rfl, rfl, trivial⟩ | exact r_sb (Mo_worked_b329_ok g N _ hD _ hself_14  _ _ _ _ _ _ _ hE) (by simp only [su1, su2, dr1_rf, dr1_in, dr1_lo, dr2_rf, dr2_in, dr2_lo]; exact ⟨rfl, rfl, rfl, rfl, trivial⟩)
def Mo_worked_b194 (N : Nat) (self_14 : Nat → Int32 → Int32 → Int32 → PH → Option (Int32 × PH)) (a0 : Nat) (x1 : Int32) (x2 : Int32) (x3 : Int32) (x4 : Int32) (h : PH) : Option (Int32 × PH) :=
  ck ((hK h a0).1 = 11) <|
  bd (Mo_tests N a0 x2 h) fun v2 h3 =>
  ck ((hK h3 a0).1 = 11) <|
  ((hR h3 a0 22)).bind fun a_6 =>
  ck ((hK h3 a_6).1 = 20) <|
  ck (inb x2 (hK h3 a_6).2 = true) <|
  lt0 (wI h3 a_6 (ix x2) x4) fun h10 =>
  Mo_worked_b329 N self_14  a0 x1 x2 x3 h10
set_option maxRecDepth 20000 in
theorem Mo_worked_b194_ok (g : GT) (N : Nat) (D : Nat) (hD : 2 ≤ D) (self_14 : Nat → Int32 → Int32 → Int32 → PH → Option (Int32 × PH)) (hself_14 : ∀ (a0 : Nat) (x1 : Int32) (x2 : Int32) (x3 : Int32) (h : PH) (v : Int32) (h' : PH), self_14 a0 x1 x2 x3 h = some (v, h') → Run g pMo_worked D 14 [(0, va_rf (some a0)), (1, .int x1), (2, .int x2), (3, .int x3)] [] h (rI v) h') : ∀ (a0 : Nat) (x1 : Int32) (x2 : Int32) (x3 : Int32) (x4 : Int32) (h : PH) (v : Int32) (h' : PH), Mo_worked_b194 N self_14 a0 x1 x2 x3 x4 h = some (v, h') → Run g pMo_worked D 194 [(0, va_rf (some a0)), (1, .int x1), (2, .int x2), (3, .int x3), (4, .int x4)] [] h (rI v) h' := by
  obtain ⟨D2, rfl⟩ : ∃ d, D = d + 1 := ⟨D - 1, by omega⟩
  intro a0 x1 x2 x3 x4 h v h' hE
  unfold Mo_worked_b194 at hE
  refine r_aload_n (t := some a0) 0 rfl rfl rfl ?_
  refine r_iload_n 2 rfl rfl rfl ?_
  obtain ⟨hk1, hE⟩ := ckE hE
  obtain ⟨v2, h3, hq4, hE⟩ := bdE hE
  refine r_callV0 (rest := []) (hc := (Mo_tests_ok g N _ _ _ _ _ hq4 D2 (by omega))) rfl pm_Mo_tests lw_11_204 im_Mo_tests sl_Mo_tests rfl rfl rfl (rcOK hk1 rfl) (by decide) ?_
  refine r_aload_n (t := some a0) 0 rfl rfl rfl ?_
  obtain ⟨hk5, hE⟩ := ckE hE
  refine r_getR rfl (fl_11_45 rfl) (Or.inr ⟨_, rfl⟩) rfl hk5 ?_
  refine r_iload_n 2 rfl rfl rfl ?_
  refine r_iload rfl rfl ?_
  obtain ⟨a_6, ha7, hE⟩ := bnE hE
  obtain ⟨hk8, hE⟩ := ckE hE
  obtain ⟨hi9, hE⟩ := ckE hE
  obtain ⟨h10, he11, hE⟩ := ltE hE
  refine r_iast rfl ha7 hk8 hi9 he11 ?_
  refine r_goto (tgt := 329) rfl (by decide) ?_
  first | exact r_sb (Mo_worked_b329_ok g N _ hD _ hself_14  _ _ _ _ _ _ _ hE) ⟨rfl, rfl, rfl, rfl, trivial⟩ | exact r_sb (Mo_worked_b329_ok g N _ hD _ hself_14  _ _ _ _ _ _ _ hE) (by simp only [su1, su2, dr1_rf, dr1_in, dr1_lo, dr2_rf, dr2_in, dr2_lo]; exact ⟨rfl, rfl, rfl, rfl, trivial⟩)
def Mo_worked_b292 (N : Nat) (self_14 : Nat → Int32 → Int32 → Int32 → PH → Option (Int32 × PH)) (self_268 : Nat → Int32 → Int32 → Int32 → Int32 → PH → Option (Int32 × PH)) (s0 : Int32) (a0 : Nat) (x1 : Int32) (x2 : Int32) (x3 : Int32) (h : PH) : Option (Int32 × PH) :=
  self_268 a0 x1 (x2 + (-1)) x3 s0 h
set_option maxRecDepth 20000 in
theorem Mo_worked_b292_ok (g : GT) (N : Nat) (D : Nat) (hD : 2 ≤ D) (self_14 : Nat → Int32 → Int32 → Int32 → PH → Option (Int32 × PH)) (hself_14 : ∀ (a0 : Nat) (x1 : Int32) (x2 : Int32) (x3 : Int32) (h : PH) (v : Int32) (h' : PH), self_14 a0 x1 x2 x3 h = some (v, h') → Run g pMo_worked D 14 [(0, va_rf (some a0)), (1, .int x1), (2, .int x2), (3, .int x3)] [] h (rI v) h') (self_268 : Nat → Int32 → Int32 → Int32 → Int32 → PH → Option (Int32 × PH)) (hself_268 : ∀ (a0 : Nat) (x1 : Int32) (x2 : Int32) (x3 : Int32) (x5 : Int32) (h : PH) (v : Int32) (h' : PH), self_268 a0 x1 x2 x3 x5 h = some (v, h') → Run g pMo_worked D 268 [(0, va_rf (some a0)), (1, .int x1), (2, .int x2), (3, .int x3), (5, .int x5)] [] h (rI v) h') : ∀ (s0 : Int32) (a0 : Nat) (x1 : Int32) (x2 : Int32) (x3 : Int32) (h : PH) (v : Int32) (h' : PH), Mo_worked_b292 N self_14 self_268 s0 a0 x1 x2 x3 h = some (v, h') → Run g pMo_worked D 292 [(0, va_rf (some a0)), (1, .int x1), (2, .int x2), (3, .int x3)] [.int s0] h (rI v) h' := by
  obtain ⟨D2, rfl⟩ : ∃ d, D = d + 1 := ⟨D - 1, by omega⟩
  intro s0 a0 x1 x2 x3 h v h' hE
  unfold Mo_worked_b292 at hE
  refine r_istore rfl (by decide) ?_
  refine r_iinc _ rfl rfl (congrArg _ ci_m1) (by decide) ?_
  refine r_goto (tgt := 268) rfl (by decide) ?_
  first | exact r_sb (hself_268 _ _ _ _ _ _ _ _ hE) ⟨rfl, rfl, rfl, rfl, rfl, trivial⟩ | exact r_sb (hself_268 _ _ _ _ _ _ _ _ hE) (by simp only [su1, su2, dr1_rf, dr1_in, dr1_lo, dr2_rf, dr2_in, dr2_lo]; exact ⟨rfl, rfl, rfl, rfl, rfl, trivial⟩)
def Mo_worked_b328 (N : Nat) (self_14 : Nat → Int32 → Int32 → Int32 → PH → Option (Int32 × PH)) (s0 : Option Nat) (s1 : Int32) (s2 : Int32) (a0 : Nat) (x1 : Int32) (x2 : Int32) (x3 : Int32) (h : PH) : Option (Int32 × PH) :=
  (s0).bind fun a_1 =>
  ck ((hK h a_1).1 = 20) <|
  ck (inb s1 (hK h a_1).2 = true) <|
  lt0 (wI h a_1 (ix s1) s2) fun h5 =>
  Mo_worked_b329 N self_14  a0 x1 x2 x3 h5
set_option maxRecDepth 20000 in
theorem Mo_worked_b328_ok (g : GT) (N : Nat) (D : Nat) (hD : 2 ≤ D) (self_14 : Nat → Int32 → Int32 → Int32 → PH → Option (Int32 × PH)) (hself_14 : ∀ (a0 : Nat) (x1 : Int32) (x2 : Int32) (x3 : Int32) (h : PH) (v : Int32) (h' : PH), self_14 a0 x1 x2 x3 h = some (v, h') → Run g pMo_worked D 14 [(0, va_rf (some a0)), (1, .int x1), (2, .int x2), (3, .int x3)] [] h (rI v) h') : ∀ (s0 : Option Nat) (s1 : Int32) (s2 : Int32) (a0 : Nat) (x1 : Int32) (x2 : Int32) (x3 : Int32) (h : PH) (v : Int32) (h' : PH), Mo_worked_b328 N self_14 s0 s1 s2 a0 x1 x2 x3 h = some (v, h') → Run g pMo_worked D 328 [(0, va_rf (some a0)), (1, .int x1), (2, .int x2), (3, .int x3)] [.int s2, .int s1, va_rf s0] h (rI v) h' := by
  obtain ⟨D2, rfl⟩ : ∃ d, D = d + 1 := ⟨D - 1, by omega⟩
  intro s0 s1 s2 a0 x1 x2 x3 h v h' hE
  unfold Mo_worked_b328 at hE
  obtain ⟨a_1, ha2, hE⟩ := bnE hE
  obtain ⟨hk3, hE⟩ := ckE hE
  obtain ⟨hi4, hE⟩ := ckE hE
  obtain ⟨h5, he6, hE⟩ := ltE hE
  refine r_iast rfl ha2 hk3 hi4 he6 ?_
  first | exact r_sb (Mo_worked_b329_ok g N _ hD _ hself_14  _ _ _ _ _ _ _ hE) ⟨rfl, rfl, rfl, rfl, trivial⟩ | exact r_sb (Mo_worked_b329_ok g N _ hD _ hself_14  _ _ _ _ _ _ _ hE) (by simp only [su1, su2, dr1_rf, dr1_in, dr1_lo, dr2_rf, dr2_in, dr2_lo]; exact ⟨rfl, rfl, rfl, rfl, trivial⟩)
def Mo_worked_b300 (N : Nat) (self_14 : Nat → Int32 → Int32 → Int32 → PH → Option (Int32 × PH)) (a0 : Nat) (x1 : Int32) (x2 : Int32) (x3 : Int32) (x5 : Int32) (h : PH) : Option (Int32 × PH) :=
  ck ((hK h a0).1 = 11) <|
  ((hR h a0 28)).bind fun a_2 =>
  ck ((hK h a_2).1 = 20) <|
  ck (inb x2 (hK h a_2).2 = true) <|
  if (hI h a_2 (ix x2)) = 0 then
    Mo_worked_b328 N self_14  (hR h a0 27) x2 x5 a0 x1 x2 x3 h
  else
    ((hR h a0 27)).bind fun a_7 =>
    ck ((hK h a_7).1 = 20) <|
    ck (inb x2 (hK h a_7).2 = true) <|
    Mo_worked_b328 N self_14  (hR h a0 27) x2 ((hI h a_7 (ix x2)) * x5) a0 x1 x2 x3 h
set_option maxRecDepth 20000 in
theorem Mo_worked_b300_ok (g : GT) (N : Nat) (D : Nat) (hD : 2 ≤ D) (self_14 : Nat → Int32 → Int32 → Int32 → PH → Option (Int32 × PH)) (hself_14 : ∀ (a0 : Nat) (x1 : Int32) (x2 : Int32) (x3 : Int32) (h : PH) (v : Int32) (h' : PH), self_14 a0 x1 x2 x3 h = some (v, h') → Run g pMo_worked D 14 [(0, va_rf (some a0)), (1, .int x1), (2, .int x2), (3, .int x3)] [] h (rI v) h') : ∀ (a0 : Nat) (x1 : Int32) (x2 : Int32) (x3 : Int32) (x5 : Int32) (h : PH) (v : Int32) (h' : PH), Mo_worked_b300 N self_14 a0 x1 x2 x3 x5 h = some (v, h') → Run g pMo_worked D 300 [(0, va_rf (some a0)), (1, .int x1), (2, .int x2), (3, .int x3), (5, .int x5)] [] h (rI v) h' := by
  obtain ⟨D2, rfl⟩ : ∃ d, D = d + 1 := ⟨D - 1, by omega⟩
  intro a0 x1 x2 x3 x5 h v h' hE
  unfold Mo_worked_b300 at hE
  refine r_aload_n (t := some a0) 0 rfl rfl rfl ?_
  obtain ⟨hk1, hE⟩ := ckE hE
  refine r_getR rfl (fl_11_60 rfl) (Or.inr ⟨_, rfl⟩) rfl hk1 ?_
  refine r_iload_n 2 rfl rfl rfl ?_
  refine r_aload_n (t := some a0) 0 rfl rfl rfl ?_
  refine r_getR rfl (fl_11_63 rfl) (Or.inr ⟨_, rfl⟩) rfl hk1 ?_
  refine r_iload_n 2 rfl rfl rfl ?_
  obtain ⟨a_2, ha3, hE⟩ := bnE hE
  obtain ⟨hk4, hE⟩ := ckE hE
  obtain ⟨hi5, hE⟩ := ckE hE
  refine r_iald rfl ha3 hk4 hi5 ?_
  refine r_if_ne (tgt := 319) rfl (by decide) (fun hc6 => ?_) (fun hc6 => ?_)
  · have hE := ifP hc6 hE
    refine r_iload rfl rfl ?_
    refine r_goto (tgt := 328) rfl (by decide) ?_
    first | exact r_sb (Mo_worked_b328_ok g N _ hD _ hself_14  _ _ _ _ _ _ _ _ _ _ hE) ⟨rfl, rfl, rfl, rfl, trivial⟩ | exact r_sb (Mo_worked_b328_ok g N _ hD _ hself_14  _ _ _ _ _ _ _ _ _ _ hE) (by simp only [su1, su2, dr1_rf, dr1_in, dr1_lo, dr2_rf, dr2_in, dr2_lo]; exact ⟨rfl, rfl, rfl, rfl, trivial⟩)
  · have hE := ifN hc6 hE
    refine r_aload_n (t := some a0) 0 rfl rfl rfl ?_
    refine r_getR rfl (fl_11_60 rfl) (Or.inr ⟨_, rfl⟩) rfl hk1 ?_
    refine r_iload_n 2 rfl rfl rfl ?_
    obtain ⟨a_7, ha8, hE⟩ := bnE hE
    obtain ⟨hk9, hE⟩ := ckE hE
    obtain ⟨hi10, hE⟩ := ckE hE
    refine r_iald rfl ha8 hk9 hi10 ?_
    refine r_iload rfl rfl ?_
    refine r_imul rfl ?_
    first | exact r_sb (Mo_worked_b328_ok g N _ hD _ hself_14  _ _ _ _ _ _ _ _ _ _ hE) ⟨rfl, rfl, rfl, rfl, trivial⟩ | exact r_sb (Mo_worked_b328_ok g N _ hD _ hself_14  _ _ _ _ _ _ _ _ _ _ hE) (by simp only [su1, su2, dr1_rf, dr1_in, dr1_lo, dr2_rf, dr2_in, dr2_lo]; exact ⟨rfl, rfl, rfl, rfl, trivial⟩)
def Mo_worked_b268 (N : Nat) (self_14 : Nat → Int32 → Int32 → Int32 → PH → Option (Int32 × PH)) : Nat → Nat → Int32 → Int32 → Int32 → Int32 → PH → Option (Int32 × PH)
  | 0 => fun _ _ _ _ _ _ => none
  | n + 1 => fun a0 x1 x2 x3 x5 h =>
    if x2 ≤ 0 then
      Mo_worked_b300 N self_14  a0 x1 x2 x3 x5 h
    else
      ck ((hK h a0).1 = 11) <|
      ((hR h a0 29)).bind fun a_3 =>
      ck ((hK h a_3).1 = 20) <|
      ck (inb x2 (hK h a_3).2 = true) <|
      if (hI h a_3 (ix x2)) = 1 then
        if x5 = 0 then
          Mo_worked_b292 N self_14 (Mo_worked_b268 N self_14 n)  1 a0 x1 x2 x3 h
        else
          Mo_worked_b292 N self_14 (Mo_worked_b268 N self_14 n)  0 a0 x1 x2 x3 h
      else
        Mo_worked_b300 N self_14  a0 x1 x2 x3 x5 h
set_option maxRecDepth 20000 in
theorem Mo_worked_b268_ok (g : GT) (N : Nat) (D : Nat) (hD : 2 ≤ D) (self_14 : Nat → Int32 → Int32 → Int32 → PH → Option (Int32 × PH)) (hself_14 : ∀ (a0 : Nat) (x1 : Int32) (x2 : Int32) (x3 : Int32) (h : PH) (v : Int32) (h' : PH), self_14 a0 x1 x2 x3 h = some (v, h') → Run g pMo_worked D 14 [(0, va_rf (some a0)), (1, .int x1), (2, .int x2), (3, .int x3)] [] h (rI v) h') : ∀ (n : Nat) (a0 : Nat) (x1 : Int32) (x2 : Int32) (x3 : Int32) (x5 : Int32) (h : PH) (v : Int32) (h' : PH), Mo_worked_b268 N self_14 n a0 x1 x2 x3 x5 h = some (v, h') → Run g pMo_worked D 268 [(0, va_rf (some a0)), (1, .int x1), (2, .int x2), (3, .int x3), (5, .int x5)] [] h (rI v) h' := by
  obtain ⟨D2, rfl⟩ : ∃ d, D = d + 1 := ⟨D - 1, by omega⟩
  intro n
  induction n with
  | zero => exact fun _ _ _ _ _ _ _ _ hE => nomatch (show none = some _ from hE)
  | succ n ih =>
    intro a0 x1 x2 x3 x5 h v h' hE
    unfold Mo_worked_b268 at hE
    refine r_iload_n 2 rfl rfl rfl ?_
    refine r_if_le (tgt := 300) rfl (by decide) (fun hc1 => ?_) (fun hc1 => ?_)
    · have hE := ifP hc1 hE
      first | exact r_sb (Mo_worked_b300_ok g N _ hD _ hself_14  _ _ _ _ _ _ _ _ hE) ⟨rfl, rfl, rfl, rfl, rfl, trivial⟩ | exact r_sb (Mo_worked_b300_ok g N _ hD _ hself_14  _ _ _ _ _ _ _ _ hE) (by simp only [su1, su2, dr1_rf, dr1_in, dr1_lo, dr2_rf, dr2_in, dr2_lo]; exact ⟨rfl, rfl, rfl, rfl, rfl, trivial⟩)
    · have hE := ifN hc1 hE
      refine r_aload_n (t := some a0) 0 rfl rfl rfl ?_
      obtain ⟨hk2, hE⟩ := ckE hE
      refine r_getR rfl (fl_11_66 rfl) (Or.inr ⟨_, rfl⟩) rfl hk2 ?_
      refine r_iload_n 2 rfl rfl rfl ?_
      obtain ⟨a_3, ha4, hE⟩ := bnE hE
      obtain ⟨hk5, hE⟩ := ckE hE
      obtain ⟨hi6, hE⟩ := ckE hE
      refine r_iald rfl ha4 hk5 hi6 ?_
      refine r_iconst 1 rfl ci_1 ?_
      refine r_icmp_ne (tgt := 300) rfl (by decide) (fun hc7 => ?_) (fun hc7 => ?_)
      · have hE := ifP hc7 hE
        refine r_iload rfl rfl ?_
        refine r_if_ne (tgt := 291) rfl (by decide) (fun hc8 => ?_) (fun hc8 => ?_)
        · have hE := ifP hc8 hE
          refine r_iconst 1 rfl ci_1 ?_
          refine r_goto (tgt := 292) rfl (by decide) ?_
          first | exact r_sb (Mo_worked_b292_ok g N _ hD _ hself_14 _ ih  _ _ _ _ _ _ _ _ hE) ⟨rfl, rfl, rfl, rfl, trivial⟩ | exact r_sb (Mo_worked_b292_ok g N _ hD _ hself_14 _ ih  _ _ _ _ _ _ _ _ hE) (by simp only [su1, su2, dr1_rf, dr1_in, dr1_lo, dr2_rf, dr2_in, dr2_lo]; exact ⟨rfl, rfl, rfl, rfl, trivial⟩)
        · have hE := ifN hc8 hE
          refine r_iconst 0 rfl ci_0 ?_
          first | exact r_sb (Mo_worked_b292_ok g N _ hD _ hself_14 _ ih  _ _ _ _ _ _ _ _ hE) ⟨rfl, rfl, rfl, rfl, trivial⟩ | exact r_sb (Mo_worked_b292_ok g N _ hD _ hself_14 _ ih  _ _ _ _ _ _ _ _ hE) (by simp only [su1, su2, dr1_rf, dr1_in, dr1_lo, dr2_rf, dr2_in, dr2_lo]; exact ⟨rfl, rfl, rfl, rfl, trivial⟩)
      · have hE := ifN hc7 hE
        first | exact r_sb (Mo_worked_b300_ok g N _ hD _ hself_14  _ _ _ _ _ _ _ _ hE) ⟨rfl, rfl, rfl, rfl, rfl, trivial⟩ | exact r_sb (Mo_worked_b300_ok g N _ hD _ hself_14  _ _ _ _ _ _ _ _ hE) (by simp only [su1, su2, dr1_rf, dr1_in, dr1_lo, dr2_rf, dr2_in, dr2_lo]; exact ⟨rfl, rfl, rfl, rfl, rfl, trivial⟩)
def Mo_worked_b243 (N : Nat) (self_14 : Nat → Int32 → Int32 → Int32 → PH → Option (Int32 × PH)) (s0 : Int32) (a0 : Nat) (x1 : Int32) (x2 : Int32) (x3 : Int32) (x4 : Int32) (h : PH) : Option (Int32 × PH) :=
  if x4 = 29 then
    ck ((hK h a0).1 = 11) <|
    bd (Mo_tests N a0 x2 h) fun v3 h4 =>
    ck ((hK h4 a0).1 = 11) <|
    ((hR h4 a0 21)).bind fun a_7 =>
    ck ((hK h4 a_7).1 = 20) <|
    ck (inb x2 (hK h4 a_7).2 = true) <|
    Mo_worked_b268 N self_14 N a0 x1 (x2 + (-1)) x3 (hI h4 a_7 (ix x2)) h4
  else
    Mo_worked_b268 N self_14 N a0 x1 x2 x3 s0 h
set_option maxRecDepth 20000 in
theorem Mo_worked_b243_ok (g : GT) (N : Nat) (D : Nat) (hD : 2 ≤ D) (self_14 : Nat → Int32 → Int32 → Int32 → PH → Option (Int32 × PH)) (hself_14 : ∀ (a0 : Nat) (x1 : Int32) (x2 : Int32) (x3 : Int32) (h : PH) (v : Int32) (h' : PH), self_14 a0 x1 x2 x3 h = some (v, h') → Run g pMo_worked D 14 [(0, va_rf (some a0)), (1, .int x1), (2, .int x2), (3, .int x3)] [] h (rI v) h') : ∀ (s0 : Int32) (a0 : Nat) (x1 : Int32) (x2 : Int32) (x3 : Int32) (x4 : Int32) (h : PH) (v : Int32) (h' : PH), Mo_worked_b243 N self_14 s0 a0 x1 x2 x3 x4 h = some (v, h') → Run g pMo_worked D 243 [(0, va_rf (some a0)), (1, .int x1), (2, .int x2), (3, .int x3), (4, .int x4)] [.int s0] h (rI v) h' := by
  obtain ⟨D2, rfl⟩ : ∃ d, D = d + 1 := ⟨D - 1, by omega⟩
  intro s0 a0 x1 x2 x3 x4 h v h' hE
  unfold Mo_worked_b243 at hE
  refine r_istore rfl (by decide) ?_
  refine r_iload rfl rfl ?_
  refine r_bipush 29 rfl cb_29 ?_
  refine r_icmp_ne (tgt := 268) rfl (by decide) (fun hc1 => ?_) (fun hc1 => ?_)
  · have hE := ifP hc1 hE
    refine r_aload_n (t := some a0) 0 rfl rfl rfl ?_
    refine r_iload_n 2 rfl rfl rfl ?_
    obtain ⟨hk2, hE⟩ := ckE hE
    obtain ⟨v3, h4, hq5, hE⟩ := bdE hE
    refine r_callV0 (rest := []) (hc := (Mo_tests_ok g N _ _ _ _ _ hq5 D2 (by omega))) rfl pm_Mo_tests lw_11_204 im_Mo_tests sl_Mo_tests rfl rfl rfl (rcOK hk2 rfl) (by decide) ?_
    refine r_aload_n (t := some a0) 0 rfl rfl rfl ?_
    obtain ⟨hk6, hE⟩ := ckE hE
    refine r_getR rfl (fl_11_42 rfl) (Or.inr ⟨_, rfl⟩) rfl hk6 ?_
    refine r_iload_n 2 rfl rfl rfl ?_
    obtain ⟨a_7, ha8, hE⟩ := bnE hE
    obtain ⟨hk9, hE⟩ := ckE hE
    obtain ⟨hi10, hE⟩ := ckE hE
    refine r_iald rfl ha8 hk9 hi10 ?_
    refine r_istore rfl (by decide) ?_
    refine r_iinc _ rfl rfl (congrArg _ ci_m1) (by decide) ?_
    first | exact r_sb (Mo_worked_b268_ok g N _ hD _ hself_14 N _ _ _ _ _ _ _ _ hE) ⟨rfl, rfl, rfl, rfl, rfl, trivial⟩ | exact r_sb (Mo_worked_b268_ok g N _ hD _ hself_14 N _ _ _ _ _ _ _ _ hE) (by simp only [su1, su2, dr1_rf, dr1_in, dr1_lo, dr2_rf, dr2_in, dr2_lo]; exact ⟨rfl, rfl, rfl, rfl, rfl, trivial⟩)
  · have hE := ifN hc1 hE
    first | exact r_sb (Mo_worked_b268_ok g N _ hD _ hself_14 N _ _ _ _ _ _ _ _ hE) ⟨rfl, rfl, rfl, rfl, rfl, trivial⟩ | exact r_sb (Mo_worked_b268_ok g N _ hD _ hself_14 N _ _ _ _ _ _ _ _ hE) (by simp only [su1, su2, dr1_rf, dr1_in, dr1_lo, dr2_rf, dr2_in, dr2_lo]; exact ⟨rfl, rfl, rfl, rfl, rfl, trivial⟩)
def Mo_worked_b14 (N : Nat) : Nat → Nat → Int32 → Int32 → Int32 → PH → Option (Int32 × PH)
  | 0 => fun _ _ _ _ _ => none
  | n + 1 => fun a0 x1 x2 x3 h =>
    ck ((hK h a0).1 = 11) <|
    ((hR h a0 15)).bind fun a_2 =>
    ck ((hK h a_2).1 = 20) <|
    ck (inb x1 (hK h a_2).2 = true) <|
    if (hI h a_2 (ix x1)) ≤ x3 then
      bd (Mo_tests N a0 0 h) fun v7 h8 =>
      ck ((hK h8 a0).1 = 11) <|
      ((hR h8 a0 21)).bind fun a_11 =>
      ck ((hK h8 a_11).1 = 20) <|
      ck (inb 0 (hK h8 a_11).2 = true) <|
      some ((hI h8 a_11 (ix 0)), h8)
    else
      ((hR h a0 16)).bind fun a_15 =>
      ck ((hK h a_15).1 = 20) <|
      ck (inb x3 (hK h a_15).2 = true) <|
      if (hI h a_15 (ix x3)) = 28 then
        Mo_worked_b46 N (Mo_worked_b14 N n)  a0 x1 x2 x3 (hI h a_15 (ix x3)) h
      else
        if (hI h a_15 (ix x3)) = 30 then
          Mo_worked_b46 N (Mo_worked_b14 N n)  a0 x1 x2 x3 (hI h a_15 (ix x3)) h
        else
          if (hI h a_15 (ix x3)) = 20 then
            Mo_worked_b89 N (Mo_worked_b14 N n)  a0 x1 x2 x3 (hI h a_15 (ix x3)) h
          else
            if (hI h a_15 (ix x3)) = 21 then
              Mo_worked_b89 N (Mo_worked_b14 N n)  a0 x1 x2 x3 (hI h a_15 (ix x3)) h
            else
              if (hI h a_15 (ix x3)) = 22 then
                ((hR h a0 28)).bind fun a_24 =>
                ck ((hK h a_24).1 = 20) <|
                ck (inb x2 (hK h a_24).2 = true) <|
                lt0 (wI h a_24 (ix x2) (hI h a_15 (ix x3))) fun h28 =>
                Mo_worked_b329 N (Mo_worked_b14 N n)  a0 x1 x2 x3 h28
              else
                if (hI h a_15 (ix x3)) = 24 then
                  Mo_worked_b137 N (Mo_worked_b14 N n)  a0 x1 x2 x3 (hI h a_15 (ix x3)) h
                else
                  if (hI h a_15 (ix x3)) = 25 then
                    Mo_worked_b137 N (Mo_worked_b14 N n)  a0 x1 x2 x3 (hI h a_15 (ix x3)) h
                  else
                    if (hI h a_15 (ix x3)) = 26 then
                      Mo_worked_b194 N (Mo_worked_b14 N n)  a0 x1 x2 x3 (hI h a_15 (ix x3)) h
                    else
                      if (hI h a_15 (ix x3)) = 27 then
                        Mo_worked_b194 N (Mo_worked_b14 N n)  a0 x1 x2 x3 (hI h a_15 (ix x3)) h
                      else
                        if (hI h a_15 (ix x3)) < 100 then
                          if 20 ≤ (hI h a_15 (ix x3)) then
                            Mo_worked_b243 N (Mo_worked_b14 N n)  0 a0 x1 x2 x3 (hI h a_15 (ix x3)) h
                          else
                            ((hR h a0 30)).bind fun a_36 =>
                            ck ((hK h a_36).1 = 20) <|
                            ck (inb (hI h a_15 (ix x3)) (hK h a_36).2 = true) <|
                            Mo_worked_b243 N (Mo_worked_b14 N n)  (hI h a_36 (ix (hI h a_15 (ix x3)))) a0 x1 x2 x3 (hI h a_15 (ix x3)) h
                        else
                          Mo_worked_b243 N (Mo_worked_b14 N n)  ((hI h a_15 (ix x3)) - 100) a0 x1 x2 x3 (hI h a_15 (ix x3)) h
set_option maxRecDepth 20000 in
theorem Mo_worked_b14_ok (g : GT) (N : Nat) (D : Nat) (hD : 2 ≤ D) : ∀ (n : Nat) (a0 : Nat) (x1 : Int32) (x2 : Int32) (x3 : Int32) (h : PH) (v : Int32) (h' : PH), Mo_worked_b14 N n a0 x1 x2 x3 h = some (v, h') → Run g pMo_worked D 14 [(0, va_rf (some a0)), (1, .int x1), (2, .int x2), (3, .int x3)] [] h (rI v) h' := by
  obtain ⟨D2, rfl⟩ : ∃ d, D = d + 1 := ⟨D - 1, by omega⟩
  intro n
  induction n with
  | zero => exact fun _ _ _ _ _ _ _ hE => nomatch (show none = some _ from hE)
  | succ n ih =>
    intro a0 x1 x2 x3 h v h' hE
    unfold Mo_worked_b14 at hE
    refine r_iload_n 3 rfl rfl rfl ?_
    refine r_aload_n (t := some a0) 0 rfl rfl rfl ?_
    obtain ⟨hk1, hE⟩ := ckE hE
    refine r_getR rfl (fl_11_30 rfl) (Or.inr ⟨_, rfl⟩) rfl hk1 ?_
    refine r_iload_n 1 rfl rfl rfl ?_
    obtain ⟨a_2, ha3, hE⟩ := bnE hE
    obtain ⟨hk4, hE⟩ := ckE hE
    obtain ⟨hi5, hE⟩ := ckE hE
    refine r_iald rfl ha3 hk4 hi5 ?_
    refine r_icmp_ge (tgt := 335) rfl (by decide) (fun hc6 => ?_) (fun hc6 => ?_)
    · have hE := ifP hc6 hE
      refine r_aload_n (t := some a0) 0 rfl rfl rfl ?_
      refine r_iconst 0 rfl ci_0 ?_
      obtain ⟨v7, h8, hq9, hE⟩ := bdE hE
      refine r_callV0 (rest := []) (hc := (Mo_tests_ok g N _ _ _ _ _ hq9 D2 (by omega))) rfl pm_Mo_tests lw_11_204 im_Mo_tests sl_Mo_tests rfl rfl rfl (rcOK hk1 rfl) (by decide) ?_
      refine r_aload_n (t := some a0) 0 rfl rfl rfl ?_
      obtain ⟨hk10, hE⟩ := ckE hE
      refine r_getR rfl (fl_11_42 rfl) (Or.inr ⟨_, rfl⟩) rfl hk10 ?_
      refine r_iconst 0 rfl ci_0 ?_
      obtain ⟨a_11, ha12, hE⟩ := bnE hE
      obtain ⟨hk13, hE⟩ := ckE hE
      obtain ⟨hi14, hE⟩ := ckE hE
      refine r_iald rfl ha12 hk13 hi14 ?_
      cases hE
      exact r_ret rfl (Or.inl ⟨rfl, _, _, rfl, rfl, rfl, rfl⟩)
    · have hE := ifN hc6 hE
      refine r_aload_n (t := some a0) 0 rfl rfl rfl ?_
      refine r_getR rfl (fl_11_33 rfl) (Or.inr ⟨_, rfl⟩) rfl hk1 ?_
      refine r_iload_n 3 rfl rfl rfl ?_
      obtain ⟨a_15, ha16, hE⟩ := bnE hE
      obtain ⟨hk17, hE⟩ := ckE hE
      obtain ⟨hi18, hE⟩ := ckE hE
      refine r_iald rfl ha16 hk17 hi18 ?_
      refine r_istore rfl (by decide) ?_
      refine r_iload rfl rfl ?_
      refine r_bipush 28 rfl cb_28 ?_
      refine r_icmp_eq (tgt := 46) rfl (by decide) (fun hc19 => ?_) (fun hc19 => ?_)
      · have hE := ifP hc19 hE
        first | exact r_sb (Mo_worked_b46_ok g N _ hD _ ih  _ _ _ _ _ _ _ _ hE) ⟨rfl, rfl, rfl, rfl, rfl, trivial⟩ | exact r_sb (Mo_worked_b46_ok g N _ hD _ ih  _ _ _ _ _ _ _ _ hE) (by simp only [su1, su2, dr1_rf, dr1_in, dr1_lo, dr2_rf, dr2_in, dr2_lo]; exact ⟨rfl, rfl, rfl, rfl, rfl, trivial⟩)
      · have hE := ifN hc19 hE
        refine r_iload rfl rfl ?_
        refine r_bipush 30 rfl cb_30 ?_
        refine r_icmp_ne (tgt := 75) rfl (by decide) (fun hc20 => ?_) (fun hc20 => ?_)
        · have hE := ifP hc20 hE
          first | exact r_sb (Mo_worked_b46_ok g N _ hD _ ih  _ _ _ _ _ _ _ _ hE) ⟨rfl, rfl, rfl, rfl, rfl, trivial⟩ | exact r_sb (Mo_worked_b46_ok g N _ hD _ ih  _ _ _ _ _ _ _ _ hE) (by simp only [su1, su2, dr1_rf, dr1_in, dr1_lo, dr2_rf, dr2_in, dr2_lo]; exact ⟨rfl, rfl, rfl, rfl, rfl, trivial⟩)
        · have hE := ifN hc20 hE
          refine r_iload rfl rfl ?_
          refine r_bipush 20 rfl cb_20 ?_
          refine r_icmp_eq (tgt := 89) rfl (by decide) (fun hc21 => ?_) (fun hc21 => ?_)
          · have hE := ifP hc21 hE
            first | exact r_sb (Mo_worked_b89_ok g N _ hD _ ih  _ _ _ _ _ _ _ _ hE) ⟨rfl, rfl, rfl, rfl, rfl, trivial⟩ | exact r_sb (Mo_worked_b89_ok g N _ hD _ ih  _ _ _ _ _ _ _ _ hE) (by simp only [su1, su2, dr1_rf, dr1_in, dr1_lo, dr2_rf, dr2_in, dr2_lo]; exact ⟨rfl, rfl, rfl, rfl, rfl, trivial⟩)
          · have hE := ifN hc21 hE
            refine r_iload rfl rfl ?_
            refine r_bipush 21 rfl cb_21 ?_
            refine r_icmp_ne (tgt := 105) rfl (by decide) (fun hc22 => ?_) (fun hc22 => ?_)
            · have hE := ifP hc22 hE
              first | exact r_sb (Mo_worked_b89_ok g N _ hD _ ih  _ _ _ _ _ _ _ _ hE) ⟨rfl, rfl, rfl, rfl, rfl, trivial⟩ | exact r_sb (Mo_worked_b89_ok g N _ hD _ ih  _ _ _ _ _ _ _ _ hE) (by simp only [su1, su2, dr1_rf, dr1_in, dr1_lo, dr2_rf, dr2_in, dr2_lo]; exact ⟨rfl, rfl, rfl, rfl, rfl, trivial⟩)
            · have hE := ifN hc22 hE
              refine r_iload rfl rfl ?_
              refine r_bipush 22 rfl cb_22 ?_
              refine r_icmp_ne (tgt := 123) rfl (by decide) (fun hc23 => ?_) (fun hc23 => ?_)
              · have hE := ifP hc23 hE
                refine r_aload_n (t := some a0) 0 rfl rfl rfl ?_
                refine r_getR rfl (fl_11_63 rfl) (Or.inr ⟨_, rfl⟩) rfl hk1 ?_
                refine r_iload_n 2 rfl rfl rfl ?_
                refine r_iload rfl rfl ?_
                obtain ⟨a_24, ha25, hE⟩ := bnE hE
                obtain ⟨hk26, hE⟩ := ckE hE
                obtain ⟨hi27, hE⟩ := ckE hE
                obtain ⟨h28, he29, hE⟩ := ltE hE
                refine r_iast rfl ha25 hk26 hi27 he29 ?_
                refine r_goto (tgt := 329) rfl (by decide) ?_
                first | exact r_sb (Mo_worked_b329_ok g N _ hD _ ih  _ _ _ _ _ _ _ hE) ⟨rfl, rfl, rfl, rfl, trivial⟩ | exact r_sb (Mo_worked_b329_ok g N _ hD _ ih  _ _ _ _ _ _ _ hE) (by simp only [su1, su2, dr1_rf, dr1_in, dr1_lo, dr2_rf, dr2_in, dr2_lo]; exact ⟨rfl, rfl, rfl, rfl, trivial⟩)
              · have hE := ifN hc23 hE
                refine r_iload rfl rfl ?_
                refine r_bipush 24 rfl cb_24 ?_
                refine r_icmp_eq (tgt := 137) rfl (by decide) (fun hc30 => ?_) (fun hc30 => ?_)
                · have hE := ifP hc30 hE
                  first | exact r_sb (Mo_worked_b137_ok g N _ hD _ ih  _ _ _ _ _ _ _ _ hE) ⟨rfl, rfl, rfl, rfl, rfl, trivial⟩ | exact r_sb (Mo_worked_b137_ok g N _ hD _ ih  _ _ _ _ _ _ _ _ hE) (by simp only [su1, su2, dr1_rf, dr1_in, dr1_lo, dr2_rf, dr2_in, dr2_lo]; exact ⟨rfl, rfl, rfl, rfl, rfl, trivial⟩)
                · have hE := ifN hc30 hE
                  refine r_iload rfl rfl ?_
                  refine r_bipush 25 rfl cb_25 ?_
                  refine r_icmp_ne (tgt := 180) rfl (by decide) (fun hc31 => ?_) (fun hc31 => ?_)
                  · have hE := ifP hc31 hE
                    first | exact r_sb (Mo_worked_b137_ok g N _ hD _ ih  _ _ _ _ _ _ _ _ hE) ⟨rfl, rfl, rfl, rfl, rfl, trivial⟩ | exact r_sb (Mo_worked_b137_ok g N _ hD _ ih  _ _ _ _ _ _ _ _ hE) (by simp only [su1, su2, dr1_rf, dr1_in, dr1_lo, dr2_rf, dr2_in, dr2_lo]; exact ⟨rfl, rfl, rfl, rfl, rfl, trivial⟩)
                  · have hE := ifN hc31 hE
                    refine r_iload rfl rfl ?_
                    refine r_bipush 26 rfl cb_26 ?_
                    refine r_icmp_eq (tgt := 194) rfl (by decide) (fun hc32 => ?_) (fun hc32 => ?_)
                    · have hE := ifP hc32 hE
                      first | exact r_sb (Mo_worked_b194_ok g N _ hD _ ih  _ _ _ _ _ _ _ _ hE) ⟨rfl, rfl, rfl, rfl, rfl, trivial⟩ | exact r_sb (Mo_worked_b194_ok g N _ hD _ ih  _ _ _ _ _ _ _ _ hE) (by simp only [su1, su2, dr1_rf, dr1_in, dr1_lo, dr2_rf, dr2_in, dr2_lo]; exact ⟨rfl, rfl, rfl, rfl, rfl, trivial⟩)
                    · have hE := ifN hc32 hE
                      refine r_iload rfl rfl ?_
                      refine r_bipush 27 rfl cb_27 ?_
                      refine r_icmp_ne (tgt := 210) rfl (by decide) (fun hc33 => ?_) (fun hc33 => ?_)
                      · have hE := ifP hc33 hE
                        first | exact r_sb (Mo_worked_b194_ok g N _ hD _ ih  _ _ _ _ _ _ _ _ hE) ⟨rfl, rfl, rfl, rfl, rfl, trivial⟩ | exact r_sb (Mo_worked_b194_ok g N _ hD _ ih  _ _ _ _ _ _ _ _ hE) (by simp only [su1, su2, dr1_rf, dr1_in, dr1_lo, dr2_rf, dr2_in, dr2_lo]; exact ⟨rfl, rfl, rfl, rfl, rfl, trivial⟩)
                      · have hE := ifN hc33 hE
                        refine r_iload rfl rfl ?_
                        refine r_bipush 100 rfl cb_100 ?_
                        refine r_icmp_lt (tgt := 225) rfl (by decide) (fun hc34 => ?_) (fun hc34 => ?_)
                        · have hE := ifP hc34 hE
                          refine r_iload rfl rfl ?_
                          refine r_bipush 20 rfl cb_20 ?_
                          refine r_icmp_ge (tgt := 242) rfl (by decide) (fun hc35 => ?_) (fun hc35 => ?_)
                          · have hE := ifP hc35 hE
                            refine r_iconst 0 rfl ci_0 ?_
                            first | exact r_sb (Mo_worked_b243_ok g N _ hD _ ih  _ _ _ _ _ _ _ _ _ hE) ⟨rfl, rfl, rfl, rfl, rfl, trivial⟩ | exact r_sb (Mo_worked_b243_ok g N _ hD _ ih  _ _ _ _ _ _ _ _ _ hE) (by simp only [su1, su2, dr1_rf, dr1_in, dr1_lo, dr2_rf, dr2_in, dr2_lo]; exact ⟨rfl, rfl, rfl, rfl, rfl, trivial⟩)
                          · have hE := ifN hc35 hE
                            refine r_aload_n (t := some a0) 0 rfl rfl rfl ?_
                            refine r_getR rfl (fl_11_69 rfl) (Or.inr ⟨_, rfl⟩) rfl hk1 ?_
                            refine r_iload rfl rfl ?_
                            obtain ⟨a_36, ha37, hE⟩ := bnE hE
                            obtain ⟨hk38, hE⟩ := ckE hE
                            obtain ⟨hi39, hE⟩ := ckE hE
                            refine r_iald rfl ha37 hk38 hi39 ?_
                            refine r_goto (tgt := 243) rfl (by decide) ?_
                            first | exact r_sb (Mo_worked_b243_ok g N _ hD _ ih  _ _ _ _ _ _ _ _ _ hE) ⟨rfl, rfl, rfl, rfl, rfl, trivial⟩ | exact r_sb (Mo_worked_b243_ok g N _ hD _ ih  _ _ _ _ _ _ _ _ _ hE) (by simp only [su1, su2, dr1_rf, dr1_in, dr1_lo, dr2_rf, dr2_in, dr2_lo]; exact ⟨rfl, rfl, rfl, rfl, rfl, trivial⟩)
                        · have hE := ifN hc34 hE
                          refine r_iload rfl rfl ?_
                          refine r_bipush 100 rfl cb_100 ?_
                          refine r_isub rfl ?_
                          refine r_goto (tgt := 243) rfl (by decide) ?_
                          first | exact r_sb (Mo_worked_b243_ok g N _ hD _ ih  _ _ _ _ _ _ _ _ _ hE) ⟨rfl, rfl, rfl, rfl, rfl, trivial⟩ | exact r_sb (Mo_worked_b243_ok g N _ hD _ ih  _ _ _ _ _ _ _ _ _ hE) (by simp only [su1, su2, dr1_rf, dr1_in, dr1_lo, dr2_rf, dr2_in, dr2_lo]; exact ⟨rfl, rfl, rfl, rfl, rfl, trivial⟩)
def Mo_worked (N : Nat) (a0 : Nat) (x1 : Int32) (h : PH) : Option (Int32 × PH) :=
  ck ((hK h a0).1 = 11) <|
  bd (Mo_opens N a0 0 h) fun v2 h3 =>
  ck ((hK h3 a0).1 = 11) <|
  ((hR h3 a0 14)).bind fun a_6 =>
  ck ((hK h3 a_6).1 = 20) <|
  ck (inb x1 (hK h3 a_6).2 = true) <|
  Mo_worked_b14 N N a0 x1 0 (hI h3 a_6 (ix x1)) h3
set_option maxRecDepth 20000 in
theorem Mo_worked_ok (g : GT) (N : Nat) (a0 : Nat) (x1 : Int32) (h : PH) (v : Int32) (h' : PH) (hE : Mo_worked N a0 x1 h = some (v, h')) (D : Nat) (hD : 2 ≤ D) : Calls g D pMo_worked [va_rf (some a0), .int x1] h (oI v) h' := by
  refine Calls.of cok_Mo_worked ht_Mo_worked pl_Mo_worked (fun ad => by rw [lg_len, sL_cat]; simp only [List.map_cons, List.map_nil, rf_cat, cat_i, cat_l, List.sum_cons, List.sum_nil]; decide) ?_
  rw [show lv_args 0 [va_rf (some a0), .int x1] = [(0, va_rf (some a0)), (1, .int x1)] from (by simp only [lv_args, rf_cat, cat_i, cat_l]; try rfl)]
  obtain ⟨D2, rfl⟩ : ∃ d, D = d + 1 := ⟨D - 1, by omega⟩
  unfold Mo_worked at hE
  refine r_iconst 0 rfl ci_0 ?_
  refine r_istore_n 2 rfl rfl (by decide) ?_
  refine r_aload_n (t := some a0) 0 rfl rfl rfl ?_
  refine r_iconst 0 rfl ci_0 ?_
  obtain ⟨hk1, hE⟩ := ckE hE
  obtain ⟨v2, h3, hq4, hE⟩ := bdE hE
  refine r_callV0 (rest := []) (hc := (Mo_opens_ok g N _ _ _ _ _ hq4 D2 (by omega))) rfl pm_Mo_opens lw_11_201 im_Mo_opens sl_Mo_opens rfl rfl rfl (rcOK hk1 rfl) (by decide) ?_
  refine r_aload_n (t := some a0) 0 rfl rfl rfl ?_
  obtain ⟨hk5, hE⟩ := ckE hE
  refine r_getR rfl (fl_11_27 rfl) (Or.inr ⟨_, rfl⟩) rfl hk5 ?_
  refine r_iload_n 1 rfl rfl rfl ?_
  obtain ⟨a_6, ha7, hE⟩ := bnE hE
  obtain ⟨hk8, hE⟩ := ckE hE
  obtain ⟨hi9, hE⟩ := ckE hE
  refine r_iald rfl ha7 hk8 hi9 ?_
  refine r_istore_n 3 rfl rfl (by decide) ?_
  first | exact r_sb (Mo_worked_b14_ok g N _ hD  N _ _ _ _ _ _ _ hE) ⟨rfl, rfl, rfl, rfl, trivial⟩ | exact r_sb (Mo_worked_b14_ok g N _ hD  N _ _ _ _ _ _ _ hE) (by simp only [su1, su2, dr1_rf, dr1_in, dr1_lo, dr2_rf, dr2_in, dr2_lo]; exact ⟨rfl, rfl, rfl, rfl, trivial⟩)
def Mo_between (N : Nat) (x0 : Int32) (x1 : Int32) (x2 : Int32) (h : PH) : Option (Int32 × PH) :=
  if x1 ≤ x0 then
    if x0 ≤ x2 then
      some (x0, h)
    else
      some (x2, h)
  else
    some (x1, h)
set_option maxRecDepth 20000 in
theorem Mo_between_ok (g : GT) (N : Nat) (x0 : Int32) (x1 : Int32) (x2 : Int32) (h : PH) (v : Int32) (h' : PH) (hE : Mo_between N x0 x1 x2 h = some (v, h')) (D : Nat) (hD : 0 ≤ D) : Calls g D pMo_between [.int x0, .int x1, .int x2] h (oI v) h' := by
  refine Calls.of cok_Mo_between ht_Mo_between pl_Mo_between (fun ad => by rw [lg_len, sL_cat]; simp only [List.map_cons, List.map_nil, rf_cat, cat_i, cat_l, List.sum_cons, List.sum_nil]; decide) ?_
  rw [show lv_args 0 [.int x0, .int x1, .int x2] = [(0, .int x0), (1, .int x1), (2, .int x2)] from (by simp only [lv_args, rf_cat, cat_i, cat_l]; try rfl)]
  unfold Mo_between at hE
  refine r_iload_n 0 rfl rfl rfl ?_
  refine r_iload_n 1 rfl rfl rfl ?_
  refine r_icmp_ge (tgt := 9) rfl (by decide) (fun hc1 => ?_) (fun hc1 => ?_)
  · have hE := ifP hc1 hE
    refine r_iload_n 0 rfl rfl rfl ?_
    refine r_iload_n 2 rfl rfl rfl ?_
    refine r_icmp_le (tgt := 18) rfl (by decide) (fun hc2 => ?_) (fun hc2 => ?_)
    · have hE := ifP hc2 hE
      refine r_iload_n 0 rfl rfl rfl ?_
      cases hE
      exact r_ret rfl (Or.inl ⟨rfl, _, _, rfl, rfl, rfl, rfl⟩)
    · have hE := ifN hc2 hE
      refine r_iload_n 2 rfl rfl rfl ?_
      refine r_goto (tgt := 19) rfl (by decide) ?_
      cases hE
      exact r_ret rfl (Or.inl ⟨rfl, _, _, rfl, rfl, rfl, rfl⟩)
  · have hE := ifN hc1 hE
    refine r_iload_n 1 rfl rfl rfl ?_
    refine r_goto (tgt := 19) rfl (by decide) ?_
    cases hE
    exact r_ret rfl (Or.inl ⟨rfl, _, _, rfl, rfl, rfl, rfl⟩)
def Mo_habitGive (N : Nat) (a0 : Nat) (x1 : Int32) (x2 : Int32) (x3 : Int32) (x4 : Int32) (x5 : Int32) (h : PH) : Option (Int32 × PH) :=
  ck ((hK h a0).1 = 11) <|
  ((hR h a0 30)).bind fun a_2 =>
  ck ((hK h a_2).1 = 20) <|
  ck (inb 1 (hK h a_2).2 = true) <|
  lt0 (wI h a_2 (ix 1) x3) fun h6 =>
  ((hR h6 a0 30)).bind fun a_8 =>
  ck ((hK h6 a_8).1 = 20) <|
  ck (inb 2 (hK h6 a_8).2 = true) <|
  lt0 (wI h6 a_8 (ix 2) x4) fun h12 =>
  ((hR h12 a0 30)).bind fun a_14 =>
  ck ((hK h12 a_14).1 = 20) <|
  ck (inb 3 (hK h12 a_14).2 = true) <|
  lt0 (wI h12 a_14 (ix 3) x2) fun h18 =>
  ((hR h18 a0 10)).bind fun a_20 =>
  ck ((hK h18 a_20).1 = 20) <|
  ck (inb 0 (hK h18 a_20).2 = true) <|
  ((hR h18 a0 30)).bind fun a_24 =>
  ck ((hK h18 a_24).1 = 20) <|
  ck (inb 4 (hK h18 a_24).2 = true) <|
  lt0 (wI h18 a_24 (ix 4) ((hI h18 a_20 (ix 0)) - x2)) fun h28 =>
  ((hR h28 a0 30)).bind fun a_30 =>
  ck ((hK h28 a_30).1 = 20) <|
  ck (inb 5 (hK h28 a_30).2 = true) <|
  lt0 (wI h28 a_30 (ix 5) x5) fun h34 =>
  bd (Mo_worked N a0 x1 h34) fun v36 h37 =>
  bd (Mo_between N v36 0 4 h37) fun v39 h40 =>
  some (v39, h40)
set_option maxRecDepth 20000 in
theorem Mo_habitGive_ok (g : GT) (N : Nat) (a0 : Nat) (x1 : Int32) (x2 : Int32) (x3 : Int32) (x4 : Int32) (x5 : Int32) (h : PH) (v : Int32) (h' : PH) (hE : Mo_habitGive N a0 x1 x2 x3 x4 x5 h = some (v, h')) (D : Nat) (hD : 3 ≤ D) : Calls g D pMo_habitGive [va_rf (some a0), .int x1, .int x2, .int x3, .int x4, .int x5] h (oI v) h' := by
  refine Calls.of cok_Mo_habitGive ht_Mo_habitGive pl_Mo_habitGive (fun ad => by rw [lg_len, sL_cat]; simp only [List.map_cons, List.map_nil, rf_cat, cat_i, cat_l, List.sum_cons, List.sum_nil]; decide) ?_
  rw [show lv_args 0 [va_rf (some a0), .int x1, .int x2, .int x3, .int x4, .int x5] = [(0, va_rf (some a0)), (1, .int x1), (2, .int x2), (3, .int x3), (4, .int x4), (5, .int x5)] from (by simp only [lv_args, rf_cat, cat_i, cat_l]; try rfl)]
  obtain ⟨D2, rfl⟩ : ∃ d, D = d + 1 := ⟨D - 1, by omega⟩
  unfold Mo_habitGive at hE
  refine r_aload_n (t := some a0) 0 rfl rfl rfl ?_
  obtain ⟨hk1, hE⟩ := ckE hE
  refine r_getR rfl (fl_11_69 rfl) (Or.inr ⟨_, rfl⟩) rfl hk1 ?_
  refine r_iconst 1 rfl ci_1 ?_
  refine r_iload_n 3 rfl rfl rfl ?_
  obtain ⟨a_2, ha3, hE⟩ := bnE hE
  obtain ⟨hk4, hE⟩ := ckE hE
  obtain ⟨hi5, hE⟩ := ckE hE
  obtain ⟨h6, he7, hE⟩ := ltE hE
  refine r_iast rfl ha3 hk4 hi5 he7 ?_
  refine r_aload_n (t := some a0) 0 rfl rfl rfl ?_
  refine r_getR rfl (fl_11_69 rfl) (Or.inr ⟨_, rfl⟩) rfl (kwI he7 hk1) ?_
  refine r_iconst 2 rfl ci_2 ?_
  refine r_iload rfl rfl ?_
  obtain ⟨a_8, ha9, hE⟩ := bnE hE
  obtain ⟨hk10, hE⟩ := ckE hE
  obtain ⟨hi11, hE⟩ := ckE hE
  obtain ⟨h12, he13, hE⟩ := ltE hE
  refine r_iast rfl ha9 hk10 hi11 he13 ?_
  refine r_aload_n (t := some a0) 0 rfl rfl rfl ?_
  refine r_getR rfl (fl_11_69 rfl) (Or.inr ⟨_, rfl⟩) rfl (kwI he13 (kwI he7 hk1)) ?_
  refine r_iconst 3 rfl ci_3 ?_
  refine r_iload_n 2 rfl rfl rfl ?_
  obtain ⟨a_14, ha15, hE⟩ := bnE hE
  obtain ⟨hk16, hE⟩ := ckE hE
  obtain ⟨hi17, hE⟩ := ckE hE
  obtain ⟨h18, he19, hE⟩ := ltE hE
  refine r_iast rfl ha15 hk16 hi17 he19 ?_
  refine r_aload_n (t := some a0) 0 rfl rfl rfl ?_
  refine r_getR rfl (fl_11_69 rfl) (Or.inr ⟨_, rfl⟩) rfl (kwI he19 (kwI he13 (kwI he7 hk1))) ?_
  refine r_iconst 4 rfl ci_4 ?_
  refine r_aload_n (t := some a0) 0 rfl rfl rfl ?_
  refine r_getR rfl (fl_11_13 rfl) (Or.inr ⟨_, rfl⟩) rfl (kwI he19 (kwI he13 (kwI he7 hk1))) ?_
  refine r_iconst 0 rfl ci_0 ?_
  obtain ⟨a_20, ha21, hE⟩ := bnE hE
  obtain ⟨hk22, hE⟩ := ckE hE
  obtain ⟨hi23, hE⟩ := ckE hE
  refine r_iald rfl ha21 hk22 hi23 ?_
  refine r_iload_n 2 rfl rfl rfl ?_
  refine r_isub rfl ?_
  obtain ⟨a_24, ha25, hE⟩ := bnE hE
  obtain ⟨hk26, hE⟩ := ckE hE
  obtain ⟨hi27, hE⟩ := ckE hE
  obtain ⟨h28, he29, hE⟩ := ltE hE
  refine r_iast rfl ha25 hk26 hi27 he29 ?_
  refine r_aload_n (t := some a0) 0 rfl rfl rfl ?_
  refine r_getR rfl (fl_11_69 rfl) (Or.inr ⟨_, rfl⟩) rfl (kwI he29 (kwI he19 (kwI he13 (kwI he7 hk1)))) ?_
  refine r_iconst 5 rfl ci_5 ?_
  refine r_iload rfl rfl ?_
  obtain ⟨a_30, ha31, hE⟩ := bnE hE
  obtain ⟨hk32, hE⟩ := ckE hE
  obtain ⟨hi33, hE⟩ := ckE hE
  obtain ⟨h34, he35, hE⟩ := ltE hE
  refine r_iast rfl ha31 hk32 hi33 he35 ?_
  refine r_aload_n (t := some a0) 0 rfl rfl rfl ?_
  refine r_iload_n 1 rfl rfl rfl ?_
  obtain ⟨v36, h37, hq38, hE⟩ := bdE hE
  refine r_callV1 (rest := []) (hc := (Mo_worked_ok g N _ _ _ _ _ hq38 D2 (by omega))) rfl pm_Mo_worked lw_11_423 im_Mo_worked sl_Mo_worked rfl rfl rfl (rcOK (kwI he35 (kwI he29 (kwI he19 (kwI he13 (kwI he7 hk1))))) rfl) (by decide) ?_
  refine r_iconst 0 rfl ci_0 ?_
  refine r_iconst 4 rfl ci_4 ?_
  obtain ⟨v39, h40, hq41, hE⟩ := bdE hE
  refine r_callS1 (rest := []) (hc := (Mo_between_ok g N _ _ _ _ _ _ hq41 D2 (by omega))) rfl pm_Mo_between lw_11_426 st_Mo_between rfl rfl (by decide) ?_
  cases hE
  exact r_ret rfl (Or.inl ⟨rfl, _, _, rfl, rfl, rfl, rfl⟩)
def Mo_meanBy_b158 (N : Nat) (self_6 : Nat → Int32 → Int32 → Int32 → Int32 → Int32 → Int32 → Int64 → Int32 → PH → Option (Int32 × PH)) (a0 : Nat) (x1 : Int32) (x2 : Int32) (x3 : Int32) (x4 : Int32) (x5 : Int32) (x6 : Int32) (x7 : Int64) (x9 : Int32) (h : PH) : Option (Int32 × PH) :=
  self_6 a0 x1 x2 x3 x4 x5 x6 x7 (x9 + 1) h
set_option maxRecDepth 20000 in
theorem Mo_meanBy_b158_ok (g : GT) (N : Nat) (D : Nat) (hD : 4 ≤ D) (self_6 : Nat → Int32 → Int32 → Int32 → Int32 → Int32 → Int32 → Int64 → Int32 → PH → Option (Int32 × PH)) (hself_6 : ∀ (a0 : Nat) (x1 : Int32) (x2 : Int32) (x3 : Int32) (x4 : Int32) (x5 : Int32) (x6 : Int32) (x7 : Int64) (x9 : Int32) (h : PH) (v : Int32) (h' : PH), self_6 a0 x1 x2 x3 x4 x5 x6 x7 x9 h = some (v, h') → Run g pMo_meanBy D 6 [(0, va_rf (some a0)), (1, .int x1), (2, .int x2), (3, .int x3), (4, .int x4), (5, .int x5), (6, .int x6), (7, .long x7), (9, .int x9)] [] h (rI v) h') : ∀ (a0 : Nat) (x1 : Int32) (x2 : Int32) (x3 : Int32) (x4 : Int32) (x5 : Int32) (x6 : Int32) (x7 : Int64) (x9 : Int32) (h : PH) (v : Int32) (h' : PH), Mo_meanBy_b158 N self_6 a0 x1 x2 x3 x4 x5 x6 x7 x9 h = some (v, h') → Run g pMo_meanBy D 158 [(0, va_rf (some a0)), (1, .int x1), (2, .int x2), (3, .int x3), (4, .int x4), (5, .int x5), (6, .int x6), (7, .long x7), (9, .int x9)] [] h (rI v) h' := by
  obtain ⟨D2, rfl⟩ : ∃ d, D = d + 1 := ⟨D - 1, by omega⟩
  intro a0 x1 x2 x3 x4 x5 x6 x7 x9 h v h' hE
  unfold Mo_meanBy_b158 at hE
  refine r_iinc _ rfl rfl (congrArg _ ci_1) (by decide) ?_
  refine r_goto (tgt := 6) rfl (by decide) ?_
  first | exact r_sb (hself_6 _ _ _ _ _ _ _ _ _ _ _ _ hE) ⟨rfl, rfl, rfl, rfl, rfl, rfl, rfl, rfl, rfl, trivial⟩ | exact r_sb (hself_6 _ _ _ _ _ _ _ _ _ _ _ _ hE) (by simp only [su1, su2, dr1_rf, dr1_in, dr1_lo, dr2_rf, dr2_in, dr2_lo]; exact ⟨rfl, rfl, rfl, rfl, rfl, rfl, rfl, rfl, rfl, trivial⟩)
def Mo_meanBy_b148 (N : Nat) (self_6 : Nat → Int32 → Int32 → Int32 → Int32 → Int32 → Int32 → Int64 → Int32 → PH → Option (Int32 × PH)) (s0 : Int64) (s1 : Int64) (s2 : Int32) (s3 : Option Nat) (s4 : Int32) (s5 : Int32) (s6 : Int32) (s7 : Int32) (a0 : Nat) (x1 : Int32) (x2 : Int32) (x3 : Int32) (x4 : Int32) (x5 : Int32) (x6 : Int32) (x9 : Int32) (h : PH) : Option (Int32 × PH) :=
  bd (Mo_at N s4 s5 s6 s7 h) fun v1 h2 =>
  (s3).bind fun a_4 =>
  ck ((hK h2 a_4).1 = 20) <|
  ck (inb v1 (hK h2 a_4).2 = true) <|
  Mo_meanBy_b158 N self_6  a0 x1 x2 x3 x4 x5 x6 (s0 + (s1 * (Int32.toInt64 (s2 + (hI h2 a_4 (ix v1)))))) x9 h2
set_option maxRecDepth 20000 in
theorem Mo_meanBy_b148_ok (g : GT) (N : Nat) (D : Nat) (hD : 4 ≤ D) (self_6 : Nat → Int32 → Int32 → Int32 → Int32 → Int32 → Int32 → Int64 → Int32 → PH → Option (Int32 × PH)) (hself_6 : ∀ (a0 : Nat) (x1 : Int32) (x2 : Int32) (x3 : Int32) (x4 : Int32) (x5 : Int32) (x6 : Int32) (x7 : Int64) (x9 : Int32) (h : PH) (v : Int32) (h' : PH), self_6 a0 x1 x2 x3 x4 x5 x6 x7 x9 h = some (v, h') → Run g pMo_meanBy D 6 [(0, va_rf (some a0)), (1, .int x1), (2, .int x2), (3, .int x3), (4, .int x4), (5, .int x5), (6, .int x6), (7, .long x7), (9, .int x9)] [] h (rI v) h') : ∀ (s0 : Int64) (s1 : Int64) (s2 : Int32) (s3 : Option Nat) (s4 : Int32) (s5 : Int32) (s6 : Int32) (s7 : Int32) (a0 : Nat) (x1 : Int32) (x2 : Int32) (x3 : Int32) (x4 : Int32) (x5 : Int32) (x6 : Int32) (x9 : Int32) (h : PH) (v : Int32) (h' : PH), Mo_meanBy_b148 N self_6 s0 s1 s2 s3 s4 s5 s6 s7 a0 x1 x2 x3 x4 x5 x6 x9 h = some (v, h') → Run g pMo_meanBy D 148 [(0, va_rf (some a0)), (1, .int x1), (2, .int x2), (3, .int x3), (4, .int x4), (5, .int x5), (6, .int x6), (9, .int x9)] [.int s7, .int s6, .int s5, .int s4, va_rf s3, .int s2, .long s1, .long s0] h (rI v) h' := by
  obtain ⟨D2, rfl⟩ : ∃ d, D = d + 1 := ⟨D - 1, by omega⟩
  intro s0 s1 s2 s3 s4 s5 s6 s7 a0 x1 x2 x3 x4 x5 x6 x9 h v h' hE
  unfold Mo_meanBy_b148 at hE
  obtain ⟨v1, h2, hq3, hE⟩ := bdE hE
  refine r_callS1 (rest := [va_rf s3, .int s2, .long s1, .long s0]) (hc := (Mo_at_ok g N _ _ _ _ _ _ _ hq3 D2 (by omega))) rfl pm_Mo_at lw_11_386 st_Mo_at rfl rfl (by simp only [List.map_cons, List.map_nil, rf_cat, cat_i, cat_l, List.sum_cons, List.sum_nil]; decide) ?_
  obtain ⟨a_4, ha5, hE⟩ := bnE hE
  obtain ⟨hk6, hE⟩ := ckE hE
  obtain ⟨hi7, hE⟩ := ckE hE
  refine r_iald rfl ha5 hk6 hi7 ?_
  refine r_iadd rfl ?_
  refine r_i2l rfl ?_
  refine r_lmul rfl ?_
  refine r_ladd rfl ?_
  refine r_lstore rfl (by decide) ?_
  first | exact r_sb (Mo_meanBy_b158_ok g N _ hD _ hself_6  _ _ _ _ _ _ _ _ _ _ _ _ hE) ⟨rfl, rfl, rfl, rfl, rfl, rfl, rfl, rfl, rfl, trivial⟩ | exact r_sb (Mo_meanBy_b158_ok g N _ hD _ hself_6  _ _ _ _ _ _ _ _ _ _ _ _ hE) (by simp only [su1, su2, dr1_rf, dr1_in, dr1_lo, dr2_rf, dr2_in, dr2_lo]; exact ⟨rfl, rfl, rfl, rfl, rfl, rfl, rfl, rfl, rfl, trivial⟩)
def Mo_meanBy_b117 (N : Nat) (self_6 : Nat → Int32 → Int32 → Int32 → Int32 → Int32 → Int32 → Int64 → Int32 → PH → Option (Int32 × PH)) (s0 : Int64) (s1 : Int64) (s2 : Int32) (a0 : Nat) (x1 : Int32) (x2 : Int32) (x3 : Int32) (x4 : Int32) (x5 : Int32) (x6 : Int32) (x9 : Int32) (x11 : Int32) (x12 : Int32) (h : PH) : Option (Int32 × PH) :=
  ck ((hK h a0).1 = 11) <|
  bd (Mo_isWordBy N a0 x12 x11 h) fun v2 h3 =>
  if (bI v2) = 0 then
    Mo_meanBy_b148 N self_6  s0 s1 s2 (hR h a0 44) (x2 + 1) (hI h a0 41) (hI h a0 42) 0 a0 x1 x2 x3 x4 x5 x6 x9 h3
  else
    Mo_meanBy_b148 N self_6  s0 s1 s2 (hR h a0 44) (x2 + 1) (hI h a0 41) (hI h a0 42) 1 a0 x1 x2 x3 x4 x5 x6 x9 h3
set_option maxRecDepth 20000 in
theorem Mo_meanBy_b117_ok (g : GT) (N : Nat) (D : Nat) (hD : 4 ≤ D) (self_6 : Nat → Int32 → Int32 → Int32 → Int32 → Int32 → Int32 → Int64 → Int32 → PH → Option (Int32 × PH)) (hself_6 : ∀ (a0 : Nat) (x1 : Int32) (x2 : Int32) (x3 : Int32) (x4 : Int32) (x5 : Int32) (x6 : Int32) (x7 : Int64) (x9 : Int32) (h : PH) (v : Int32) (h' : PH), self_6 a0 x1 x2 x3 x4 x5 x6 x7 x9 h = some (v, h') → Run g pMo_meanBy D 6 [(0, va_rf (some a0)), (1, .int x1), (2, .int x2), (3, .int x3), (4, .int x4), (5, .int x5), (6, .int x6), (7, .long x7), (9, .int x9)] [] h (rI v) h') : ∀ (s0 : Int64) (s1 : Int64) (s2 : Int32) (a0 : Nat) (x1 : Int32) (x2 : Int32) (x3 : Int32) (x4 : Int32) (x5 : Int32) (x6 : Int32) (x9 : Int32) (x11 : Int32) (x12 : Int32) (h : PH) (v : Int32) (h' : PH), Mo_meanBy_b117 N self_6 s0 s1 s2 a0 x1 x2 x3 x4 x5 x6 x9 x11 x12 h = some (v, h') → Run g pMo_meanBy D 117 [(0, va_rf (some a0)), (1, .int x1), (2, .int x2), (3, .int x3), (4, .int x4), (5, .int x5), (6, .int x6), (9, .int x9), (11, .int x11), (12, .int x12)] [.int s2, .long s1, .long s0] h (rI v) h' := by
  obtain ⟨D2, rfl⟩ : ∃ d, D = d + 1 := ⟨D - 1, by omega⟩
  intro s0 s1 s2 a0 x1 x2 x3 x4 x5 x6 x9 x11 x12 h v h' hE
  unfold Mo_meanBy_b117 at hE
  refine r_aload_n (t := some a0) 0 rfl rfl rfl ?_
  obtain ⟨hk1, hE⟩ := ckE hE
  refine r_getR rfl (fl_11_97 rfl) (Or.inr ⟨_, rfl⟩) rfl hk1 ?_
  refine r_iload_n 2 rfl rfl rfl ?_
  refine r_iconst 1 rfl ci_1 ?_
  refine r_iadd rfl ?_
  refine r_aload_n (t := some a0) 0 rfl rfl rfl ?_
  refine r_getI rfl (fl_11_319 rfl) (Or.inl rfl) rfl hk1 ?_
  refine r_aload_n (t := some a0) 0 rfl rfl rfl ?_
  refine r_getI rfl (fl_11_322 rfl) (Or.inl rfl) rfl hk1 ?_
  refine r_aload_n (t := some a0) 0 rfl rfl rfl ?_
  refine r_iload rfl rfl ?_
  refine r_iload rfl rfl ?_
  obtain ⟨v2, h3, hq4, hE⟩ := bdE hE
  refine r_callW1 (rest := [.int (hI h a0 42), .int (hI h a0 41), .int (x2 + 1), va_rf (hR h a0 44), .int s2, .long s1, .long s0]) (hc := (Mo_isWordBy_ok g N _ _ _ _ _ _ hq4 D2 (by omega))) rfl pm_Mo_isWordBy lw_11_359 im_Mo_isWordBy sl_Mo_isWordBy rfl rfl rfl (rcOK hk1 rfl) (by simp only [List.map_cons, List.map_nil, rf_cat, cat_i, cat_l, List.sum_cons, List.sum_nil]; decide) ?_
  refine r_if_eq (tgt := 147) rfl (by decide) (fun hc5 => ?_) (fun hc5 => ?_)
  · have hE := ifP hc5 hE
    refine r_iconst 0 rfl ci_0 ?_
    first | exact r_sb (Mo_meanBy_b148_ok g N _ hD _ hself_6  _ _ _ _ _ _ _ _ _ _ _ _ _ _ _ _ _ _ _ hE) ⟨rfl, rfl, rfl, rfl, rfl, rfl, rfl, rfl, trivial⟩ | exact r_sb (Mo_meanBy_b148_ok g N _ hD _ hself_6  _ _ _ _ _ _ _ _ _ _ _ _ _ _ _ _ _ _ _ hE) (by simp only [su1, su2, dr1_rf, dr1_in, dr1_lo, dr2_rf, dr2_in, dr2_lo]; exact ⟨rfl, rfl, rfl, rfl, rfl, rfl, rfl, rfl, trivial⟩)
  · have hE := ifN hc5 hE
    refine r_iconst 1 rfl ci_1 ?_
    refine r_goto (tgt := 148) rfl (by decide) ?_
    first | exact r_sb (Mo_meanBy_b148_ok g N _ hD _ hself_6  _ _ _ _ _ _ _ _ _ _ _ _ _ _ _ _ _ _ _ hE) ⟨rfl, rfl, rfl, rfl, rfl, rfl, rfl, rfl, trivial⟩ | exact r_sb (Mo_meanBy_b148_ok g N _ hD _ hself_6  _ _ _ _ _ _ _ _ _ _ _ _ _ _ _ _ _ _ _ hE) (by simp only [su1, su2, dr1_rf, dr1_in, dr1_lo, dr2_rf, dr2_in, dr2_lo]; exact ⟨rfl, rfl, rfl, rfl, rfl, rfl, rfl, rfl, trivial⟩)
def Mo_meanBy_b6 (N : Nat) : Nat → Nat → Int32 → Int32 → Int32 → Int32 → Int32 → Int32 → Int64 → Int32 → PH → Option (Int32 × PH)
  | 0 => fun _ _ _ _ _ _ _ _ _ _ => none
  | n + 1 => fun a0 x1 x2 x3 x4 x5 x6 x7 x9 h =>
    if 4 ≤ x9 then
      ck (¬ (10 : Int64) = 0) <|
      some ((Int64.toInt32 (x7 / 10)), h)
    else
      ck ((hK h a0).1 = 11) <|
      bd (Mo_chanceOf N a0 x2 x9 0 h) fun v4 h5 =>
      if v4 = 0 then
        Mo_meanBy_b158 N (Mo_meanBy_b6 N n)  a0 x1 x2 x3 x4 x5 x6 x7 x9 h5
      else
        if (x9 + x5) = 0 then
          ck ((hK h5 a0).1 = 11) <|
          bd (Mo_at N (x2 + 1) x3 x4 0 h5) fun v10 h11 =>
          ((hR h5 a0 44)).bind fun a_13 =>
          ck ((hK h11 a_13).1 = 20) <|
          ck (inb v10 (hK h11 a_13).2 = true) <|
          Mo_meanBy_b158 N (Mo_meanBy_b6 N n)  a0 x1 x2 x3 x4 x5 x6 (x7 + ((Int32.toInt64 v4) * (Int32.toInt64 (hI h11 a_13 (ix v10))))) x9 h11
        else
          ck ((hK h5 a0).1 = 11) <|
          bd (Mo_habitGive N a0 x1 x2 x3 x4 (x9 + x5) h5) fun v18 h19 =>
          ck ((hK h19 a0).1 = 11) <|
          bd (Mo_gives N a0 x2 (x9 + x5) v18 x3 x4 h19) fun v22 h23 =>
          if x6 = 0 then
            Mo_meanBy_b117 N (Mo_meanBy_b6 N n)  x7 (Int32.toInt64 v4) (1000 * v22) a0 x1 x2 x3 x4 x5 x6 x9 (x9 + x5) v18 h23
          else
            Mo_meanBy_b117 N (Mo_meanBy_b6 N n)  x7 (Int32.toInt64 v4) 0 a0 x1 x2 x3 x4 x5 x6 x9 (x9 + x5) v18 h23
set_option maxRecDepth 20000 in
theorem Mo_meanBy_b6_ok (g : GT) (N : Nat) (D : Nat) (hD : 4 ≤ D) : ∀ (n : Nat) (a0 : Nat) (x1 : Int32) (x2 : Int32) (x3 : Int32) (x4 : Int32) (x5 : Int32) (x6 : Int32) (x7 : Int64) (x9 : Int32) (h : PH) (v : Int32) (h' : PH), Mo_meanBy_b6 N n a0 x1 x2 x3 x4 x5 x6 x7 x9 h = some (v, h') → Run g pMo_meanBy D 6 [(0, va_rf (some a0)), (1, .int x1), (2, .int x2), (3, .int x3), (4, .int x4), (5, .int x5), (6, .int x6), (7, .long x7), (9, .int x9)] [] h (rI v) h' := by
  obtain ⟨D2, rfl⟩ : ∃ d, D = d + 1 := ⟨D - 1, by omega⟩
  intro n
  induction n with
  | zero => exact fun _ _ _ _ _ _ _ _ _ _ _ _ hE => nomatch (show none = some _ from hE)
  | succ n ih =>
    intro a0 x1 x2 x3 x4 x5 x6 x7 x9 h v h' hE
    unfold Mo_meanBy_b6 at hE
    refine r_iload rfl rfl ?_
    refine r_iconst 4 rfl ci_4 ?_
    refine r_icmp_ge (tgt := 164) rfl (by decide) (fun hc1 => ?_) (fun hc1 => ?_)
    · have hE := ifP hc1 hE
      refine r_lload rfl rfl ?_
      refine r_ldc2 rfl kc_11_351 ?_
      obtain ⟨hc2, hE⟩ := ckE hE
      refine r_ldiv rfl hc2 ?_
      refine r_l2i rfl ?_
      cases hE
      exact r_ret rfl (Or.inl ⟨rfl, _, _, rfl, rfl, rfl, rfl⟩)
    · have hE := ifN hc1 hE
      refine r_aload_n (t := some a0) 0 rfl rfl rfl ?_
      refine r_iload_n 2 rfl rfl rfl ?_
      refine r_iload rfl rfl ?_
      refine r_iconst 0 rfl ci_0 ?_
      obtain ⟨hk3, hE⟩ := ckE hE
      obtain ⟨v4, h5, hq6, hE⟩ := bdE hE
      refine r_callV1 (rest := []) (hc := (Mo_chanceOf_ok g N _ _ _ _ _ _ _ hq6 D2 (by omega))) rfl pm_Mo_chanceOf lw_11_347 im_Mo_chanceOf sl_Mo_chanceOf rfl rfl rfl (rcOK hk3 rfl) (by decide) ?_
      refine r_istore rfl (by decide) ?_
      refine r_iload rfl rfl ?_
      refine r_if_ne (tgt := 30) rfl (by decide) (fun hc7 => ?_) (fun hc7 => ?_)
      · have hE := ifP hc7 hE
        refine r_goto (tgt := 158) rfl (by decide) ?_
        first | exact r_sb (Mo_meanBy_b158_ok g N _ hD _ ih  _ _ _ _ _ _ _ _ _ _ _ _ hE) ⟨rfl, rfl, rfl, rfl, rfl, rfl, rfl, rfl, rfl, trivial⟩ | exact r_sb (Mo_meanBy_b158_ok g N _ hD _ ih  _ _ _ _ _ _ _ _ _ _ _ _ hE) (by simp only [su1, su2, dr1_rf, dr1_in, dr1_lo, dr2_rf, dr2_in, dr2_lo]; exact ⟨rfl, rfl, rfl, rfl, rfl, rfl, rfl, rfl, rfl, trivial⟩)
      · have hE := ifN hc7 hE
        refine r_iload rfl rfl ?_
        refine r_iload rfl rfl ?_
        refine r_iadd rfl ?_
        refine r_istore rfl (by decide) ?_
        refine r_iload rfl rfl ?_
        refine r_if_ne (tgt := 70) rfl (by decide) (fun hc8 => ?_) (fun hc8 => ?_)
        · have hE := ifP hc8 hE
          refine r_lload rfl rfl ?_
          refine r_iload rfl rfl ?_
          refine r_i2l rfl ?_
          refine r_aload_n (t := some a0) 0 rfl rfl rfl ?_
          obtain ⟨hk9, hE⟩ := ckE hE
          refine r_getR rfl (fl_11_97 rfl) (Or.inr ⟨_, rfl⟩) rfl hk9 ?_
          refine r_iload_n 2 rfl rfl rfl ?_
          refine r_iconst 1 rfl ci_1 ?_
          refine r_iadd rfl ?_
          refine r_iload_n 3 rfl rfl rfl ?_
          refine r_iload rfl rfl ?_
          refine r_iconst 0 rfl ci_0 ?_
          obtain ⟨v10, h11, hq12, hE⟩ := bdE hE
          refine r_callS1 (rest := [va_rf (hR h5 a0 44), .long (Int32.toInt64 v4), .long x7]) (hc := (Mo_at_ok g N _ _ _ _ _ _ _ hq12 D2 (by omega))) rfl pm_Mo_at lw_11_386 st_Mo_at rfl rfl (by simp only [List.map_cons, List.map_nil, rf_cat, cat_i, cat_l, List.sum_cons, List.sum_nil]; decide) ?_
          obtain ⟨a_13, ha14, hE⟩ := bnE hE
          obtain ⟨hk15, hE⟩ := ckE hE
          obtain ⟨hi16, hE⟩ := ckE hE
          refine r_iald rfl ha14 hk15 hi16 ?_
          refine r_i2l rfl ?_
          refine r_lmul rfl ?_
          refine r_ladd rfl ?_
          refine r_lstore rfl (by decide) ?_
          refine r_goto (tgt := 158) rfl (by decide) ?_
          first | exact r_sb (Mo_meanBy_b158_ok g N _ hD _ ih  _ _ _ _ _ _ _ _ _ _ _ _ hE) ⟨rfl, rfl, rfl, rfl, rfl, rfl, rfl, rfl, rfl, trivial⟩ | exact r_sb (Mo_meanBy_b158_ok g N _ hD _ ih  _ _ _ _ _ _ _ _ _ _ _ _ hE) (by simp only [su1, su2, dr1_rf, dr1_in, dr1_lo, dr2_rf, dr2_in, dr2_lo]; exact ⟨rfl, rfl, rfl, rfl, rfl, rfl, rfl, rfl, rfl, trivial⟩)
        · have hE := ifN hc8 hE
          refine r_aload_n (t := some a0) 0 rfl rfl rfl ?_
          refine r_iload_n 1 rfl rfl rfl ?_
          refine r_iload_n 2 rfl rfl rfl ?_
          refine r_iload_n 3 rfl rfl rfl ?_
          refine r_iload rfl rfl ?_
          refine r_iload rfl rfl ?_
          obtain ⟨hk17, hE⟩ := ckE hE
          obtain ⟨v18, h19, hq20, hE⟩ := bdE hE
          refine r_callV1 (rest := []) (hc := (Mo_habitGive_ok g N _ _ _ _ _ _ _ _ _ hq20 D2 (by omega))) rfl pm_Mo_habitGive lw_11_434 im_Mo_habitGive sl_Mo_habitGive rfl rfl rfl (rcOK hk17 rfl) (by decide) ?_
          refine r_istore rfl (by decide) ?_
          refine r_aload_n (t := some a0) 0 rfl rfl rfl ?_
          refine r_iload_n 2 rfl rfl rfl ?_
          refine r_iload rfl rfl ?_
          refine r_iload rfl rfl ?_
          refine r_iload_n 3 rfl rfl rfl ?_
          refine r_iload rfl rfl ?_
          obtain ⟨hk21, hE⟩ := ckE hE
          obtain ⟨v22, h23, hq24, hE⟩ := bdE hE
          refine r_callV1 (rest := []) (hc := (Mo_gives_ok g N _ _ _ _ _ _ _ _ _ hq24 D2 (by omega))) rfl pm_Mo_gives lw_11_355 im_Mo_gives sl_Mo_gives rfl rfl rfl (rcOK hk21 rfl) (by decide) ?_
          refine r_istore rfl (by decide) ?_
          refine r_lload rfl rfl ?_
          refine r_iload rfl rfl ?_
          refine r_i2l rfl ?_
          refine r_iload rfl rfl ?_
          refine r_if_eq (tgt := 111) rfl (by decide) (fun hc25 => ?_) (fun hc25 => ?_)
          · have hE := ifP hc25 hE
            refine r_sipush 1000 rfl cs_1000 ?_
            refine r_iload rfl rfl ?_
            refine r_imul rfl ?_
            first | exact r_sb (Mo_meanBy_b117_ok g N _ hD _ ih  _ _ _ _ _ _ _ _ _ _ _ _ _ _ _ _ hE) ⟨rfl, rfl, rfl, rfl, rfl, rfl, rfl, rfl, rfl, rfl, trivial⟩ | exact r_sb (Mo_meanBy_b117_ok g N _ hD _ ih  _ _ _ _ _ _ _ _ _ _ _ _ _ _ _ _ hE) (by simp only [su1, su2, dr1_rf, dr1_in, dr1_lo, dr2_rf, dr2_in, dr2_lo]; exact ⟨rfl, rfl, rfl, rfl, rfl, rfl, rfl, rfl, rfl, rfl, trivial⟩)
          · have hE := ifN hc25 hE
            refine r_iconst 0 rfl ci_0 ?_
            refine r_goto (tgt := 117) rfl (by decide) ?_
            first | exact r_sb (Mo_meanBy_b117_ok g N _ hD _ ih  _ _ _ _ _ _ _ _ _ _ _ _ _ _ _ _ hE) ⟨rfl, rfl, rfl, rfl, rfl, rfl, rfl, rfl, rfl, rfl, trivial⟩ | exact r_sb (Mo_meanBy_b117_ok g N _ hD _ ih  _ _ _ _ _ _ _ _ _ _ _ _ _ _ _ _ hE) (by simp only [su1, su2, dr1_rf, dr1_in, dr1_lo, dr2_rf, dr2_in, dr2_lo]; exact ⟨rfl, rfl, rfl, rfl, rfl, rfl, rfl, rfl, rfl, rfl, trivial⟩)
def Mo_meanBy (N : Nat) (a0 : Nat) (x1 : Int32) (x2 : Int32) (x3 : Int32) (x4 : Int32) (x5 : Int32) (x6 : Int32) (h : PH) : Option (Int32 × PH) :=
  Mo_meanBy_b6 N N a0 x1 x2 x3 x4 x5 x6 0 0 h
set_option maxRecDepth 20000 in
theorem Mo_meanBy_ok (g : GT) (N : Nat) (a0 : Nat) (x1 : Int32) (x2 : Int32) (x3 : Int32) (x4 : Int32) (x5 : Int32) (x6 : Int32) (h : PH) (v : Int32) (h' : PH) (hE : Mo_meanBy N a0 x1 x2 x3 x4 x5 x6 h = some (v, h')) (D : Nat) (hD : 4 ≤ D) : Calls g D pMo_meanBy [va_rf (some a0), .int x1, .int x2, .int x3, .int x4, .int x5, .int x6] h (oI v) h' := by
  refine Calls.of cok_Mo_meanBy ht_Mo_meanBy pl_Mo_meanBy (fun ad => by rw [lg_len, sL_cat]; simp only [List.map_cons, List.map_nil, rf_cat, cat_i, cat_l, List.sum_cons, List.sum_nil]; decide) ?_
  rw [show lv_args 0 [va_rf (some a0), .int x1, .int x2, .int x3, .int x4, .int x5, .int x6] = [(0, va_rf (some a0)), (1, .int x1), (2, .int x2), (3, .int x3), (4, .int x4), (5, .int x5), (6, .int x6)] from (by simp only [lv_args, rf_cat, cat_i, cat_l]; try rfl)]
  obtain ⟨D2, rfl⟩ : ∃ d, D = d + 1 := ⟨D - 1, by omega⟩
  unfold Mo_meanBy at hE
  refine r_lconst 0 rfl cl_0 ?_
  refine r_lstore rfl (by decide) ?_
  refine r_iconst 0 rfl ci_0 ?_
  refine r_istore rfl (by decide) ?_
  first | exact r_sb (Mo_meanBy_b6_ok g N _ hD  N _ _ _ _ _ _ _ _ _ _ _ _ hE) ⟨rfl, rfl, rfl, rfl, rfl, rfl, rfl, rfl, rfl, trivial⟩ | exact r_sb (Mo_meanBy_b6_ok g N _ hD  N _ _ _ _ _ _ _ _ _ _ _ _ hE) (by simp only [su1, su2, dr1_rf, dr1_in, dr1_lo, dr2_rf, dr2_in, dr2_lo]; exact ⟨rfl, rfl, rfl, rfl, rfl, rfl, rfl, rfl, rfl, trivial⟩)
def Mo_laysMeans_b126 (N : Nat) (self_8 : Nat → Int32 → Int32 → Int32 → Int32 → PH → Option (Unit × PH)) (self_22 : Nat → Int32 → Int32 → Int32 → Int32 → Int32 → PH → Option (Unit × PH)) (self_36 : Nat → Int32 → Int32 → Int32 → Int32 → Int32 → Int32 → PH → Option (Unit × PH)) (self_50 : Nat → Int32 → Int32 → Int32 → Int32 → Int32 → Int32 → Int32 → PH → Option (Unit × PH)) (s0 : Option Nat) (s1 : Int32) (s2 : Int32) (a0 : Nat) (x1 : Int32) (x2 : Int32) (x3 : Int32) (x4 : Int32) (x5 : Int32) (x6 : Int32) (x7 : Int32) (h : PH) : Option (Unit × PH) :=
  (s0).bind fun a_1 =>
  ck ((hK h a_1).1 = 20) <|
  ck (inb s1 (hK h a_1).2 = true) <|
  lt0 (wI h a_1 (ix s1) s2) fun h5 =>
  self_50 a0 x1 x2 x3 x4 x5 x6 (x7 + 1) h5
set_option maxRecDepth 20000 in
theorem Mo_laysMeans_b126_ok (g : GT) (N : Nat) (D : Nat) (hD : 5 ≤ D) (self_8 : Nat → Int32 → Int32 → Int32 → Int32 → PH → Option (Unit × PH)) (hself_8 : ∀ (a0 : Nat) (x1 : Int32) (x2 : Int32) (x3 : Int32) (x4 : Int32) (h : PH) (v : Unit) (h' : PH), self_8 a0 x1 x2 x3 x4 h = some (v, h') → Run g pMo_laysMeans D 8 [(0, va_rf (some a0)), (1, .int x1), (2, .int x2), (3, .int x3), (4, .int x4)] [] h (rV v) h') (self_22 : Nat → Int32 → Int32 → Int32 → Int32 → Int32 → PH → Option (Unit × PH)) (hself_22 : ∀ (a0 : Nat) (x1 : Int32) (x2 : Int32) (x3 : Int32) (x4 : Int32) (x5 : Int32) (h : PH) (v : Unit) (h' : PH), self_22 a0 x1 x2 x3 x4 x5 h = some (v, h') → Run g pMo_laysMeans D 22 [(0, va_rf (some a0)), (1, .int x1), (2, .int x2), (3, .int x3), (4, .int x4), (5, .int x5)] [] h (rV v) h') (self_36 : Nat → Int32 → Int32 → Int32 → Int32 → Int32 → Int32 → PH → Option (Unit × PH)) (hself_36 : ∀ (a0 : Nat) (x1 : Int32) (x2 : Int32) (x3 : Int32) (x4 : Int32) (x5 : Int32) (x6 : Int32) (h : PH) (v : Unit) (h' : PH), self_36 a0 x1 x2 x3 x4 x5 x6 h = some (v, h') → Run g pMo_laysMeans D 36 [(0, va_rf (some a0)), (1, .int x1), (2, .int x2), (3, .int x3), (4, .int x4), (5, .int x5), (6, .int x6)] [] h (rV v) h') (self_50 : Nat → Int32 → Int32 → Int32 → Int32 → Int32 → Int32 → Int32 → PH → Option (Unit × PH)) (hself_50 : ∀ (a0 : Nat) (x1 : Int32) (x2 : Int32) (x3 : Int32) (x4 : Int32) (x5 : Int32) (x6 : Int32) (x7 : Int32) (h : PH) (v : Unit) (h' : PH), self_50 a0 x1 x2 x3 x4 x5 x6 x7 h = some (v, h') → Run g pMo_laysMeans D 50 [(0, va_rf (some a0)), (1, .int x1), (2, .int x2), (3, .int x3), (4, .int x4), (5, .int x5), (6, .int x6), (7, .int x7)] [] h (rV v) h') : ∀ (s0 : Option Nat) (s1 : Int32) (s2 : Int32) (a0 : Nat) (x1 : Int32) (x2 : Int32) (x3 : Int32) (x4 : Int32) (x5 : Int32) (x6 : Int32) (x7 : Int32) (h : PH) (v : Unit) (h' : PH), Mo_laysMeans_b126 N self_8 self_22 self_36 self_50 s0 s1 s2 a0 x1 x2 x3 x4 x5 x6 x7 h = some (v, h') → Run g pMo_laysMeans D 126 [(0, va_rf (some a0)), (1, .int x1), (2, .int x2), (3, .int x3), (4, .int x4), (5, .int x5), (6, .int x6), (7, .int x7)] [.int s2, .int s1, va_rf s0] h (rV v) h' := by
  obtain ⟨D2, rfl⟩ : ∃ d, D = d + 1 := ⟨D - 1, by omega⟩
  intro s0 s1 s2 a0 x1 x2 x3 x4 x5 x6 x7 h v h' hE
  unfold Mo_laysMeans_b126 at hE
  obtain ⟨a_1, ha2, hE⟩ := bnE hE
  obtain ⟨hk3, hE⟩ := ckE hE
  obtain ⟨hi4, hE⟩ := ckE hE
  obtain ⟨h5, he6, hE⟩ := ltE hE
  refine r_iast rfl ha2 hk3 hi4 he6 ?_
  refine r_iinc _ rfl rfl (congrArg _ ci_1) (by decide) ?_
  refine r_goto (tgt := 50) rfl (by decide) ?_
  first | exact r_sb (hself_50 _ _ _ _ _ _ _ _ _ _ _ hE) ⟨rfl, rfl, rfl, rfl, rfl, rfl, rfl, rfl, trivial⟩ | exact r_sb (hself_50 _ _ _ _ _ _ _ _ _ _ _ hE) (by simp only [su1, su2, dr1_rf, dr1_in, dr1_lo, dr2_rf, dr2_in, dr2_lo]; exact ⟨rfl, rfl, rfl, rfl, rfl, rfl, rfl, rfl, trivial⟩)
def Mo_laysMeans_b88 (N : Nat) (self_8 : Nat → Int32 → Int32 → Int32 → Int32 → PH → Option (Unit × PH)) (self_22 : Nat → Int32 → Int32 → Int32 → Int32 → Int32 → PH → Option (Unit × PH)) (self_36 : Nat → Int32 → Int32 → Int32 → Int32 → Int32 → Int32 → PH → Option (Unit × PH)) (self_50 : Nat → Int32 → Int32 → Int32 → Int32 → Int32 → Int32 → Int32 → PH → Option (Unit × PH)) (s0 : Option Nat) (s1 : Int32) (a0 : Nat) (x1 : Int32) (x2 : Int32) (x3 : Int32) (x4 : Int32) (x5 : Int32) (x6 : Int32) (x7 : Int32) (h : PH) : Option (Unit × PH) :=
  if x3 = 0 then
    ck ((hK h a0).1 = 11) <|
    bd (Mo_closedBy N a0 x4 x5 h) fun v3 h4 =>
    Mo_laysMeans_b126 N self_8 self_22 self_36 self_50  s0 s1 v3 a0 x1 x2 x3 x4 x5 x6 x7 h4
  else
    Mo_laysMeans_b126 N self_8 self_22 self_36 self_50  s0 s1 (1000 * x5) a0 x1 x2 x3 x4 x5 x6 x7 h
set_option maxRecDepth 20000 in
theorem Mo_laysMeans_b88_ok (g : GT) (N : Nat) (D : Nat) (hD : 5 ≤ D) (self_8 : Nat → Int32 → Int32 → Int32 → Int32 → PH → Option (Unit × PH)) (hself_8 : ∀ (a0 : Nat) (x1 : Int32) (x2 : Int32) (x3 : Int32) (x4 : Int32) (h : PH) (v : Unit) (h' : PH), self_8 a0 x1 x2 x3 x4 h = some (v, h') → Run g pMo_laysMeans D 8 [(0, va_rf (some a0)), (1, .int x1), (2, .int x2), (3, .int x3), (4, .int x4)] [] h (rV v) h') (self_22 : Nat → Int32 → Int32 → Int32 → Int32 → Int32 → PH → Option (Unit × PH)) (hself_22 : ∀ (a0 : Nat) (x1 : Int32) (x2 : Int32) (x3 : Int32) (x4 : Int32) (x5 : Int32) (h : PH) (v : Unit) (h' : PH), self_22 a0 x1 x2 x3 x4 x5 h = some (v, h') → Run g pMo_laysMeans D 22 [(0, va_rf (some a0)), (1, .int x1), (2, .int x2), (3, .int x3), (4, .int x4), (5, .int x5)] [] h (rV v) h') (self_36 : Nat → Int32 → Int32 → Int32 → Int32 → Int32 → Int32 → PH → Option (Unit × PH)) (hself_36 : ∀ (a0 : Nat) (x1 : Int32) (x2 : Int32) (x3 : Int32) (x4 : Int32) (x5 : Int32) (x6 : Int32) (h : PH) (v : Unit) (h' : PH), self_36 a0 x1 x2 x3 x4 x5 x6 h = some (v, h') → Run g pMo_laysMeans D 36 [(0, va_rf (some a0)), (1, .int x1), (2, .int x2), (3, .int x3), (4, .int x4), (5, .int x5), (6, .int x6)] [] h (rV v) h') (self_50 : Nat → Int32 → Int32 → Int32 → Int32 → Int32 → Int32 → Int32 → PH → Option (Unit × PH)) (hself_50 : ∀ (a0 : Nat) (x1 : Int32) (x2 : Int32) (x3 : Int32) (x4 : Int32) (x5 : Int32) (x6 : Int32) (x7 : Int32) (h : PH) (v : Unit) (h' : PH), self_50 a0 x1 x2 x3 x4 x5 x6 x7 h = some (v, h') → Run g pMo_laysMeans D 50 [(0, va_rf (some a0)), (1, .int x1), (2, .int x2), (3, .int x3), (4, .int x4), (5, .int x5), (6, .int x6), (7, .int x7)] [] h (rV v) h') : ∀ (s0 : Option Nat) (s1 : Int32) (a0 : Nat) (x1 : Int32) (x2 : Int32) (x3 : Int32) (x4 : Int32) (x5 : Int32) (x6 : Int32) (x7 : Int32) (h : PH) (v : Unit) (h' : PH), Mo_laysMeans_b88 N self_8 self_22 self_36 self_50 s0 s1 a0 x1 x2 x3 x4 x5 x6 x7 h = some (v, h') → Run g pMo_laysMeans D 88 [(0, va_rf (some a0)), (1, .int x1), (2, .int x2), (3, .int x3), (4, .int x4), (5, .int x5), (6, .int x6), (7, .int x7)] [.int s1, va_rf s0] h (rV v) h' := by
  obtain ⟨D2, rfl⟩ : ∃ d, D = d + 1 := ⟨D - 1, by omega⟩
  intro s0 s1 a0 x1 x2 x3 x4 x5 x6 x7 h v h' hE
  unfold Mo_laysMeans_b88 at hE
  refine r_iload_n 3 rfl rfl rfl ?_
  refine r_if_eq (tgt := 101) rfl (by decide) (fun hc1 => ?_) (fun hc1 => ?_)
  · have hE := ifP hc1 hE
    refine r_aload_n (t := some a0) 0 rfl rfl rfl ?_
    refine r_iload rfl rfl ?_
    refine r_iload rfl rfl ?_
    obtain ⟨hk2, hE⟩ := ckE hE
    obtain ⟨v3, h4, hq5, hE⟩ := bdE hE
    refine r_callV1 (rest := [.int s1, va_rf s0]) (hc := (Mo_closedBy_ok g N _ _ _ _ _ _ hq5 D2 (by omega))) rfl pm_Mo_closedBy lw_11_403 im_Mo_closedBy sl_Mo_closedBy rfl rfl rfl (rcOK hk2 rfl) (by simp only [List.map_cons, List.map_nil, rf_cat, cat_i, cat_l, List.sum_cons, List.sum_nil]; decide) ?_
    refine r_goto (tgt := 126) rfl (by decide) ?_
    first | exact r_sb (Mo_laysMeans_b126_ok g N _ hD _ hself_8 _ hself_22 _ hself_36 _ hself_50  _ _ _ _ _ _ _ _ _ _ _ _ _ _ hE) ⟨rfl, rfl, rfl, rfl, rfl, rfl, rfl, rfl, trivial⟩ | exact r_sb (Mo_laysMeans_b126_ok g N _ hD _ hself_8 _ hself_22 _ hself_36 _ hself_50  _ _ _ _ _ _ _ _ _ _ _ _ _ _ hE) (by simp only [su1, su2, dr1_rf, dr1_in, dr1_lo, dr2_rf, dr2_in, dr2_lo]; exact ⟨rfl, rfl, rfl, rfl, rfl, rfl, rfl, rfl, trivial⟩)
  · have hE := ifN hc1 hE
    refine r_sipush 1000 rfl cs_1000 ?_
    refine r_iload rfl rfl ?_
    refine r_imul rfl ?_
    refine r_goto (tgt := 126) rfl (by decide) ?_
    first | exact r_sb (Mo_laysMeans_b126_ok g N _ hD _ hself_8 _ hself_22 _ hself_36 _ hself_50  _ _ _ _ _ _ _ _ _ _ _ _ _ _ hE) ⟨rfl, rfl, rfl, rfl, rfl, rfl, rfl, rfl, trivial⟩ | exact r_sb (Mo_laysMeans_b126_ok g N _ hD _ hself_8 _ hself_22 _ hself_36 _ hself_50  _ _ _ _ _ _ _ _ _ _ _ _ _ _ hE) (by simp only [su1, su2, dr1_rf, dr1_in, dr1_lo, dr2_rf, dr2_in, dr2_lo]; exact ⟨rfl, rfl, rfl, rfl, rfl, rfl, rfl, rfl, trivial⟩)
def Mo_laysMeans_b50 (N : Nat) (self_8 : Nat → Int32 → Int32 → Int32 → Int32 → PH → Option (Unit × PH)) (self_22 : Nat → Int32 → Int32 → Int32 → Int32 → Int32 → PH → Option (Unit × PH)) (self_36 : Nat → Int32 → Int32 → Int32 → Int32 → Int32 → Int32 → PH → Option (Unit × PH)) : Nat → Nat → Int32 → Int32 → Int32 → Int32 → Int32 → Int32 → Int32 → PH → Option (Unit × PH)
  | 0 => fun _ _ _ _ _ _ _ _ _ => none
  | n + 1 => fun a0 x1 x2 x3 x4 x5 x6 x7 h =>
    if 2 ≤ x7 then
      self_36 a0 x1 x2 x3 x4 x5 (x6 + 1) h
    else
      ck ((hK h a0).1 = 11) <|
      bd (Mo_at N x4 x5 x6 x7 h) fun v3 h4 =>
      ck ((hK h4 a0).1 = 11) <|
      ((hR h4 a0 10)).bind fun a_7 =>
      ck ((hK h4 a_7).1 = 20) <|
      ck (inb 0 (hK h4 a_7).2 = true) <|
      if x4 = (hI h4 a_7 (ix 0)) then
        Mo_laysMeans_b88 N self_8 self_22 self_36 (Mo_laysMeans_b50 N self_8 self_22 self_36 n)  (hR h a0 44) v3 a0 x1 x2 x3 x4 x5 x6 x7 h4
      else
        if x4 = x2 then
          Mo_laysMeans_b88 N self_8 self_22 self_36 (Mo_laysMeans_b50 N self_8 self_22 self_36 n)  (hR h a0 44) v3 a0 x1 x2 x3 x4 x5 x6 x7 h4
        else
          bd (Mo_meanBy N a0 x1 x4 x5 x6 x7 x3 h4) fun v13 h14 =>
          Mo_laysMeans_b126 N self_8 self_22 self_36 (Mo_laysMeans_b50 N self_8 self_22 self_36 n)  (hR h a0 44) v3 v13 a0 x1 x2 x3 x4 x5 x6 x7 h14
set_option maxRecDepth 20000 in
theorem Mo_laysMeans_b50_ok (g : GT) (N : Nat) (D : Nat) (hD : 5 ≤ D) (self_8 : Nat → Int32 → Int32 → Int32 → Int32 → PH → Option (Unit × PH)) (hself_8 : ∀ (a0 : Nat) (x1 : Int32) (x2 : Int32) (x3 : Int32) (x4 : Int32) (h : PH) (v : Unit) (h' : PH), self_8 a0 x1 x2 x3 x4 h = some (v, h') → Run g pMo_laysMeans D 8 [(0, va_rf (some a0)), (1, .int x1), (2, .int x2), (3, .int x3), (4, .int x4)] [] h (rV v) h') (self_22 : Nat → Int32 → Int32 → Int32 → Int32 → Int32 → PH → Option (Unit × PH)) (hself_22 : ∀ (a0 : Nat) (x1 : Int32) (x2 : Int32) (x3 : Int32) (x4 : Int32) (x5 : Int32) (h : PH) (v : Unit) (h' : PH), self_22 a0 x1 x2 x3 x4 x5 h = some (v, h') → Run g pMo_laysMeans D 22 [(0, va_rf (some a0)), (1, .int x1), (2, .int x2), (3, .int x3), (4, .int x4), (5, .int x5)] [] h (rV v) h') (self_36 : Nat → Int32 → Int32 → Int32 → Int32 → Int32 → Int32 → PH → Option (Unit × PH)) (hself_36 : ∀ (a0 : Nat) (x1 : Int32) (x2 : Int32) (x3 : Int32) (x4 : Int32) (x5 : Int32) (x6 : Int32) (h : PH) (v : Unit) (h' : PH), self_36 a0 x1 x2 x3 x4 x5 x6 h = some (v, h') → Run g pMo_laysMeans D 36 [(0, va_rf (some a0)), (1, .int x1), (2, .int x2), (3, .int x3), (4, .int x4), (5, .int x5), (6, .int x6)] [] h (rV v) h') : ∀ (n : Nat) (a0 : Nat) (x1 : Int32) (x2 : Int32) (x3 : Int32) (x4 : Int32) (x5 : Int32) (x6 : Int32) (x7 : Int32) (h : PH) (v : Unit) (h' : PH), Mo_laysMeans_b50 N self_8 self_22 self_36 n a0 x1 x2 x3 x4 x5 x6 x7 h = some (v, h') → Run g pMo_laysMeans D 50 [(0, va_rf (some a0)), (1, .int x1), (2, .int x2), (3, .int x3), (4, .int x4), (5, .int x5), (6, .int x6), (7, .int x7)] [] h (rV v) h' := by
  obtain ⟨D2, rfl⟩ : ∃ d, D = d + 1 := ⟨D - 1, by omega⟩
  intro n
  induction n with
  | zero => exact fun _ _ _ _ _ _ _ _ _ _ _ hE => nomatch (show none = some _ from hE)
  | succ n ih =>
    intro a0 x1 x2 x3 x4 x5 x6 x7 h v h' hE
    unfold Mo_laysMeans_b50 at hE
    refine r_iload rfl rfl ?_
    refine r_iconst 2 rfl ci_2 ?_
    refine r_icmp_ge (tgt := 133) rfl (by decide) (fun hc1 => ?_) (fun hc1 => ?_)
    · have hE := ifP hc1 hE
      refine r_iinc _ rfl rfl (congrArg _ ci_1) (by decide) ?_
      refine r_goto (tgt := 36) rfl (by decide) ?_
      first | exact r_sb (hself_36 _ _ _ _ _ _ _ _ _ _ hE) ⟨rfl, rfl, rfl, rfl, rfl, rfl, rfl, trivial⟩ | exact r_sb (hself_36 _ _ _ _ _ _ _ _ _ _ hE) (by simp only [su1, su2, dr1_rf, dr1_in, dr1_lo, dr2_rf, dr2_in, dr2_lo]; exact ⟨rfl, rfl, rfl, rfl, rfl, rfl, rfl, trivial⟩)
    · have hE := ifN hc1 hE
      refine r_aload_n (t := some a0) 0 rfl rfl rfl ?_
      obtain ⟨hk2, hE⟩ := ckE hE
      refine r_getR rfl (fl_11_97 rfl) (Or.inr ⟨_, rfl⟩) rfl hk2 ?_
      refine r_iload rfl rfl ?_
      refine r_iload rfl rfl ?_
      refine r_iload rfl rfl ?_
      refine r_iload rfl rfl ?_
      obtain ⟨v3, h4, hq5, hE⟩ := bdE hE
      refine r_callS1 (rest := [va_rf (hR h a0 44)]) (hc := (Mo_at_ok g N _ _ _ _ _ _ _ hq5 D2 (by omega))) rfl pm_Mo_at lw_11_386 st_Mo_at rfl rfl (by simp only [List.map_cons, List.map_nil, rf_cat, cat_i, cat_l, List.sum_cons, List.sum_nil]; decide) ?_
      refine r_iload rfl rfl ?_
      refine r_aload_n (t := some a0) 0 rfl rfl rfl ?_
      obtain ⟨hk6, hE⟩ := ckE hE
      refine r_getR rfl (fl_11_13 rfl) (Or.inr ⟨_, rfl⟩) rfl hk6 ?_
      refine r_iconst 0 rfl ci_0 ?_
      obtain ⟨a_7, ha8, hE⟩ := bnE hE
      obtain ⟨hk9, hE⟩ := ckE hE
      obtain ⟨hi10, hE⟩ := ckE hE
      refine r_iald rfl ha8 hk9 hi10 ?_
      refine r_icmp_eq (tgt := 88) rfl (by decide) (fun hc11 => ?_) (fun hc11 => ?_)
      · have hE := ifP hc11 hE
        first | exact r_sb (Mo_laysMeans_b88_ok g N _ hD _ hself_8 _ hself_22 _ hself_36 _ ih  _ _ _ _ _ _ _ _ _ _ _ _ _ hE) ⟨rfl, rfl, rfl, rfl, rfl, rfl, rfl, rfl, trivial⟩ | exact r_sb (Mo_laysMeans_b88_ok g N _ hD _ hself_8 _ hself_22 _ hself_36 _ ih  _ _ _ _ _ _ _ _ _ _ _ _ _ hE) (by simp only [su1, su2, dr1_rf, dr1_in, dr1_lo, dr2_rf, dr2_in, dr2_lo]; exact ⟨rfl, rfl, rfl, rfl, rfl, rfl, rfl, rfl, trivial⟩)
      · have hE := ifN hc11 hE
        refine r_iload rfl rfl ?_
        refine r_iload_n 2 rfl rfl rfl ?_
        refine r_icmp_ne (tgt := 112) rfl (by decide) (fun hc12 => ?_) (fun hc12 => ?_)
        · have hE := ifP hc12 hE
          first | exact r_sb (Mo_laysMeans_b88_ok g N _ hD _ hself_8 _ hself_22 _ hself_36 _ ih  _ _ _ _ _ _ _ _ _ _ _ _ _ hE) ⟨rfl, rfl, rfl, rfl, rfl, rfl, rfl, rfl, trivial⟩ | exact r_sb (Mo_laysMeans_b88_ok g N _ hD _ hself_8 _ hself_22 _ hself_36 _ ih  _ _ _ _ _ _ _ _ _ _ _ _ _ hE) (by simp only [su1, su2, dr1_rf, dr1_in, dr1_lo, dr2_rf, dr2_in, dr2_lo]; exact ⟨rfl, rfl, rfl, rfl, rfl, rfl, rfl, rfl, trivial⟩)
        · have hE := ifN hc12 hE
          refine r_aload_n (t := some a0) 0 rfl rfl rfl ?_
          refine r_iload_n 1 rfl rfl rfl ?_
          refine r_iload rfl rfl ?_
          refine r_iload rfl rfl ?_
          refine r_iload rfl rfl ?_
          refine r_iload rfl rfl ?_
          refine r_iload_n 3 rfl rfl rfl ?_
          obtain ⟨v13, h14, hq15, hE⟩ := bdE hE
          refine r_callV1 (rest := [.int v3, va_rf (hR h a0 44)]) (hc := (Mo_meanBy_ok g N _ _ _ _ _ _ _ _ _ _ hq15 D2 (by omega))) rfl pm_Mo_meanBy lw_11_430 im_Mo_meanBy sl_Mo_meanBy rfl rfl rfl (rcOK hk6 rfl) (by simp only [List.map_cons, List.map_nil, rf_cat, cat_i, cat_l, List.sum_cons, List.sum_nil]; decide) ?_
          first | exact r_sb (Mo_laysMeans_b126_ok g N _ hD _ hself_8 _ hself_22 _ hself_36 _ ih  _ _ _ _ _ _ _ _ _ _ _ _ _ _ hE) ⟨rfl, rfl, rfl, rfl, rfl, rfl, rfl, rfl, trivial⟩ | exact r_sb (Mo_laysMeans_b126_ok g N _ hD _ hself_8 _ hself_22 _ hself_36 _ ih  _ _ _ _ _ _ _ _ _ _ _ _ _ _ hE) (by simp only [su1, su2, dr1_rf, dr1_in, dr1_lo, dr2_rf, dr2_in, dr2_lo]; exact ⟨rfl, rfl, rfl, rfl, rfl, rfl, rfl, rfl, trivial⟩)
def Mo_laysMeans_b36 (N : Nat) (self_8 : Nat → Int32 → Int32 → Int32 → Int32 → PH → Option (Unit × PH)) (self_22 : Nat → Int32 → Int32 → Int32 → Int32 → Int32 → PH → Option (Unit × PH)) : Nat → Nat → Int32 → Int32 → Int32 → Int32 → Int32 → Int32 → PH → Option (Unit × PH)
  | 0 => fun _ _ _ _ _ _ _ _ => none
  | n + 1 => fun a0 x1 x2 x3 x4 x5 x6 h =>
    ck ((hK h a0).1 = 11) <|
    ((hR h a0 10)).bind fun a_2 =>
    ck ((hK h a_2).1 = 20) <|
    ck (inb 2 (hK h a_2).2 = true) <|
    if (hI h a_2 (ix 2)) < x6 then
      self_22 a0 x1 x2 x3 x4 (x5 + 1) h
    else
      Mo_laysMeans_b50 N self_8 self_22 (Mo_laysMeans_b36 N self_8 self_22 n) N a0 x1 x2 x3 x4 x5 x6 0 h
set_option maxRecDepth 20000 in
theorem Mo_laysMeans_b36_ok (g : GT) (N : Nat) (D : Nat) (hD : 5 ≤ D) (self_8 : Nat → Int32 → Int32 → Int32 → Int32 → PH → Option (Unit × PH)) (hself_8 : ∀ (a0 : Nat) (x1 : Int32) (x2 : Int32) (x3 : Int32) (x4 : Int32) (h : PH) (v : Unit) (h' : PH), self_8 a0 x1 x2 x3 x4 h = some (v, h') → Run g pMo_laysMeans D 8 [(0, va_rf (some a0)), (1, .int x1), (2, .int x2), (3, .int x3), (4, .int x4)] [] h (rV v) h') (self_22 : Nat → Int32 → Int32 → Int32 → Int32 → Int32 → PH → Option (Unit × PH)) (hself_22 : ∀ (a0 : Nat) (x1 : Int32) (x2 : Int32) (x3 : Int32) (x4 : Int32) (x5 : Int32) (h : PH) (v : Unit) (h' : PH), self_22 a0 x1 x2 x3 x4 x5 h = some (v, h') → Run g pMo_laysMeans D 22 [(0, va_rf (some a0)), (1, .int x1), (2, .int x2), (3, .int x3), (4, .int x4), (5, .int x5)] [] h (rV v) h') : ∀ (n : Nat) (a0 : Nat) (x1 : Int32) (x2 : Int32) (x3 : Int32) (x4 : Int32) (x5 : Int32) (x6 : Int32) (h : PH) (v : Unit) (h' : PH), Mo_laysMeans_b36 N self_8 self_22 n a0 x1 x2 x3 x4 x5 x6 h = some (v, h') → Run g pMo_laysMeans D 36 [(0, va_rf (some a0)), (1, .int x1), (2, .int x2), (3, .int x3), (4, .int x4), (5, .int x5), (6, .int x6)] [] h (rV v) h' := by
  obtain ⟨D2, rfl⟩ : ∃ d, D = d + 1 := ⟨D - 1, by omega⟩
  intro n
  induction n with
  | zero => exact fun _ _ _ _ _ _ _ _ _ _ hE => nomatch (show none = some _ from hE)
  | succ n ih =>
    intro a0 x1 x2 x3 x4 x5 x6 h v h' hE
    unfold Mo_laysMeans_b36 at hE
    refine r_iload rfl rfl ?_
    refine r_aload_n (t := some a0) 0 rfl rfl rfl ?_
    obtain ⟨hk1, hE⟩ := ckE hE
    refine r_getR rfl (fl_11_13 rfl) (Or.inr ⟨_, rfl⟩) rfl hk1 ?_
    refine r_iconst 2 rfl ci_2 ?_
    obtain ⟨a_2, ha3, hE⟩ := bnE hE
    obtain ⟨hk4, hE⟩ := ckE hE
    obtain ⟨hi5, hE⟩ := ckE hE
    refine r_iald rfl ha3 hk4 hi5 ?_
    refine r_icmp_gt (tgt := 139) rfl (by decide) (fun hc6 => ?_) (fun hc6 => ?_)
    · have hE := ifP hc6 hE
      refine r_iinc _ rfl rfl (congrArg _ ci_1) (by decide) ?_
      refine r_goto (tgt := 22) rfl (by decide) ?_
      first | exact r_sb (hself_22 _ _ _ _ _ _ _ _ _ hE) ⟨rfl, rfl, rfl, rfl, rfl, rfl, trivial⟩ | exact r_sb (hself_22 _ _ _ _ _ _ _ _ _ hE) (by simp only [su1, su2, dr1_rf, dr1_in, dr1_lo, dr2_rf, dr2_in, dr2_lo]; exact ⟨rfl, rfl, rfl, rfl, rfl, rfl, trivial⟩)
    · have hE := ifN hc6 hE
      refine r_iconst 0 rfl ci_0 ?_
      refine r_istore rfl (by decide) ?_
      first | exact r_sb (Mo_laysMeans_b50_ok g N _ hD _ hself_8 _ hself_22 _ ih N _ _ _ _ _ _ _ _ _ _ _ hE) ⟨rfl, rfl, rfl, rfl, rfl, rfl, rfl, rfl, trivial⟩ | exact r_sb (Mo_laysMeans_b50_ok g N _ hD _ hself_8 _ hself_22 _ ih N _ _ _ _ _ _ _ _ _ _ _ hE) (by simp only [su1, su2, dr1_rf, dr1_in, dr1_lo, dr2_rf, dr2_in, dr2_lo]; exact ⟨rfl, rfl, rfl, rfl, rfl, rfl, rfl, rfl, trivial⟩)
def Mo_laysMeans_b22 (N : Nat) (self_8 : Nat → Int32 → Int32 → Int32 → Int32 → PH → Option (Unit × PH)) : Nat → Nat → Int32 → Int32 → Int32 → Int32 → Int32 → PH → Option (Unit × PH)
  | 0 => fun _ _ _ _ _ _ _ => none
  | n + 1 => fun a0 x1 x2 x3 x4 x5 h =>
    ck ((hK h a0).1 = 11) <|
    ((hR h a0 10)).bind fun a_2 =>
    ck ((hK h a_2).1 = 20) <|
    ck (inb 1 (hK h a_2).2 = true) <|
    if (hI h a_2 (ix 1)) < x5 then
      self_8 a0 x1 x2 x3 (x4 + (-1)) h
    else
      Mo_laysMeans_b36 N self_8 (Mo_laysMeans_b22 N self_8 n) N a0 x1 x2 x3 x4 x5 0 h
set_option maxRecDepth 20000 in
theorem Mo_laysMeans_b22_ok (g : GT) (N : Nat) (D : Nat) (hD : 5 ≤ D) (self_8 : Nat → Int32 → Int32 → Int32 → Int32 → PH → Option (Unit × PH)) (hself_8 : ∀ (a0 : Nat) (x1 : Int32) (x2 : Int32) (x3 : Int32) (x4 : Int32) (h : PH) (v : Unit) (h' : PH), self_8 a0 x1 x2 x3 x4 h = some (v, h') → Run g pMo_laysMeans D 8 [(0, va_rf (some a0)), (1, .int x1), (2, .int x2), (3, .int x3), (4, .int x4)] [] h (rV v) h') : ∀ (n : Nat) (a0 : Nat) (x1 : Int32) (x2 : Int32) (x3 : Int32) (x4 : Int32) (x5 : Int32) (h : PH) (v : Unit) (h' : PH), Mo_laysMeans_b22 N self_8 n a0 x1 x2 x3 x4 x5 h = some (v, h') → Run g pMo_laysMeans D 22 [(0, va_rf (some a0)), (1, .int x1), (2, .int x2), (3, .int x3), (4, .int x4), (5, .int x5)] [] h (rV v) h' := by
  obtain ⟨D2, rfl⟩ : ∃ d, D = d + 1 := ⟨D - 1, by omega⟩
  intro n
  induction n with
  | zero => exact fun _ _ _ _ _ _ _ _ _ hE => nomatch (show none = some _ from hE)
  | succ n ih =>
    intro a0 x1 x2 x3 x4 x5 h v h' hE
    unfold Mo_laysMeans_b22 at hE
    refine r_iload rfl rfl ?_
    refine r_aload_n (t := some a0) 0 rfl rfl rfl ?_
    obtain ⟨hk1, hE⟩ := ckE hE
    refine r_getR rfl (fl_11_13 rfl) (Or.inr ⟨_, rfl⟩) rfl hk1 ?_
    refine r_iconst 1 rfl ci_1 ?_
    obtain ⟨a_2, ha3, hE⟩ := bnE hE
    obtain ⟨hk4, hE⟩ := ckE hE
    obtain ⟨hi5, hE⟩ := ckE hE
    refine r_iald rfl ha3 hk4 hi5 ?_
    refine r_icmp_gt (tgt := 145) rfl (by decide) (fun hc6 => ?_) (fun hc6 => ?_)
    · have hE := ifP hc6 hE
      refine r_iinc _ rfl rfl (congrArg _ ci_m1) (by decide) ?_
      refine r_goto (tgt := 8) rfl (by decide) ?_
      first | exact r_sb (hself_8 _ _ _ _ _ _ _ _ hE) ⟨rfl, rfl, rfl, rfl, rfl, trivial⟩ | exact r_sb (hself_8 _ _ _ _ _ _ _ _ hE) (by simp only [su1, su2, dr1_rf, dr1_in, dr1_lo, dr2_rf, dr2_in, dr2_lo]; exact ⟨rfl, rfl, rfl, rfl, rfl, trivial⟩)
    · have hE := ifN hc6 hE
      refine r_iconst 0 rfl ci_0 ?_
      refine r_istore rfl (by decide) ?_
      first | exact r_sb (Mo_laysMeans_b36_ok g N _ hD _ hself_8 _ ih N _ _ _ _ _ _ _ _ _ _ hE) ⟨rfl, rfl, rfl, rfl, rfl, rfl, rfl, trivial⟩ | exact r_sb (Mo_laysMeans_b36_ok g N _ hD _ hself_8 _ ih N _ _ _ _ _ _ _ _ _ _ hE) (by simp only [su1, su2, dr1_rf, dr1_in, dr1_lo, dr2_rf, dr2_in, dr2_lo]; exact ⟨rfl, rfl, rfl, rfl, rfl, rfl, rfl, trivial⟩)
def Mo_laysMeans_b8 (N : Nat) : Nat → Nat → Int32 → Int32 → Int32 → Int32 → PH → Option (Unit × PH)
  | 0 => fun _ _ _ _ _ _ => none
  | n + 1 => fun a0 x1 x2 x3 x4 h =>
    ck ((hK h a0).1 = 11) <|
    ((hR h a0 35)).bind fun a_2 =>
    ck ((hK h a_2).1 = 20) <|
    ck (inb 0 (hK h a_2).2 = true) <|
    if x4 < (hI h a_2 (ix 0)) then
      some ((), h)
    else
      Mo_laysMeans_b22 N (Mo_laysMeans_b8 N n) N a0 x1 x2 x3 x4 0 h
set_option maxRecDepth 20000 in
theorem Mo_laysMeans_b8_ok (g : GT) (N : Nat) (D : Nat) (hD : 5 ≤ D) : ∀ (n : Nat) (a0 : Nat) (x1 : Int32) (x2 : Int32) (x3 : Int32) (x4 : Int32) (h : PH) (v : Unit) (h' : PH), Mo_laysMeans_b8 N n a0 x1 x2 x3 x4 h = some (v, h') → Run g pMo_laysMeans D 8 [(0, va_rf (some a0)), (1, .int x1), (2, .int x2), (3, .int x3), (4, .int x4)] [] h (rV v) h' := by
  obtain ⟨D2, rfl⟩ : ∃ d, D = d + 1 := ⟨D - 1, by omega⟩
  intro n
  induction n with
  | zero => exact fun _ _ _ _ _ _ _ _ hE => nomatch (show none = some _ from hE)
  | succ n ih =>
    intro a0 x1 x2 x3 x4 h v h' hE
    unfold Mo_laysMeans_b8 at hE
    refine r_iload rfl rfl ?_
    refine r_aload_n (t := some a0) 0 rfl rfl rfl ?_
    obtain ⟨hk1, hE⟩ := ckE hE
    refine r_getR rfl (fl_11_81 rfl) (Or.inr ⟨_, rfl⟩) rfl hk1 ?_
    refine r_iconst 0 rfl ci_0 ?_
    obtain ⟨a_2, ha3, hE⟩ := bnE hE
    obtain ⟨hk4, hE⟩ := ckE hE
    obtain ⟨hi5, hE⟩ := ckE hE
    refine r_iald rfl ha3 hk4 hi5 ?_
    refine r_icmp_lt (tgt := 151) rfl (by decide) (fun hc6 => ?_) (fun hc6 => ?_)
    · have hE := ifP hc6 hE
      cases hE
      exact r_ret rfl (Or.inr (Or.inr (Or.inr ⟨rfl, rfl, rfl, rfl⟩)))
    · have hE := ifN hc6 hE
      refine r_iconst 0 rfl ci_0 ?_
      refine r_istore rfl (by decide) ?_
      first | exact r_sb (Mo_laysMeans_b22_ok g N _ hD _ ih N _ _ _ _ _ _ _ _ _ hE) ⟨rfl, rfl, rfl, rfl, rfl, rfl, trivial⟩ | exact r_sb (Mo_laysMeans_b22_ok g N _ hD _ ih N _ _ _ _ _ _ _ _ _ hE) (by simp only [su1, su2, dr1_rf, dr1_in, dr1_lo, dr2_rf, dr2_in, dr2_lo]; exact ⟨rfl, rfl, rfl, rfl, rfl, rfl, trivial⟩)
def Mo_laysMeans (N : Nat) (a0 : Nat) (x1 : Int32) (x2 : Int32) (x3 : Int32) (h : PH) : Option (Unit × PH) :=
  ck ((hK h a0).1 = 11) <|
  ((hR h a0 10)).bind fun a_2 =>
  ck ((hK h a_2).1 = 20) <|
  ck (inb 0 (hK h a_2).2 = true) <|
  Mo_laysMeans_b8 N N a0 x1 x2 x3 (hI h a_2 (ix 0)) h
set_option maxRecDepth 20000 in
theorem Mo_laysMeans_ok (g : GT) (N : Nat) (a0 : Nat) (x1 : Int32) (x2 : Int32) (x3 : Int32) (h : PH) (v : Unit) (h' : PH) (hE : Mo_laysMeans N a0 x1 x2 x3 h = some (v, h')) (D : Nat) (hD : 5 ≤ D) : Calls g D pMo_laysMeans [va_rf (some a0), .int x1, .int x2, .int x3] h (oV v) h' := by
  refine Calls.of cok_Mo_laysMeans ht_Mo_laysMeans pl_Mo_laysMeans (fun ad => by rw [lg_len, sL_cat]; simp only [List.map_cons, List.map_nil, rf_cat, cat_i, cat_l, List.sum_cons, List.sum_nil]; decide) ?_
  rw [show lv_args 0 [va_rf (some a0), .int x1, .int x2, .int x3] = [(0, va_rf (some a0)), (1, .int x1), (2, .int x2), (3, .int x3)] from (by simp only [lv_args, rf_cat, cat_i, cat_l]; try rfl)]
  obtain ⟨D2, rfl⟩ : ∃ d, D = d + 1 := ⟨D - 1, by omega⟩
  unfold Mo_laysMeans at hE
  refine r_aload_n (t := some a0) 0 rfl rfl rfl ?_
  obtain ⟨hk1, hE⟩ := ckE hE
  refine r_getR rfl (fl_11_13 rfl) (Or.inr ⟨_, rfl⟩) rfl hk1 ?_
  refine r_iconst 0 rfl ci_0 ?_
  obtain ⟨a_2, ha3, hE⟩ := bnE hE
  obtain ⟨hk4, hE⟩ := ckE hE
  obtain ⟨hi5, hE⟩ := ckE hE
  refine r_iald rfl ha3 hk4 hi5 ?_
  refine r_istore rfl (by decide) ?_
  first | exact r_sb (Mo_laysMeans_b8_ok g N _ hD  N _ _ _ _ _ _ _ _ hE) ⟨rfl, rfl, rfl, rfl, rfl, trivial⟩ | exact r_sb (Mo_laysMeans_b8_ok g N _ hD  N _ _ _ _ _ _ _ _ hE) (by simp only [su1, su2, dr1_rf, dr1_in, dr1_lo, dr2_rf, dr2_in, dr2_lo]; exact ⟨rfl, rfl, rfl, rfl, rfl, trivial⟩)
def Mo_nowMean (N : Nat) (a0 : Nat) (x1 : Int32) (x2 : Int32) (x3 : Int32) (h : PH) : Option (Int32 × PH) :=
  ck ((hK h a0).1 = 11) <|
  bd (Mo_laysMeans N a0 x1 x2 x3 h) fun v2 h3 =>
  ck ((hK h3 a0).1 = 11) <|
  ((hR h3 a0 35)).bind fun a_6 =>
  ck ((hK h3 a_6).1 = 20) <|
  ck (inb 0 (hK h3 a_6).2 = true) <|
  ck (inb 1 (hK h3 a_6).2 = true) <|
  ck (inb 2 (hK h3 a_6).2 = true) <|
  ck (inb 7 (hK h3 a_6).2 = true) <|
  bd (Mo_at N (hI h3 a_6 (ix 0)) (hI h3 a_6 (ix 1)) (hI h3 a_6 (ix 2)) (hI h3 a_6 (ix 7)) h3) fun v13 h14 =>
  ((hR h3 a0 44)).bind fun a_16 =>
  ck ((hK h14 a_16).1 = 20) <|
  ck (inb v13 (hK h14 a_16).2 = true) <|
  some ((hI h14 a_16 (ix v13)), h14)
set_option maxRecDepth 20000 in
theorem Mo_nowMean_ok (g : GT) (N : Nat) (a0 : Nat) (x1 : Int32) (x2 : Int32) (x3 : Int32) (h : PH) (v : Int32) (h' : PH) (hE : Mo_nowMean N a0 x1 x2 x3 h = some (v, h')) (D : Nat) (hD : 6 ≤ D) : Calls g D pMo_nowMean [va_rf (some a0), .int x1, .int x2, .int x3] h (oI v) h' := by
  refine Calls.of cok_Mo_nowMean ht_Mo_nowMean pl_Mo_nowMean (fun ad => by rw [lg_len, sL_cat]; simp only [List.map_cons, List.map_nil, rf_cat, cat_i, cat_l, List.sum_cons, List.sum_nil]; decide) ?_
  rw [show lv_args 0 [va_rf (some a0), .int x1, .int x2, .int x3] = [(0, va_rf (some a0)), (1, .int x1), (2, .int x2), (3, .int x3)] from (by simp only [lv_args, rf_cat, cat_i, cat_l]; try rfl)]
  obtain ⟨D2, rfl⟩ : ∃ d, D = d + 1 := ⟨D - 1, by omega⟩
  unfold Mo_nowMean at hE
  refine r_aload_n (t := some a0) 0 rfl rfl rfl ?_
  refine r_iload_n 1 rfl rfl rfl ?_
  refine r_iload_n 2 rfl rfl rfl ?_
  refine r_iload_n 3 rfl rfl rfl ?_
  obtain ⟨hk1, hE⟩ := ckE hE
  obtain ⟨v2, h3, hq4, hE⟩ := bdE hE
  refine r_callV0 (rest := []) (hc := (Mo_laysMeans_ok g N _ _ _ _ _ _ _ hq4 D2 (by omega))) rfl pm_Mo_laysMeans lw_11_437 im_Mo_laysMeans sl_Mo_laysMeans rfl rfl rfl (rcOK hk1 rfl) (by decide) ?_
  refine r_aload_n (t := some a0) 0 rfl rfl rfl ?_
  obtain ⟨hk5, hE⟩ := ckE hE
  refine r_getR rfl (fl_11_97 rfl) (Or.inr ⟨_, rfl⟩) rfl hk5 ?_
  refine r_aload_n (t := some a0) 0 rfl rfl rfl ?_
  refine r_getR rfl (fl_11_81 rfl) (Or.inr ⟨_, rfl⟩) rfl hk5 ?_
  refine r_iconst 0 rfl ci_0 ?_
  obtain ⟨a_6, ha7, hE⟩ := bnE hE
  obtain ⟨hk8, hE⟩ := ckE hE
  obtain ⟨hi9, hE⟩ := ckE hE
  refine r_iald rfl ha7 hk8 hi9 ?_
  refine r_aload_n (t := some a0) 0 rfl rfl rfl ?_
  refine r_getR rfl (fl_11_81 rfl) (Or.inr ⟨_, rfl⟩) rfl hk5 ?_
  refine r_iconst 1 rfl ci_1 ?_
  obtain ⟨hi10, hE⟩ := ckE hE
  refine r_iald rfl ha7 hk8 hi10 ?_
  refine r_aload_n (t := some a0) 0 rfl rfl rfl ?_
  refine r_getR rfl (fl_11_81 rfl) (Or.inr ⟨_, rfl⟩) rfl hk5 ?_
  refine r_iconst 2 rfl ci_2 ?_
  obtain ⟨hi11, hE⟩ := ckE hE
  refine r_iald rfl ha7 hk8 hi11 ?_
  refine r_aload_n (t := some a0) 0 rfl rfl rfl ?_
  refine r_getR rfl (fl_11_81 rfl) (Or.inr ⟨_, rfl⟩) rfl hk5 ?_
  refine r_bipush 7 rfl cb_7 ?_
  obtain ⟨hi12, hE⟩ := ckE hE
  refine r_iald rfl ha7 hk8 hi12 ?_
  obtain ⟨v13, h14, hq15, hE⟩ := bdE hE
  refine r_callS1 (rest := [va_rf (hR h3 a0 44)]) (hc := (Mo_at_ok g N _ _ _ _ _ _ _ hq15 D2 (by omega))) rfl pm_Mo_at lw_11_386 st_Mo_at rfl rfl (by simp only [List.map_cons, List.map_nil, rf_cat, cat_i, cat_l, List.sum_cons, List.sum_nil]; decide) ?_
  obtain ⟨a_16, ha17, hE⟩ := bnE hE
  obtain ⟨hk18, hE⟩ := ckE hE
  obtain ⟨hi19, hE⟩ := ckE hE
  refine r_iald rfl ha17 hk18 hi19 ?_
  cases hE
  exact r_ret rfl (Or.inl ⟨rfl, _, _, rfl, rfl, rfl, rfl⟩)
def Mo_mean_b24 (N : Nat) (s0 : Nat) (s1 : Int32) (a0 : Nat) (x1 : Int32) (h : PH) : Option (Int32 × PH) :=
  ck ((hK h s0).1 = 11) <|
  lt0 (wI h s0 0 s1) fun h2 =>
  ck ((hK h2 a0).1 = 11) <|
  if (hI h2 a0 0) = 1 then
    some (0, h2)
  else
    bd (Mo_nowMean N a0 x1 (-1) 0 h2) fun v6 h7 =>
    some (v6, h7)
set_option maxRecDepth 20000 in
theorem Mo_mean_b24_ok (g : GT) (N : Nat) (D : Nat) (hD : 7 ≤ D) : ∀ (s0 : Nat) (s1 : Int32) (a0 : Nat) (x1 : Int32) (h : PH) (v : Int32) (h' : PH), Mo_mean_b24 N s0 s1 a0 x1 h = some (v, h') → Run g pMo_mean D 24 [(0, va_rf (some a0)), (1, .int x1)] [.int s1, va_rf (some s0)] h (rI v) h' := by
  obtain ⟨D2, rfl⟩ : ∃ d, D = d + 1 := ⟨D - 1, by omega⟩
  intro s0 s1 a0 x1 h v h' hE
  unfold Mo_mean_b24 at hE
  obtain ⟨hk1, hE⟩ := ckE hE
  obtain ⟨h2, he3, hE⟩ := ltE hE
  refine r_putI rfl (fl_11_119 rfl) finF rfl hk1 he3 ?_
  refine r_aload_n (t := some a0) 0 rfl rfl rfl ?_
  obtain ⟨hk4, hE⟩ := ckE hE
  refine r_getI rfl (fl_11_119 rfl) (Or.inl rfl) rfl hk4 ?_
  refine r_iconst 1 rfl ci_1 ?_
  refine r_icmp_ne (tgt := 39) rfl (by decide) (fun hc5 => ?_) (fun hc5 => ?_)
  · have hE := ifP hc5 hE
    refine r_iconst 0 rfl ci_0 ?_
    refine r_goto (tgt := 46) rfl (by decide) ?_
    cases hE
    exact r_ret rfl (Or.inl ⟨rfl, _, _, rfl, rfl, rfl, rfl⟩)
  · have hE := ifN hc5 hE
    refine r_aload_n (t := some a0) 0 rfl rfl rfl ?_
    refine r_iload_n 1 rfl rfl rfl ?_
    refine r_iconst (-1) rfl ci_m1 ?_
    refine r_iconst 0 rfl ci_0 ?_
    obtain ⟨v6, h7, hq8, hE⟩ := bdE hE
    refine r_callV1 (rest := []) (hc := (Mo_nowMean_ok g N _ _ _ _ _ _ _ hq8 D2 (by omega))) rfl pm_Mo_nowMean lw_11_444 im_Mo_nowMean sl_Mo_nowMean rfl rfl rfl (rcOK hk4 rfl) (by decide) ?_
    cases hE
    exact r_ret rfl (Or.inl ⟨rfl, _, _, rfl, rfl, rfl, rfl⟩)
def Mo_mean_b23 (N : Nat) (s0 : Nat) (a0 : Nat) (x1 : Int32) (h : PH) : Option (Int32 × PH) :=
  Mo_mean_b24 N  s0 1 a0 x1 h
set_option maxRecDepth 20000 in
theorem Mo_mean_b23_ok (g : GT) (N : Nat) (D : Nat) (hD : 7 ≤ D) : ∀ (s0 : Nat) (a0 : Nat) (x1 : Int32) (h : PH) (v : Int32) (h' : PH), Mo_mean_b23 N s0 a0 x1 h = some (v, h') → Run g pMo_mean D 23 [(0, va_rf (some a0)), (1, .int x1)] [va_rf (some s0)] h (rI v) h' := by
  obtain ⟨D2, rfl⟩ : ∃ d, D = d + 1 := ⟨D - 1, by omega⟩
  intro s0 a0 x1 h v h' hE
  unfold Mo_mean_b23 at hE
  refine r_iconst 1 rfl ci_1 ?_
  first | exact r_sb (Mo_mean_b24_ok g N _ hD   _ _ _ _ _ _ _ hE) ⟨rfl, rfl, trivial⟩ | exact r_sb (Mo_mean_b24_ok g N _ hD   _ _ _ _ _ _ _ hE) (by simp only [su1, su2, dr1_rf, dr1_in, dr1_lo, dr2_rf, dr2_in, dr2_lo]; exact ⟨rfl, rfl, trivial⟩)
def Mo_mean (N : Nat) (a0 : Nat) (x1 : Int32) (h : PH) : Option (Int32 × PH) :=
  ck ((hK h a0).1 = 11) <|
  bd (Mo_isHabit N a0 x1 h) fun v2 h3 =>
  if (bI v2) = 0 then
    Mo_mean_b23 N  a0 a0 x1 h3
  else
    ck ((hK h3 a0).1 = 11) <|
    ((hR h3 a0 35)).bind fun a_7 =>
    ck ((hK h3 a_7).1 = 20) <|
    ck (inb 6 (hK h3 a_7).2 = true) <|
    if (hI h3 a_7 (ix 6)) = 0 then
      Mo_mean_b24 N  a0 0 a0 x1 h3
    else
      Mo_mean_b23 N  a0 a0 x1 h3
set_option maxRecDepth 20000 in
theorem Mo_mean_ok (g : GT) (N : Nat) (a0 : Nat) (x1 : Int32) (h : PH) (v : Int32) (h' : PH) (hE : Mo_mean N a0 x1 h = some (v, h')) (D : Nat) (hD : 7 ≤ D) : Calls g D pMo_mean [va_rf (some a0), .int x1] h (oI v) h' := by
  refine Calls.of cok_Mo_mean ht_Mo_mean pl_Mo_mean (fun ad => by rw [lg_len, sL_cat]; simp only [List.map_cons, List.map_nil, rf_cat, cat_i, cat_l, List.sum_cons, List.sum_nil]; decide) ?_
  rw [show lv_args 0 [va_rf (some a0), .int x1] = [(0, va_rf (some a0)), (1, .int x1)] from (by simp only [lv_args, rf_cat, cat_i, cat_l]; try rfl)]
  obtain ⟨D2, rfl⟩ : ∃ d, D = d + 1 := ⟨D - 1, by omega⟩
  unfold Mo_mean at hE
  refine r_aload_n (t := some a0) 0 rfl rfl rfl ?_
  refine r_aload_n (t := some a0) 0 rfl rfl rfl ?_
  refine r_iload_n 1 rfl rfl rfl ?_
  obtain ⟨hk1, hE⟩ := ckE hE
  obtain ⟨v2, h3, hq4, hE⟩ := bdE hE
  refine r_callV1 (rest := [va_rf (some a0)]) (hc := (Mo_isHabit_ok g N _ _ _ _ _ hq4 D2 (by omega))) rfl pm_Mo_isHabit lw_11_441 im_Mo_isHabit sl_Mo_isHabit rfl rfl rfl (rcOK hk1 rfl) (by simp only [List.map_cons, List.map_nil, rf_cat, cat_i, cat_l, List.sum_cons, List.sum_nil]; decide) ?_
  refine r_if_eq (tgt := 23) rfl (by decide) (fun hc5 => ?_) (fun hc5 => ?_)
  · have hE := ifP hc5 hE
    first | exact r_sb (Mo_mean_b23_ok g N _ hD   _ _ _ _ _ _ hE) ⟨rfl, rfl, trivial⟩ | exact r_sb (Mo_mean_b23_ok g N _ hD   _ _ _ _ _ _ hE) (by simp only [su1, su2, dr1_rf, dr1_in, dr1_lo, dr2_rf, dr2_in, dr2_lo]; exact ⟨rfl, rfl, trivial⟩)
  · have hE := ifN hc5 hE
    refine r_aload_n (t := some a0) 0 rfl rfl rfl ?_
    obtain ⟨hk6, hE⟩ := ckE hE
    refine r_getR rfl (fl_11_81 rfl) (Or.inr ⟨_, rfl⟩) rfl hk6 ?_
    refine r_bipush 6 rfl cb_6 ?_
    obtain ⟨a_7, ha8, hE⟩ := bnE hE
    obtain ⟨hk9, hE⟩ := ckE hE
    obtain ⟨hi10, hE⟩ := ckE hE
    refine r_iald rfl ha8 hk9 hi10 ?_
    refine r_if_ne (tgt := 23) rfl (by decide) (fun hc11 => ?_) (fun hc11 => ?_)
    · have hE := ifP hc11 hE
      refine r_iconst 0 rfl ci_0 ?_
      refine r_goto (tgt := 24) rfl (by decide) ?_
      first | exact r_sb (Mo_mean_b24_ok g N _ hD   _ _ _ _ _ _ _ hE) ⟨rfl, rfl, trivial⟩ | exact r_sb (Mo_mean_b24_ok g N _ hD   _ _ _ _ _ _ _ hE) (by simp only [su1, su2, dr1_rf, dr1_in, dr1_lo, dr2_rf, dr2_in, dr2_lo]; exact ⟨rfl, rfl, trivial⟩)
    · have hE := ifN hc11 hE
      first | exact r_sb (Mo_mean_b23_ok g N _ hD   _ _ _ _ _ _ hE) ⟨rfl, rfl, trivial⟩ | exact r_sb (Mo_mean_b23_ok g N _ hD   _ _ _ _ _ _ hE) (by simp only [su1, su2, dr1_rf, dr1_in, dr1_lo, dr2_rf, dr2_in, dr2_lo]; exact ⟨rfl, rfl, trivial⟩)
def Mo_left_b24 (N : Nat) (s0 : Nat) (s1 : Int32) (a0 : Nat) (x1 : Int32) (h : PH) : Option (Int32 × PH) :=
  ck ((hK h s0).1 = 11) <|
  lt0 (wI h s0 0 s1) fun h2 =>
  ck ((hK h2 a0).1 = 11) <|
  if (hI h2 a0 0) = 1 then
    some (0, h2)
  else
    bd (Mo_nowMean N a0 x1 (-1) 1 h2) fun v6 h7 =>
    some (v6, h7)
set_option maxRecDepth 20000 in
theorem Mo_left_b24_ok (g : GT) (N : Nat) (D : Nat) (hD : 7 ≤ D) : ∀ (s0 : Nat) (s1 : Int32) (a0 : Nat) (x1 : Int32) (h : PH) (v : Int32) (h' : PH), Mo_left_b24 N s0 s1 a0 x1 h = some (v, h') → Run g pMo_left D 24 [(0, va_rf (some a0)), (1, .int x1)] [.int s1, va_rf (some s0)] h (rI v) h' := by
  obtain ⟨D2, rfl⟩ : ∃ d, D = d + 1 := ⟨D - 1, by omega⟩
  intro s0 s1 a0 x1 h v h' hE
  unfold Mo_left_b24 at hE
  obtain ⟨hk1, hE⟩ := ckE hE
  obtain ⟨h2, he3, hE⟩ := ltE hE
  refine r_putI rfl (fl_11_119 rfl) finF rfl hk1 he3 ?_
  refine r_aload_n (t := some a0) 0 rfl rfl rfl ?_
  obtain ⟨hk4, hE⟩ := ckE hE
  refine r_getI rfl (fl_11_119 rfl) (Or.inl rfl) rfl hk4 ?_
  refine r_iconst 1 rfl ci_1 ?_
  refine r_icmp_ne (tgt := 39) rfl (by decide) (fun hc5 => ?_) (fun hc5 => ?_)
  · have hE := ifP hc5 hE
    refine r_iconst 0 rfl ci_0 ?_
    refine r_goto (tgt := 46) rfl (by decide) ?_
    cases hE
    exact r_ret rfl (Or.inl ⟨rfl, _, _, rfl, rfl, rfl, rfl⟩)
  · have hE := ifN hc5 hE
    refine r_aload_n (t := some a0) 0 rfl rfl rfl ?_
    refine r_iload_n 1 rfl rfl rfl ?_
    refine r_iconst (-1) rfl ci_m1 ?_
    refine r_iconst 1 rfl ci_1 ?_
    obtain ⟨v6, h7, hq8, hE⟩ := bdE hE
    refine r_callV1 (rest := []) (hc := (Mo_nowMean_ok g N _ _ _ _ _ _ _ hq8 D2 (by omega))) rfl pm_Mo_nowMean lw_11_444 im_Mo_nowMean sl_Mo_nowMean rfl rfl rfl (rcOK hk4 rfl) (by decide) ?_
    cases hE
    exact r_ret rfl (Or.inl ⟨rfl, _, _, rfl, rfl, rfl, rfl⟩)
def Mo_left_b23 (N : Nat) (s0 : Nat) (a0 : Nat) (x1 : Int32) (h : PH) : Option (Int32 × PH) :=
  Mo_left_b24 N  s0 1 a0 x1 h
set_option maxRecDepth 20000 in
theorem Mo_left_b23_ok (g : GT) (N : Nat) (D : Nat) (hD : 7 ≤ D) : ∀ (s0 : Nat) (a0 : Nat) (x1 : Int32) (h : PH) (v : Int32) (h' : PH), Mo_left_b23 N s0 a0 x1 h = some (v, h') → Run g pMo_left D 23 [(0, va_rf (some a0)), (1, .int x1)] [va_rf (some s0)] h (rI v) h' := by
  obtain ⟨D2, rfl⟩ : ∃ d, D = d + 1 := ⟨D - 1, by omega⟩
  intro s0 a0 x1 h v h' hE
  unfold Mo_left_b23 at hE
  refine r_iconst 1 rfl ci_1 ?_
  first | exact r_sb (Mo_left_b24_ok g N _ hD   _ _ _ _ _ _ _ hE) ⟨rfl, rfl, trivial⟩ | exact r_sb (Mo_left_b24_ok g N _ hD   _ _ _ _ _ _ _ hE) (by simp only [su1, su2, dr1_rf, dr1_in, dr1_lo, dr2_rf, dr2_in, dr2_lo]; exact ⟨rfl, rfl, trivial⟩)
def Mo_left (N : Nat) (a0 : Nat) (x1 : Int32) (h : PH) : Option (Int32 × PH) :=
  ck ((hK h a0).1 = 11) <|
  bd (Mo_isHabit N a0 x1 h) fun v2 h3 =>
  if (bI v2) = 0 then
    Mo_left_b23 N  a0 a0 x1 h3
  else
    ck ((hK h3 a0).1 = 11) <|
    ((hR h3 a0 35)).bind fun a_7 =>
    ck ((hK h3 a_7).1 = 20) <|
    ck (inb 6 (hK h3 a_7).2 = true) <|
    if (hI h3 a_7 (ix 6)) = 0 then
      Mo_left_b24 N  a0 0 a0 x1 h3
    else
      Mo_left_b23 N  a0 a0 x1 h3
set_option maxRecDepth 20000 in
theorem Mo_left_ok (g : GT) (N : Nat) (a0 : Nat) (x1 : Int32) (h : PH) (v : Int32) (h' : PH) (hE : Mo_left N a0 x1 h = some (v, h')) (D : Nat) (hD : 7 ≤ D) : Calls g D pMo_left [va_rf (some a0), .int x1] h (oI v) h' := by
  refine Calls.of cok_Mo_left ht_Mo_left pl_Mo_left (fun ad => by rw [lg_len, sL_cat]; simp only [List.map_cons, List.map_nil, rf_cat, cat_i, cat_l, List.sum_cons, List.sum_nil]; decide) ?_
  rw [show lv_args 0 [va_rf (some a0), .int x1] = [(0, va_rf (some a0)), (1, .int x1)] from (by simp only [lv_args, rf_cat, cat_i, cat_l]; try rfl)]
  obtain ⟨D2, rfl⟩ : ∃ d, D = d + 1 := ⟨D - 1, by omega⟩
  unfold Mo_left at hE
  refine r_aload_n (t := some a0) 0 rfl rfl rfl ?_
  refine r_aload_n (t := some a0) 0 rfl rfl rfl ?_
  refine r_iload_n 1 rfl rfl rfl ?_
  obtain ⟨hk1, hE⟩ := ckE hE
  obtain ⟨v2, h3, hq4, hE⟩ := bdE hE
  refine r_callV1 (rest := [va_rf (some a0)]) (hc := (Mo_isHabit_ok g N _ _ _ _ _ hq4 D2 (by omega))) rfl pm_Mo_isHabit lw_11_441 im_Mo_isHabit sl_Mo_isHabit rfl rfl rfl (rcOK hk1 rfl) (by simp only [List.map_cons, List.map_nil, rf_cat, cat_i, cat_l, List.sum_cons, List.sum_nil]; decide) ?_
  refine r_if_eq (tgt := 23) rfl (by decide) (fun hc5 => ?_) (fun hc5 => ?_)
  · have hE := ifP hc5 hE
    first | exact r_sb (Mo_left_b23_ok g N _ hD   _ _ _ _ _ _ hE) ⟨rfl, rfl, trivial⟩ | exact r_sb (Mo_left_b23_ok g N _ hD   _ _ _ _ _ _ hE) (by simp only [su1, su2, dr1_rf, dr1_in, dr1_lo, dr2_rf, dr2_in, dr2_lo]; exact ⟨rfl, rfl, trivial⟩)
  · have hE := ifN hc5 hE
    refine r_aload_n (t := some a0) 0 rfl rfl rfl ?_
    obtain ⟨hk6, hE⟩ := ckE hE
    refine r_getR rfl (fl_11_81 rfl) (Or.inr ⟨_, rfl⟩) rfl hk6 ?_
    refine r_bipush 6 rfl cb_6 ?_
    obtain ⟨a_7, ha8, hE⟩ := bnE hE
    obtain ⟨hk9, hE⟩ := ckE hE
    obtain ⟨hi10, hE⟩ := ckE hE
    refine r_iald rfl ha8 hk9 hi10 ?_
    refine r_if_ne (tgt := 23) rfl (by decide) (fun hc11 => ?_) (fun hc11 => ?_)
    · have hE := ifP hc11 hE
      refine r_iconst 0 rfl ci_0 ?_
      refine r_goto (tgt := 24) rfl (by decide) ?_
      first | exact r_sb (Mo_left_b24_ok g N _ hD   _ _ _ _ _ _ _ hE) ⟨rfl, rfl, trivial⟩ | exact r_sb (Mo_left_b24_ok g N _ hD   _ _ _ _ _ _ _ hE) (by simp only [su1, su2, dr1_rf, dr1_in, dr1_lo, dr2_rf, dr2_in, dr2_lo]; exact ⟨rfl, rfl, trivial⟩)
    · have hE := ifN hc11 hE
      first | exact r_sb (Mo_left_b23_ok g N _ hD   _ _ _ _ _ _ hE) ⟨rfl, rfl, trivial⟩ | exact r_sb (Mo_left_b23_ok g N _ hD   _ _ _ _ _ _ hE) (by simp only [su1, su2, dr1_rf, dr1_in, dr1_lo, dr2_rf, dr2_in, dr2_lo]; exact ⟨rfl, rfl, trivial⟩)
def Mo_habits_b62 (N : Nat) (self_24 : Nat → Int32 → Int32 → Int32 → PH → Option (Int32 × PH)) (a0 : Nat) (x1 : Int32) (x2 : Int32) (x3 : Int32) (h : PH) : Option (Int32 × PH) :=
  self_24 a0 x1 x2 (x3 + 1) h
set_option maxRecDepth 20000 in
theorem Mo_habits_b62_ok (g : GT) (N : Nat) (D : Nat) (hD : 7 ≤ D) (self_24 : Nat → Int32 → Int32 → Int32 → PH → Option (Int32 × PH)) (hself_24 : ∀ (a0 : Nat) (x1 : Int32) (x2 : Int32) (x3 : Int32) (h : PH) (v : Int32) (h' : PH), self_24 a0 x1 x2 x3 h = some (v, h') → Run g pMo_habits D 24 [(0, va_rf (some a0)), (1, .int x1), (2, .int x2), (3, .int x3)] [] h (rI v) h') : ∀ (a0 : Nat) (x1 : Int32) (x2 : Int32) (x3 : Int32) (h : PH) (v : Int32) (h' : PH), Mo_habits_b62 N self_24 a0 x1 x2 x3 h = some (v, h') → Run g pMo_habits D 62 [(0, va_rf (some a0)), (1, .int x1), (2, .int x2), (3, .int x3)] [] h (rI v) h' := by
  obtain ⟨D2, rfl⟩ : ∃ d, D = d + 1 := ⟨D - 1, by omega⟩
  intro a0 x1 x2 x3 h v h' hE
  unfold Mo_habits_b62 at hE
  refine r_iinc _ rfl rfl (congrArg _ ci_1) (by decide) ?_
  refine r_goto (tgt := 24) rfl (by decide) ?_
  first | exact r_sb (hself_24 _ _ _ _ _ _ _ hE) ⟨rfl, rfl, rfl, rfl, trivial⟩ | exact r_sb (hself_24 _ _ _ _ _ _ _ hE) (by simp only [su1, su2, dr1_rf, dr1_in, dr1_lo, dr2_rf, dr2_in, dr2_lo]; exact ⟨rfl, rfl, rfl, rfl, trivial⟩)
def Mo_habits_b57 (N : Nat) (self_24 : Nat → Int32 → Int32 → Int32 → PH → Option (Int32 × PH)) (a0 : Nat) (x3 : Int32) (x4 : Int32) (h : PH) : Option (Int32 × PH) :=
  Mo_habits_b62 N self_24  a0 x3 x4 x3 h
set_option maxRecDepth 20000 in
theorem Mo_habits_b57_ok (g : GT) (N : Nat) (D : Nat) (hD : 7 ≤ D) (self_24 : Nat → Int32 → Int32 → Int32 → PH → Option (Int32 × PH)) (hself_24 : ∀ (a0 : Nat) (x1 : Int32) (x2 : Int32) (x3 : Int32) (h : PH) (v : Int32) (h' : PH), self_24 a0 x1 x2 x3 h = some (v, h') → Run g pMo_habits D 24 [(0, va_rf (some a0)), (1, .int x1), (2, .int x2), (3, .int x3)] [] h (rI v) h') : ∀ (a0 : Nat) (x3 : Int32) (x4 : Int32) (h : PH) (v : Int32) (h' : PH), Mo_habits_b57 N self_24 a0 x3 x4 h = some (v, h') → Run g pMo_habits D 57 [(0, va_rf (some a0)), (3, .int x3), (4, .int x4)] [] h (rI v) h' := by
  obtain ⟨D2, rfl⟩ : ∃ d, D = d + 1 := ⟨D - 1, by omega⟩
  intro a0 x3 x4 h v h' hE
  unfold Mo_habits_b57 at hE
  refine r_iload_n 3 rfl rfl rfl ?_
  refine r_istore_n 1 rfl rfl (by decide) ?_
  refine r_iload rfl rfl ?_
  refine r_istore_n 2 rfl rfl (by decide) ?_
  first | exact r_sb (Mo_habits_b62_ok g N _ hD _ hself_24  _ _ _ _ _ _ _ hE) ⟨rfl, rfl, rfl, rfl, trivial⟩ | exact r_sb (Mo_habits_b62_ok g N _ hD _ hself_24  _ _ _ _ _ _ _ hE) (by simp only [su1, su2, dr1_rf, dr1_in, dr1_lo, dr2_rf, dr2_in, dr2_lo]; exact ⟨rfl, rfl, rfl, rfl, trivial⟩)
def Mo_habits_b24 (N : Nat) : Nat → Nat → Int32 → Int32 → Int32 → PH → Option (Int32 × PH)
  | 0 => fun _ _ _ _ _ => none
  | n + 1 => fun a0 x1 x2 x3 h =>
    ck ((hK h a0).1 = 11) <|
    ((hR h a0 10)).bind fun a_2 =>
    ck ((hK h a_2).1 = 20) <|
    ck (inb 15 (hK h a_2).2 = true) <|
    if (hI h a_2 (ix 15)) ≤ x3 then
      some (x1, h)
    else
      bd (Mo_nowMean N a0 x3 (-1) 0 h) fun v7 h8 =>
      if x1 < 0 then
        Mo_habits_b57 N (Mo_habits_b24 N n)  a0 x3 v7 h8
      else
        if x2 < v7 then
          Mo_habits_b57 N (Mo_habits_b24 N n)  a0 x3 v7 h8
        else
          Mo_habits_b62 N (Mo_habits_b24 N n)  a0 x1 x2 x3 h8
set_option maxRecDepth 20000 in
theorem Mo_habits_b24_ok (g : GT) (N : Nat) (D : Nat) (hD : 7 ≤ D) : ∀ (n : Nat) (a0 : Nat) (x1 : Int32) (x2 : Int32) (x3 : Int32) (h : PH) (v : Int32) (h' : PH), Mo_habits_b24 N n a0 x1 x2 x3 h = some (v, h') → Run g pMo_habits D 24 [(0, va_rf (some a0)), (1, .int x1), (2, .int x2), (3, .int x3)] [] h (rI v) h' := by
  obtain ⟨D2, rfl⟩ : ∃ d, D = d + 1 := ⟨D - 1, by omega⟩
  intro n
  induction n with
  | zero => exact fun _ _ _ _ _ _ _ hE => nomatch (show none = some _ from hE)
  | succ n ih =>
    intro a0 x1 x2 x3 h v h' hE
    unfold Mo_habits_b24 at hE
    refine r_iload_n 3 rfl rfl rfl ?_
    refine r_aload_n (t := some a0) 0 rfl rfl rfl ?_
    obtain ⟨hk1, hE⟩ := ckE hE
    refine r_getR rfl (fl_11_13 rfl) (Or.inr ⟨_, rfl⟩) rfl hk1 ?_
    refine r_bipush 15 rfl cb_15 ?_
    obtain ⟨a_2, ha3, hE⟩ := bnE hE
    obtain ⟨hk4, hE⟩ := ckE hE
    obtain ⟨hi5, hE⟩ := ckE hE
    refine r_iald rfl ha3 hk4 hi5 ?_
    refine r_icmp_ge (tgt := 68) rfl (by decide) (fun hc6 => ?_) (fun hc6 => ?_)
    · have hE := ifP hc6 hE
      refine r_iload_n 1 rfl rfl rfl ?_
      cases hE
      exact r_ret rfl (Or.inl ⟨rfl, _, _, rfl, rfl, rfl, rfl⟩)
    · have hE := ifN hc6 hE
      refine r_aload_n (t := some a0) 0 rfl rfl rfl ?_
      refine r_iload_n 3 rfl rfl rfl ?_
      refine r_iconst (-1) rfl ci_m1 ?_
      refine r_iconst 0 rfl ci_0 ?_
      obtain ⟨v7, h8, hq9, hE⟩ := bdE hE
      refine r_callV1 (rest := []) (hc := (Mo_nowMean_ok g N _ _ _ _ _ _ _ hq9 D2 (by omega))) rfl pm_Mo_nowMean lw_11_444 im_Mo_nowMean sl_Mo_nowMean rfl rfl rfl (rcOK hk1 rfl) (by decide) ?_
      refine r_istore rfl (by decide) ?_
      refine r_iload_n 1 rfl rfl rfl ?_
      refine r_if_lt (tgt := 57) rfl (by decide) (fun hc10 => ?_) (fun hc10 => ?_)
      · have hE := ifP hc10 hE
        first | exact r_sb (Mo_habits_b57_ok g N _ hD _ ih  _ _ _ _ _ _ hE) ⟨rfl, rfl, rfl, trivial⟩ | exact r_sb (Mo_habits_b57_ok g N _ hD _ ih  _ _ _ _ _ _ hE) (by simp only [su1, su2, dr1_rf, dr1_in, dr1_lo, dr2_rf, dr2_in, dr2_lo]; exact ⟨rfl, rfl, rfl, trivial⟩)
      · have hE := ifN hc10 hE
        refine r_iload rfl rfl ?_
        refine r_iload_n 2 rfl rfl rfl ?_
        refine r_icmp_gt (tgt := 57) rfl (by decide) (fun hc11 => ?_) (fun hc11 => ?_)
        · have hE := ifP hc11 hE
          first | exact r_sb (Mo_habits_b57_ok g N _ hD _ ih  _ _ _ _ _ _ hE) ⟨rfl, rfl, rfl, trivial⟩ | exact r_sb (Mo_habits_b57_ok g N _ hD _ ih  _ _ _ _ _ _ hE) (by simp only [su1, su2, dr1_rf, dr1_in, dr1_lo, dr2_rf, dr2_in, dr2_lo]; exact ⟨rfl, rfl, rfl, trivial⟩)
        · have hE := ifN hc11 hE
          refine r_goto (tgt := 62) rfl (by decide) ?_
          first | exact r_sb (Mo_habits_b62_ok g N _ hD _ ih  _ _ _ _ _ _ _ hE) ⟨rfl, rfl, rfl, rfl, trivial⟩ | exact r_sb (Mo_habits_b62_ok g N _ hD _ ih  _ _ _ _ _ _ _ hE) (by simp only [su1, su2, dr1_rf, dr1_in, dr1_lo, dr2_rf, dr2_in, dr2_lo]; exact ⟨rfl, rfl, rfl, rfl, trivial⟩)
def Mo_habits (N : Nat) (a0 : Nat) (h : PH) : Option (Int32 × PH) :=
  ck ((hK h a0).1 = 11) <|
  lt0 (wI h a0 0 0) fun h2 =>
  ((hR h2 a0 35)).bind fun a_4 =>
  ck ((hK h2 a_4).1 = 20) <|
  ck (inb 6 (hK h2 a_4).2 = true) <|
  if (hI h2 a_4 (ix 6)) = 1 then
    some ((-1), h2)
  else
    Mo_habits_b24 N N a0 (-1) 0 0 h2
set_option maxRecDepth 20000 in
theorem Mo_habits_ok (g : GT) (N : Nat) (a0 : Nat) (h : PH) (v : Int32) (h' : PH) (hE : Mo_habits N a0 h = some (v, h')) (D : Nat) (hD : 7 ≤ D) : Calls g D pMo_habits [va_rf (some a0)] h (oI v) h' := by
  refine Calls.of cok_Mo_habits ht_Mo_habits pl_Mo_habits (fun ad => by rw [lg_len, sL_cat]; simp only [List.map_cons, List.map_nil, rf_cat, cat_i, cat_l, List.sum_cons, List.sum_nil]; decide) ?_
  rw [show lv_args 0 [va_rf (some a0)] = [(0, va_rf (some a0))] from (by simp only [lv_args, rf_cat, cat_i, cat_l]; try rfl)]
  obtain ⟨D2, rfl⟩ : ∃ d, D = d + 1 := ⟨D - 1, by omega⟩
  unfold Mo_habits at hE
  refine r_aload_n (t := some a0) 0 rfl rfl rfl ?_
  refine r_iconst 0 rfl ci_0 ?_
  obtain ⟨hk1, hE⟩ := ckE hE
  obtain ⟨h2, he3, hE⟩ := ltE hE
  refine r_putI rfl (fl_11_119 rfl) finF rfl hk1 he3 ?_
  refine r_aload_n (t := some a0) 0 rfl rfl rfl ?_
  refine r_getR rfl (fl_11_81 rfl) (Or.inr ⟨_, rfl⟩) rfl (kwI he3 hk1) ?_
  refine r_bipush 6 rfl cb_6 ?_
  obtain ⟨a_4, ha5, hE⟩ := bnE hE
  obtain ⟨hk6, hE⟩ := ckE hE
  obtain ⟨hi7, hE⟩ := ckE hE
  refine r_iald rfl ha5 hk6 hi7 ?_
  refine r_iconst 1 rfl ci_1 ?_
  refine r_icmp_ne (tgt := 18) rfl (by decide) (fun hc8 => ?_) (fun hc8 => ?_)
  · have hE := ifP hc8 hE
    refine r_iconst (-1) rfl ci_m1 ?_
    cases hE
    exact r_ret rfl (Or.inl ⟨rfl, _, _, rfl, rfl, rfl, rfl⟩)
  · have hE := ifN hc8 hE
    refine r_iconst (-1) rfl ci_m1 ?_
    refine r_istore_n 1 rfl rfl (by decide) ?_
    refine r_iconst 0 rfl ci_0 ?_
    refine r_istore_n 2 rfl rfl (by decide) ?_
    refine r_iconst 0 rfl ci_0 ?_
    refine r_istore_n 3 rfl rfl (by decide) ?_
    first | exact r_sb (Mo_habits_b24_ok g N _ hD  N _ _ _ _ _ _ _ hE) ⟨rfl, rfl, rfl, rfl, trivial⟩ | exact r_sb (Mo_habits_b24_ok g N _ hD  N _ _ _ _ _ _ _ hE) (by simp only [su1, su2, dr1_rf, dr1_in, dr1_lo, dr2_rf, dr2_in, dr2_lo]; exact ⟨rfl, rfl, rfl, rfl, trivial⟩)
def Mo_close_b78 (N : Nat) (self_38 : Nat → Int32 → Int32 → Int32 → Int32 → PH → Option (Int32 × PH)) (a0 : Nat) (x1 : Int32) (x2 : Int32) (x3 : Int32) (x4 : Int32) (h : PH) : Option (Int32 × PH) :=
  self_38 a0 x1 x2 x3 (x4 + 1) h
set_option maxRecDepth 20000 in
theorem Mo_close_b78_ok (g : GT) (N : Nat) (D : Nat) (hD : 7 ≤ D) (self_38 : Nat → Int32 → Int32 → Int32 → Int32 → PH → Option (Int32 × PH)) (hself_38 : ∀ (a0 : Nat) (x1 : Int32) (x2 : Int32) (x3 : Int32) (x4 : Int32) (h : PH) (v : Int32) (h' : PH), self_38 a0 x1 x2 x3 x4 h = some (v, h') → Run g pMo_close D 38 [(0, va_rf (some a0)), (1, .int x1), (2, .int x2), (3, .int x3), (4, .int x4)] [] h (rI v) h') : ∀ (a0 : Nat) (x1 : Int32) (x2 : Int32) (x3 : Int32) (x4 : Int32) (h : PH) (v : Int32) (h' : PH), Mo_close_b78 N self_38 a0 x1 x2 x3 x4 h = some (v, h') → Run g pMo_close D 78 [(0, va_rf (some a0)), (1, .int x1), (2, .int x2), (3, .int x3), (4, .int x4)] [] h (rI v) h' := by
  obtain ⟨D2, rfl⟩ : ∃ d, D = d + 1 := ⟨D - 1, by omega⟩
  intro a0 x1 x2 x3 x4 h v h' hE
  unfold Mo_close_b78 at hE
  refine r_iinc _ rfl rfl (congrArg _ ci_1) (by decide) ?_
  refine r_goto (tgt := 38) rfl (by decide) ?_
  first | exact r_sb (hself_38 _ _ _ _ _ _ _ _ hE) ⟨rfl, rfl, rfl, rfl, rfl, trivial⟩ | exact r_sb (hself_38 _ _ _ _ _ _ _ _ hE) (by simp only [su1, su2, dr1_rf, dr1_in, dr1_lo, dr2_rf, dr2_in, dr2_lo]; exact ⟨rfl, rfl, rfl, rfl, rfl, trivial⟩)
def Mo_close_b72 (N : Nat) (self_38 : Nat → Int32 → Int32 → Int32 → Int32 → PH → Option (Int32 × PH)) (a0 : Nat) (x1 : Int32) (x4 : Int32) (x5 : Int32) (h : PH) : Option (Int32 × PH) :=
  Mo_close_b78 N self_38  a0 x1 x4 x5 x4 h
set_option maxRecDepth 20000 in
theorem Mo_close_b72_ok (g : GT) (N : Nat) (D : Nat) (hD : 7 ≤ D) (self_38 : Nat → Int32 → Int32 → Int32 → Int32 → PH → Option (Int32 × PH)) (hself_38 : ∀ (a0 : Nat) (x1 : Int32) (x2 : Int32) (x3 : Int32) (x4 : Int32) (h : PH) (v : Int32) (h' : PH), self_38 a0 x1 x2 x3 x4 h = some (v, h') → Run g pMo_close D 38 [(0, va_rf (some a0)), (1, .int x1), (2, .int x2), (3, .int x3), (4, .int x4)] [] h (rI v) h') : ∀ (a0 : Nat) (x1 : Int32) (x4 : Int32) (x5 : Int32) (h : PH) (v : Int32) (h' : PH), Mo_close_b72 N self_38 a0 x1 x4 x5 h = some (v, h') → Run g pMo_close D 72 [(0, va_rf (some a0)), (1, .int x1), (4, .int x4), (5, .int x5)] [] h (rI v) h' := by
  obtain ⟨D2, rfl⟩ : ∃ d, D = d + 1 := ⟨D - 1, by omega⟩
  intro a0 x1 x4 x5 h v h' hE
  unfold Mo_close_b72 at hE
  refine r_iload rfl rfl ?_
  refine r_istore_n 2 rfl rfl (by decide) ?_
  refine r_iload rfl rfl ?_
  refine r_istore_n 3 rfl rfl (by decide) ?_
  first | exact r_sb (Mo_close_b78_ok g N _ hD _ hself_38  _ _ _ _ _ _ _ _ hE) ⟨rfl, rfl, rfl, rfl, rfl, trivial⟩ | exact r_sb (Mo_close_b78_ok g N _ hD _ hself_38  _ _ _ _ _ _ _ _ hE) (by simp only [su1, su2, dr1_rf, dr1_in, dr1_lo, dr2_rf, dr2_in, dr2_lo]; exact ⟨rfl, rfl, rfl, rfl, rfl, trivial⟩)
def Mo_close_b38 (N : Nat) : Nat → Nat → Int32 → Int32 → Int32 → Int32 → PH → Option (Int32 × PH)
  | 0 => fun _ _ _ _ _ _ => none
  | n + 1 => fun a0 x1 x2 x3 x4 h =>
    ck ((hK h a0).1 = 11) <|
    ((hR h a0 10)).bind fun a_2 =>
    ck ((hK h a_2).1 = 20) <|
    ck (inb 0 (hK h a_2).2 = true) <|
    if (hI h a_2 (ix 0)) < x4 then
      some (x2, h)
    else
      bd (Mo_nowMean N a0 x1 x4 0 h) fun v7 h8 =>
      if x2 < 0 then
        Mo_close_b72 N (Mo_close_b38 N n)  a0 x1 x4 v7 h8
      else
        if x3 < v7 then
          Mo_close_b72 N (Mo_close_b38 N n)  a0 x1 x4 v7 h8
        else
          Mo_close_b78 N (Mo_close_b38 N n)  a0 x1 x2 x3 x4 h8
set_option maxRecDepth 20000 in
theorem Mo_close_b38_ok (g : GT) (N : Nat) (D : Nat) (hD : 7 ≤ D) : ∀ (n : Nat) (a0 : Nat) (x1 : Int32) (x2 : Int32) (x3 : Int32) (x4 : Int32) (h : PH) (v : Int32) (h' : PH), Mo_close_b38 N n a0 x1 x2 x3 x4 h = some (v, h') → Run g pMo_close D 38 [(0, va_rf (some a0)), (1, .int x1), (2, .int x2), (3, .int x3), (4, .int x4)] [] h (rI v) h' := by
  obtain ⟨D2, rfl⟩ : ∃ d, D = d + 1 := ⟨D - 1, by omega⟩
  intro n
  induction n with
  | zero => exact fun _ _ _ _ _ _ _ _ hE => nomatch (show none = some _ from hE)
  | succ n ih =>
    intro a0 x1 x2 x3 x4 h v h' hE
    unfold Mo_close_b38 at hE
    refine r_iload rfl rfl ?_
    refine r_aload_n (t := some a0) 0 rfl rfl rfl ?_
    obtain ⟨hk1, hE⟩ := ckE hE
    refine r_getR rfl (fl_11_13 rfl) (Or.inr ⟨_, rfl⟩) rfl hk1 ?_
    refine r_iconst 0 rfl ci_0 ?_
    obtain ⟨a_2, ha3, hE⟩ := bnE hE
    obtain ⟨hk4, hE⟩ := ckE hE
    obtain ⟨hi5, hE⟩ := ckE hE
    refine r_iald rfl ha3 hk4 hi5 ?_
    refine r_icmp_gt (tgt := 84) rfl (by decide) (fun hc6 => ?_) (fun hc6 => ?_)
    · have hE := ifP hc6 hE
      refine r_iload_n 2 rfl rfl rfl ?_
      cases hE
      exact r_ret rfl (Or.inl ⟨rfl, _, _, rfl, rfl, rfl, rfl⟩)
    · have hE := ifN hc6 hE
      refine r_aload_n (t := some a0) 0 rfl rfl rfl ?_
      refine r_iload_n 1 rfl rfl rfl ?_
      refine r_iload rfl rfl ?_
      refine r_iconst 0 rfl ci_0 ?_
      obtain ⟨v7, h8, hq9, hE⟩ := bdE hE
      refine r_callV1 (rest := []) (hc := (Mo_nowMean_ok g N _ _ _ _ _ _ _ hq9 D2 (by omega))) rfl pm_Mo_nowMean lw_11_444 im_Mo_nowMean sl_Mo_nowMean rfl rfl rfl (rcOK hk1 rfl) (by decide) ?_
      refine r_istore rfl (by decide) ?_
      refine r_iload_n 2 rfl rfl rfl ?_
      refine r_if_lt (tgt := 72) rfl (by decide) (fun hc10 => ?_) (fun hc10 => ?_)
      · have hE := ifP hc10 hE
        first | exact r_sb (Mo_close_b72_ok g N _ hD _ ih  _ _ _ _ _ _ _ hE) ⟨rfl, rfl, rfl, rfl, trivial⟩ | exact r_sb (Mo_close_b72_ok g N _ hD _ ih  _ _ _ _ _ _ _ hE) (by simp only [su1, su2, dr1_rf, dr1_in, dr1_lo, dr2_rf, dr2_in, dr2_lo]; exact ⟨rfl, rfl, rfl, rfl, trivial⟩)
      · have hE := ifN hc10 hE
        refine r_iload rfl rfl ?_
        refine r_iload_n 3 rfl rfl rfl ?_
        refine r_icmp_gt (tgt := 72) rfl (by decide) (fun hc11 => ?_) (fun hc11 => ?_)
        · have hE := ifP hc11 hE
          first | exact r_sb (Mo_close_b72_ok g N _ hD _ ih  _ _ _ _ _ _ _ hE) ⟨rfl, rfl, rfl, rfl, trivial⟩ | exact r_sb (Mo_close_b72_ok g N _ hD _ ih  _ _ _ _ _ _ _ hE) (by simp only [su1, su2, dr1_rf, dr1_in, dr1_lo, dr2_rf, dr2_in, dr2_lo]; exact ⟨rfl, rfl, rfl, rfl, trivial⟩)
        · have hE := ifN hc11 hE
          refine r_goto (tgt := 78) rfl (by decide) ?_
          first | exact r_sb (Mo_close_b78_ok g N _ hD _ ih  _ _ _ _ _ _ _ _ hE) ⟨rfl, rfl, rfl, rfl, rfl, trivial⟩ | exact r_sb (Mo_close_b78_ok g N _ hD _ ih  _ _ _ _ _ _ _ _ hE) (by simp only [su1, su2, dr1_rf, dr1_in, dr1_lo, dr2_rf, dr2_in, dr2_lo]; exact ⟨rfl, rfl, rfl, rfl, rfl, trivial⟩)
def Mo_close (N : Nat) (a0 : Nat) (x1 : Int32) (h : PH) : Option (Int32 × PH) :=
  ck ((hK h a0).1 = 11) <|
  lt0 (wI h a0 0 0) fun h2 =>
  bd (Mo_isHabit N a0 x1 h2) fun v4 h5 =>
  if (bI v4) = 0 then
    some ((-1), h5)
  else
    ck ((hK h5 a0).1 = 11) <|
    ((hR h5 a0 35)).bind fun a_9 =>
    ck ((hK h5 a_9).1 = 20) <|
    ck (inb 6 (hK h5 a_9).2 = true) <|
    if (hI h5 a_9 (ix 6)) = 1 then
      some ((-1), h5)
    else
      ck (inb 0 (hK h5 a_9).2 = true) <|
      Mo_close_b38 N N a0 x1 (-1) 0 (hI h5 a_9 (ix 0)) h5
set_option maxRecDepth 20000 in
theorem Mo_close_ok (g : GT) (N : Nat) (a0 : Nat) (x1 : Int32) (h : PH) (v : Int32) (h' : PH) (hE : Mo_close N a0 x1 h = some (v, h')) (D : Nat) (hD : 7 ≤ D) : Calls g D pMo_close [va_rf (some a0), .int x1] h (oI v) h' := by
  refine Calls.of cok_Mo_close ht_Mo_close pl_Mo_close (fun ad => by rw [lg_len, sL_cat]; simp only [List.map_cons, List.map_nil, rf_cat, cat_i, cat_l, List.sum_cons, List.sum_nil]; decide) ?_
  rw [show lv_args 0 [va_rf (some a0), .int x1] = [(0, va_rf (some a0)), (1, .int x1)] from (by simp only [lv_args, rf_cat, cat_i, cat_l]; try rfl)]
  obtain ⟨D2, rfl⟩ : ∃ d, D = d + 1 := ⟨D - 1, by omega⟩
  unfold Mo_close at hE
  refine r_aload_n (t := some a0) 0 rfl rfl rfl ?_
  refine r_iconst 0 rfl ci_0 ?_
  obtain ⟨hk1, hE⟩ := ckE hE
  obtain ⟨h2, he3, hE⟩ := ltE hE
  refine r_putI rfl (fl_11_119 rfl) finF rfl hk1 he3 ?_
  refine r_aload_n (t := some a0) 0 rfl rfl rfl ?_
  refine r_iload_n 1 rfl rfl rfl ?_
  obtain ⟨v4, h5, hq6, hE⟩ := bdE hE
  refine r_callV1 (rest := []) (hc := (Mo_isHabit_ok g N _ _ _ _ _ hq6 D2 (by omega))) rfl pm_Mo_isHabit lw_11_441 im_Mo_isHabit sl_Mo_isHabit rfl rfl rfl (rcOK (kwI he3 hk1) rfl) (by decide) ?_
  refine r_if_eq (tgt := 24) rfl (by decide) (fun hc7 => ?_) (fun hc7 => ?_)
  · have hE := ifP hc7 hE
    refine r_iconst (-1) rfl ci_m1 ?_
    cases hE
    exact r_ret rfl (Or.inl ⟨rfl, _, _, rfl, rfl, rfl, rfl⟩)
  · have hE := ifN hc7 hE
    refine r_aload_n (t := some a0) 0 rfl rfl rfl ?_
    obtain ⟨hk8, hE⟩ := ckE hE
    refine r_getR rfl (fl_11_81 rfl) (Or.inr ⟨_, rfl⟩) rfl hk8 ?_
    refine r_bipush 6 rfl cb_6 ?_
    obtain ⟨a_9, ha10, hE⟩ := bnE hE
    obtain ⟨hk11, hE⟩ := ckE hE
    obtain ⟨hi12, hE⟩ := ckE hE
    refine r_iald rfl ha10 hk11 hi12 ?_
    refine r_iconst 1 rfl ci_1 ?_
    refine r_icmp_ne (tgt := 26) rfl (by decide) (fun hc13 => ?_) (fun hc13 => ?_)
    · have hE := ifP hc13 hE
      refine r_iconst (-1) rfl ci_m1 ?_
      cases hE
      exact r_ret rfl (Or.inl ⟨rfl, _, _, rfl, rfl, rfl, rfl⟩)
    · have hE := ifN hc13 hE
      refine r_iconst (-1) rfl ci_m1 ?_
      refine r_istore_n 2 rfl rfl (by decide) ?_
      refine r_iconst 0 rfl ci_0 ?_
      refine r_istore_n 3 rfl rfl (by decide) ?_
      refine r_aload_n (t := some a0) 0 rfl rfl rfl ?_
      refine r_getR rfl (fl_11_81 rfl) (Or.inr ⟨_, rfl⟩) rfl hk8 ?_
      refine r_iconst 0 rfl ci_0 ?_
      obtain ⟨hi14, hE⟩ := ckE hE
      refine r_iald rfl ha10 hk11 hi14 ?_
      refine r_istore rfl (by decide) ?_
      first | exact r_sb (Mo_close_b38_ok g N _ hD  N _ _ _ _ _ _ _ _ hE) ⟨rfl, rfl, rfl, rfl, rfl, trivial⟩ | exact r_sb (Mo_close_b38_ok g N _ hD  N _ _ _ _ _ _ _ _ hE) (by simp only [su1, su2, dr1_rf, dr1_in, dr1_lo, dr2_rf, dr2_in, dr2_lo]; exact ⟨rfl, rfl, rfl, rfl, rfl, trivial⟩)
def Mo_surelyNow_b142 (N : Nat) (self_7 : Nat → Int32 → Int32 → PH → Option (Int32 × PH)) (self_19 : Nat → Int32 → Int32 → Int32 → PH → Option (Int32 × PH)) (self_32 : Nat → Int32 → Int32 → Int32 → Int32 → PH → Option (Int32 × PH)) (self_44 : Nat → Int32 → Int32 → Int32 → Int32 → Int64 → Int32 → PH → Option (Int32 × PH)) (a0 : Nat) (x1 : Int32) (x2 : Int32) (x3 : Int32) (x4 : Int32) (x5 : Int64) (x7 : Int32) (h : PH) : Option (Int32 × PH) :=
  self_44 a0 x1 x2 x3 x4 x5 (x7 + 1) h
set_option maxRecDepth 20000 in
theorem Mo_surelyNow_b142_ok (g : GT) (N : Nat) (D : Nat) (hD : 2 ≤ D) (self_7 : Nat → Int32 → Int32 → PH → Option (Int32 × PH)) (hself_7 : ∀ (a0 : Nat) (x1 : Int32) (x2 : Int32) (h : PH) (v : Int32) (h' : PH), self_7 a0 x1 x2 h = some (v, h') → Run g pMo_surelyNow D 7 [(0, va_rf (some a0)), (1, .int x1), (2, .int x2)] [] h (rI v) h') (self_19 : Nat → Int32 → Int32 → Int32 → PH → Option (Int32 × PH)) (hself_19 : ∀ (a0 : Nat) (x1 : Int32) (x2 : Int32) (x3 : Int32) (h : PH) (v : Int32) (h' : PH), self_19 a0 x1 x2 x3 h = some (v, h') → Run g pMo_surelyNow D 19 [(0, va_rf (some a0)), (1, .int x1), (2, .int x2), (3, .int x3)] [] h (rI v) h') (self_32 : Nat → Int32 → Int32 → Int32 → Int32 → PH → Option (Int32 × PH)) (hself_32 : ∀ (a0 : Nat) (x1 : Int32) (x2 : Int32) (x3 : Int32) (x4 : Int32) (h : PH) (v : Int32) (h' : PH), self_32 a0 x1 x2 x3 x4 h = some (v, h') → Run g pMo_surelyNow D 32 [(0, va_rf (some a0)), (1, .int x1), (2, .int x2), (3, .int x3), (4, .int x4)] [] h (rI v) h') (self_44 : Nat → Int32 → Int32 → Int32 → Int32 → Int64 → Int32 → PH → Option (Int32 × PH)) (hself_44 : ∀ (a0 : Nat) (x1 : Int32) (x2 : Int32) (x3 : Int32) (x4 : Int32) (x5 : Int64) (x7 : Int32) (h : PH) (v : Int32) (h' : PH), self_44 a0 x1 x2 x3 x4 x5 x7 h = some (v, h') → Run g pMo_surelyNow D 44 [(0, va_rf (some a0)), (1, .int x1), (2, .int x2), (3, .int x3), (4, .int x4), (5, .long x5), (7, .int x7)] [] h (rI v) h') : ∀ (a0 : Nat) (x1 : Int32) (x2 : Int32) (x3 : Int32) (x4 : Int32) (x5 : Int64) (x7 : Int32) (h : PH) (v : Int32) (h' : PH), Mo_surelyNow_b142 N self_7 self_19 self_32 self_44 a0 x1 x2 x3 x4 x5 x7 h = some (v, h') → Run g pMo_surelyNow D 142 [(0, va_rf (some a0)), (1, .int x1), (2, .int x2), (3, .int x3), (4, .int x4), (5, .long x5), (7, .int x7)] [] h (rI v) h' := by
  obtain ⟨D2, rfl⟩ : ∃ d, D = d + 1 := ⟨D - 1, by omega⟩
  intro a0 x1 x2 x3 x4 x5 x7 h v h' hE
  unfold Mo_surelyNow_b142 at hE
  refine r_iinc _ rfl rfl (congrArg _ ci_1) (by decide) ?_
  refine r_goto (tgt := 44) rfl (by decide) ?_
  first | exact r_sb (hself_44 _ _ _ _ _ _ _ _ _ _ hE) ⟨rfl, rfl, rfl, rfl, rfl, rfl, rfl, trivial⟩ | exact r_sb (hself_44 _ _ _ _ _ _ _ _ _ _ hE) (by simp only [su1, su2, dr1_rf, dr1_in, dr1_lo, dr2_rf, dr2_in, dr2_lo]; exact ⟨rfl, rfl, rfl, rfl, rfl, rfl, rfl, trivial⟩)
def Mo_surelyNow_b133 (N : Nat) (self_7 : Nat → Int32 → Int32 → PH → Option (Int32 × PH)) (self_19 : Nat → Int32 → Int32 → Int32 → PH → Option (Int32 × PH)) (self_32 : Nat → Int32 → Int32 → Int32 → Int32 → PH → Option (Int32 × PH)) (self_44 : Nat → Int32 → Int32 → Int32 → Int32 → Int64 → Int32 → PH → Option (Int32 × PH)) (s0 : Int64) (s1 : Int64) (s2 : Option Nat) (s3 : Int32) (s4 : Int32) (s5 : Int32) (s6 : Int32) (a0 : Nat) (x1 : Int32) (x2 : Int32) (x3 : Int32) (x4 : Int32) (x7 : Int32) (h : PH) : Option (Int32 × PH) :=
  bd (Mo_at N s3 s4 s5 s6 h) fun v1 h2 =>
  (s2).bind fun a_4 =>
  ck ((hK h2 a_4).1 = 20) <|
  ck (inb v1 (hK h2 a_4).2 = true) <|
  Mo_surelyNow_b142 N self_7 self_19 self_32 self_44  a0 x1 x2 x3 x4 (s0 + (s1 * (Int32.toInt64 (hI h2 a_4 (ix v1))))) x7 h2
set_option maxRecDepth 20000 in
theorem Mo_surelyNow_b133_ok (g : GT) (N : Nat) (D : Nat) (hD : 2 ≤ D) (self_7 : Nat → Int32 → Int32 → PH → Option (Int32 × PH)) (hself_7 : ∀ (a0 : Nat) (x1 : Int32) (x2 : Int32) (h : PH) (v : Int32) (h' : PH), self_7 a0 x1 x2 h = some (v, h') → Run g pMo_surelyNow D 7 [(0, va_rf (some a0)), (1, .int x1), (2, .int x2)] [] h (rI v) h') (self_19 : Nat → Int32 → Int32 → Int32 → PH → Option (Int32 × PH)) (hself_19 : ∀ (a0 : Nat) (x1 : Int32) (x2 : Int32) (x3 : Int32) (h : PH) (v : Int32) (h' : PH), self_19 a0 x1 x2 x3 h = some (v, h') → Run g pMo_surelyNow D 19 [(0, va_rf (some a0)), (1, .int x1), (2, .int x2), (3, .int x3)] [] h (rI v) h') (self_32 : Nat → Int32 → Int32 → Int32 → Int32 → PH → Option (Int32 × PH)) (hself_32 : ∀ (a0 : Nat) (x1 : Int32) (x2 : Int32) (x3 : Int32) (x4 : Int32) (h : PH) (v : Int32) (h' : PH), self_32 a0 x1 x2 x3 x4 h = some (v, h') → Run g pMo_surelyNow D 32 [(0, va_rf (some a0)), (1, .int x1), (2, .int x2), (3, .int x3), (4, .int x4)] [] h (rI v) h') (self_44 : Nat → Int32 → Int32 → Int32 → Int32 → Int64 → Int32 → PH → Option (Int32 × PH)) (hself_44 : ∀ (a0 : Nat) (x1 : Int32) (x2 : Int32) (x3 : Int32) (x4 : Int32) (x5 : Int64) (x7 : Int32) (h : PH) (v : Int32) (h' : PH), self_44 a0 x1 x2 x3 x4 x5 x7 h = some (v, h') → Run g pMo_surelyNow D 44 [(0, va_rf (some a0)), (1, .int x1), (2, .int x2), (3, .int x3), (4, .int x4), (5, .long x5), (7, .int x7)] [] h (rI v) h') : ∀ (s0 : Int64) (s1 : Int64) (s2 : Option Nat) (s3 : Int32) (s4 : Int32) (s5 : Int32) (s6 : Int32) (a0 : Nat) (x1 : Int32) (x2 : Int32) (x3 : Int32) (x4 : Int32) (x7 : Int32) (h : PH) (v : Int32) (h' : PH), Mo_surelyNow_b133 N self_7 self_19 self_32 self_44 s0 s1 s2 s3 s4 s5 s6 a0 x1 x2 x3 x4 x7 h = some (v, h') → Run g pMo_surelyNow D 133 [(0, va_rf (some a0)), (1, .int x1), (2, .int x2), (3, .int x3), (4, .int x4), (7, .int x7)] [.int s6, .int s5, .int s4, .int s3, va_rf s2, .long s1, .long s0] h (rI v) h' := by
  obtain ⟨D2, rfl⟩ : ∃ d, D = d + 1 := ⟨D - 1, by omega⟩
  intro s0 s1 s2 s3 s4 s5 s6 a0 x1 x2 x3 x4 x7 h v h' hE
  unfold Mo_surelyNow_b133 at hE
  obtain ⟨v1, h2, hq3, hE⟩ := bdE hE
  refine r_callS1 (rest := [va_rf s2, .long s1, .long s0]) (hc := (Mo_at_ok g N _ _ _ _ _ _ _ hq3 D2 (by omega))) rfl pm_Mo_at lw_11_386 st_Mo_at rfl rfl (by simp only [List.map_cons, List.map_nil, rf_cat, cat_i, cat_l, List.sum_cons, List.sum_nil]; decide) ?_
  obtain ⟨a_4, ha5, hE⟩ := bnE hE
  obtain ⟨hk6, hE⟩ := ckE hE
  obtain ⟨hi7, hE⟩ := ckE hE
  refine r_iald rfl ha5 hk6 hi7 ?_
  refine r_i2l rfl ?_
  refine r_lmul rfl ?_
  refine r_ladd rfl ?_
  refine r_lstore rfl (by decide) ?_
  first | exact r_sb (Mo_surelyNow_b142_ok g N _ hD _ hself_7 _ hself_19 _ hself_32 _ hself_44  _ _ _ _ _ _ _ _ _ _ hE) ⟨rfl, rfl, rfl, rfl, rfl, rfl, rfl, trivial⟩ | exact r_sb (Mo_surelyNow_b142_ok g N _ hD _ hself_7 _ hself_19 _ hself_32 _ hself_44  _ _ _ _ _ _ _ _ _ _ hE) (by simp only [su1, su2, dr1_rf, dr1_in, dr1_lo, dr2_rf, dr2_in, dr2_lo]; exact ⟨rfl, rfl, rfl, rfl, rfl, rfl, rfl, trivial⟩)
def Mo_surelyNow_b85 (N : Nat) (self_7 : Nat → Int32 → Int32 → PH → Option (Int32 × PH)) (self_19 : Nat → Int32 → Int32 → Int32 → PH → Option (Int32 × PH)) (self_32 : Nat → Int32 → Int32 → Int32 → Int32 → PH → Option (Int32 × PH)) (self_44 : Nat → Int32 → Int32 → Int32 → Int32 → Int64 → Int32 → PH → Option (Int32 × PH)) (a0 : Nat) (x1 : Int32) (x2 : Int32) (x3 : Int32) (x4 : Int32) (x5 : Int64) (x7 : Int32) (x8 : Int32) (h : PH) : Option (Int32 × PH) :=
  ck ((hK h a0).1 = 11) <|
  bd (Mo_chanceOf N a0 x2 x7 0 h) fun v2 h3 =>
  ck ((hK h3 a0).1 = 11) <|
  bd (Mo_isWordBy N a0 x1 x8 h3) fun v6 h7 =>
  if (bI v6) = 0 then
    Mo_surelyNow_b133 N self_7 self_19 self_32 self_44  x5 (Int32.toInt64 v2) (hR h3 a0 44) (x2 + 1) (mxI 0 (x3 - (x1 * x8))) 0 0 a0 x1 x2 x3 x4 x7 h7
  else
    Mo_surelyNow_b133 N self_7 self_19 self_32 self_44  x5 (Int32.toInt64 v2) (hR h3 a0 44) (x2 + 1) (mxI 0 (x3 - (x1 * x8))) 0 1 a0 x1 x2 x3 x4 x7 h7
set_option maxRecDepth 20000 in
theorem Mo_surelyNow_b85_ok (g : GT) (N : Nat) (D : Nat) (hD : 2 ≤ D) (self_7 : Nat → Int32 → Int32 → PH → Option (Int32 × PH)) (hself_7 : ∀ (a0 : Nat) (x1 : Int32) (x2 : Int32) (h : PH) (v : Int32) (h' : PH), self_7 a0 x1 x2 h = some (v, h') → Run g pMo_surelyNow D 7 [(0, va_rf (some a0)), (1, .int x1), (2, .int x2)] [] h (rI v) h') (self_19 : Nat → Int32 → Int32 → Int32 → PH → Option (Int32 × PH)) (hself_19 : ∀ (a0 : Nat) (x1 : Int32) (x2 : Int32) (x3 : Int32) (h : PH) (v : Int32) (h' : PH), self_19 a0 x1 x2 x3 h = some (v, h') → Run g pMo_surelyNow D 19 [(0, va_rf (some a0)), (1, .int x1), (2, .int x2), (3, .int x3)] [] h (rI v) h') (self_32 : Nat → Int32 → Int32 → Int32 → Int32 → PH → Option (Int32 × PH)) (hself_32 : ∀ (a0 : Nat) (x1 : Int32) (x2 : Int32) (x3 : Int32) (x4 : Int32) (h : PH) (v : Int32) (h' : PH), self_32 a0 x1 x2 x3 x4 h = some (v, h') → Run g pMo_surelyNow D 32 [(0, va_rf (some a0)), (1, .int x1), (2, .int x2), (3, .int x3), (4, .int x4)] [] h (rI v) h') (self_44 : Nat → Int32 → Int32 → Int32 → Int32 → Int64 → Int32 → PH → Option (Int32 × PH)) (hself_44 : ∀ (a0 : Nat) (x1 : Int32) (x2 : Int32) (x3 : Int32) (x4 : Int32) (x5 : Int64) (x7 : Int32) (h : PH) (v : Int32) (h' : PH), self_44 a0 x1 x2 x3 x4 x5 x7 h = some (v, h') → Run g pMo_surelyNow D 44 [(0, va_rf (some a0)), (1, .int x1), (2, .int x2), (3, .int x3), (4, .int x4), (5, .long x5), (7, .int x7)] [] h (rI v) h') : ∀ (a0 : Nat) (x1 : Int32) (x2 : Int32) (x3 : Int32) (x4 : Int32) (x5 : Int64) (x7 : Int32) (x8 : Int32) (h : PH) (v : Int32) (h' : PH), Mo_surelyNow_b85 N self_7 self_19 self_32 self_44 a0 x1 x2 x3 x4 x5 x7 x8 h = some (v, h') → Run g pMo_surelyNow D 85 [(0, va_rf (some a0)), (1, .int x1), (2, .int x2), (3, .int x3), (4, .int x4), (5, .long x5), (7, .int x7), (8, .int x8)] [] h (rI v) h' := by
  obtain ⟨D2, rfl⟩ : ∃ d, D = d + 1 := ⟨D - 1, by omega⟩
  intro a0 x1 x2 x3 x4 x5 x7 x8 h v h' hE
  unfold Mo_surelyNow_b85 at hE
  refine r_iconst 0 rfl ci_0 ?_
  refine r_iload_n 3 rfl rfl rfl ?_
  refine r_iload_n 1 rfl rfl rfl ?_
  refine r_iload rfl rfl ?_
  refine r_imul rfl ?_
  refine r_isub rfl ?_
  refine r_mmax rfl (gt8 51 rfl rfl) mm_max1 mm_2 mm_max3 (by decide) ?_
  refine r_istore rfl (by decide) ?_
  refine r_lload rfl rfl ?_
  refine r_aload_n (t := some a0) 0 rfl rfl rfl ?_
  refine r_iload_n 2 rfl rfl rfl ?_
  refine r_iload rfl rfl ?_
  refine r_iconst 0 rfl ci_0 ?_
  obtain ⟨hk1, hE⟩ := ckE hE
  obtain ⟨v2, h3, hq4, hE⟩ := bdE hE
  refine r_callV1 (rest := [.long x5]) (hc := (Mo_chanceOf_ok g N _ _ _ _ _ _ _ hq4 D2 (by omega))) rfl pm_Mo_chanceOf lw_11_347 im_Mo_chanceOf sl_Mo_chanceOf rfl rfl rfl (rcOK hk1 rfl) (by simp only [List.map_cons, List.map_nil, rf_cat, cat_i, cat_l, List.sum_cons, List.sum_nil]; decide) ?_
  refine r_i2l rfl ?_
  refine r_aload_n (t := some a0) 0 rfl rfl rfl ?_
  obtain ⟨hk5, hE⟩ := ckE hE
  refine r_getR rfl (fl_11_97 rfl) (Or.inr ⟨_, rfl⟩) rfl hk5 ?_
  refine r_iload_n 2 rfl rfl rfl ?_
  refine r_iconst 1 rfl ci_1 ?_
  refine r_iadd rfl ?_
  refine r_iload rfl rfl ?_
  refine r_iconst 0 rfl ci_0 ?_
  refine r_aload_n (t := some a0) 0 rfl rfl rfl ?_
  refine r_iload_n 1 rfl rfl rfl ?_
  refine r_iload rfl rfl ?_
  obtain ⟨v6, h7, hq8, hE⟩ := bdE hE
  refine r_callV1 (rest := [.int 0, .int (mxI 0 (x3 - (x1 * x8))), .int (x2 + 1), va_rf (hR h3 a0 44), .long (Int32.toInt64 v2), .long x5]) (hc := (Mo_isWordBy_ok g N _ _ _ _ _ _ hq8 D2 (by omega))) rfl pm_Mo_isWordBy lw_11_359 im_Mo_isWordBy sl_Mo_isWordBy rfl rfl rfl (rcOK hk5 rfl) (by simp only [List.map_cons, List.map_nil, rf_cat, cat_i, cat_l, List.sum_cons, List.sum_nil]; decide) ?_
  refine r_if_eq (tgt := 132) rfl (by decide) (fun hc9 => ?_) (fun hc9 => ?_)
  · have hE := ifP hc9 hE
    refine r_iconst 0 rfl ci_0 ?_
    first | exact r_sb (Mo_surelyNow_b133_ok g N _ hD _ hself_7 _ hself_19 _ hself_32 _ hself_44  _ _ _ _ _ _ _ _ _ _ _ _ _ _ _ _ hE) ⟨rfl, rfl, rfl, rfl, rfl, rfl, trivial⟩ | exact r_sb (Mo_surelyNow_b133_ok g N _ hD _ hself_7 _ hself_19 _ hself_32 _ hself_44  _ _ _ _ _ _ _ _ _ _ _ _ _ _ _ _ hE) (by simp only [su1, su2, dr1_rf, dr1_in, dr1_lo, dr2_rf, dr2_in, dr2_lo]; exact ⟨rfl, rfl, rfl, rfl, rfl, rfl, trivial⟩)
  · have hE := ifN hc9 hE
    refine r_iconst 1 rfl ci_1 ?_
    refine r_goto (tgt := 133) rfl (by decide) ?_
    first | exact r_sb (Mo_surelyNow_b133_ok g N _ hD _ hself_7 _ hself_19 _ hself_32 _ hself_44  _ _ _ _ _ _ _ _ _ _ _ _ _ _ _ _ hE) ⟨rfl, rfl, rfl, rfl, rfl, rfl, trivial⟩ | exact r_sb (Mo_surelyNow_b133_ok g N _ hD _ hself_7 _ hself_19 _ hself_32 _ hself_44  _ _ _ _ _ _ _ _ _ _ _ _ _ _ _ _ hE) (by simp only [su1, su2, dr1_rf, dr1_in, dr1_lo, dr2_rf, dr2_in, dr2_lo]; exact ⟨rfl, rfl, rfl, rfl, rfl, rfl, trivial⟩)
def Mo_surelyNow_b183 (N : Nat) (self_7 : Nat → Int32 → Int32 → PH → Option (Int32 × PH)) (self_19 : Nat → Int32 → Int32 → Int32 → PH → Option (Int32 × PH)) (self_32 : Nat → Int32 → Int32 → Int32 → Int32 → PH → Option (Int32 × PH)) (s0 : Option Nat) (s1 : Int32) (s2 : Int32) (a0 : Nat) (x1 : Int32) (x2 : Int32) (x3 : Int32) (x4 : Int32) (h : PH) : Option (Int32 × PH) :=
  (s0).bind fun a_1 =>
  ck ((hK h a_1).1 = 20) <|
  ck (inb s1 (hK h a_1).2 = true) <|
  lt0 (wI h a_1 (ix s1) s2) fun h5 =>
  self_32 a0 x1 x2 x3 (x4 + 1) h5
set_option maxRecDepth 20000 in
theorem Mo_surelyNow_b183_ok (g : GT) (N : Nat) (D : Nat) (hD : 2 ≤ D) (self_7 : Nat → Int32 → Int32 → PH → Option (Int32 × PH)) (hself_7 : ∀ (a0 : Nat) (x1 : Int32) (x2 : Int32) (h : PH) (v : Int32) (h' : PH), self_7 a0 x1 x2 h = some (v, h') → Run g pMo_surelyNow D 7 [(0, va_rf (some a0)), (1, .int x1), (2, .int x2)] [] h (rI v) h') (self_19 : Nat → Int32 → Int32 → Int32 → PH → Option (Int32 × PH)) (hself_19 : ∀ (a0 : Nat) (x1 : Int32) (x2 : Int32) (x3 : Int32) (h : PH) (v : Int32) (h' : PH), self_19 a0 x1 x2 x3 h = some (v, h') → Run g pMo_surelyNow D 19 [(0, va_rf (some a0)), (1, .int x1), (2, .int x2), (3, .int x3)] [] h (rI v) h') (self_32 : Nat → Int32 → Int32 → Int32 → Int32 → PH → Option (Int32 × PH)) (hself_32 : ∀ (a0 : Nat) (x1 : Int32) (x2 : Int32) (x3 : Int32) (x4 : Int32) (h : PH) (v : Int32) (h' : PH), self_32 a0 x1 x2 x3 x4 h = some (v, h') → Run g pMo_surelyNow D 32 [(0, va_rf (some a0)), (1, .int x1), (2, .int x2), (3, .int x3), (4, .int x4)] [] h (rI v) h') : ∀ (s0 : Option Nat) (s1 : Int32) (s2 : Int32) (a0 : Nat) (x1 : Int32) (x2 : Int32) (x3 : Int32) (x4 : Int32) (h : PH) (v : Int32) (h' : PH), Mo_surelyNow_b183 N self_7 self_19 self_32 s0 s1 s2 a0 x1 x2 x3 x4 h = some (v, h') → Run g pMo_surelyNow D 183 [(0, va_rf (some a0)), (1, .int x1), (2, .int x2), (3, .int x3), (4, .int x4)] [.int s2, .int s1, va_rf s0] h (rI v) h' := by
  obtain ⟨D2, rfl⟩ : ∃ d, D = d + 1 := ⟨D - 1, by omega⟩
  intro s0 s1 s2 a0 x1 x2 x3 x4 h v h' hE
  unfold Mo_surelyNow_b183 at hE
  obtain ⟨a_1, ha2, hE⟩ := bnE hE
  obtain ⟨hk3, hE⟩ := ckE hE
  obtain ⟨hi4, hE⟩ := ckE hE
  obtain ⟨h5, he6, hE⟩ := ltE hE
  refine r_iast rfl ha2 hk3 hi4 he6 ?_
  refine r_iinc _ rfl rfl (congrArg _ ci_1) (by decide) ?_
  refine r_goto (tgt := 32) rfl (by decide) ?_
  first | exact r_sb (hself_32 _ _ _ _ _ _ _ _ hE) ⟨rfl, rfl, rfl, rfl, rfl, trivial⟩ | exact r_sb (hself_32 _ _ _ _ _ _ _ _ hE) (by simp only [su1, su2, dr1_rf, dr1_in, dr1_lo, dr2_rf, dr2_in, dr2_lo]; exact ⟨rfl, rfl, rfl, rfl, rfl, trivial⟩)
def Mo_surelyNow_b148 (N : Nat) (self_7 : Nat → Int32 → Int32 → PH → Option (Int32 × PH)) (self_19 : Nat → Int32 → Int32 → Int32 → PH → Option (Int32 × PH)) (self_32 : Nat → Int32 → Int32 → Int32 → Int32 → PH → Option (Int32 × PH)) (a0 : Nat) (x1 : Int32) (x2 : Int32) (x3 : Int32) (x4 : Int32) (x5 : Int64) (h : PH) : Option (Int32 × PH) :=
  ck ((hK h a0).1 = 11) <|
  bd (Mo_at N x2 x3 0 x4 h) fun v2 h3 =>
  ck ((hK h3 a0).1 = 11) <|
  ((hR h3 a0 10)).bind fun a_6 =>
  ck ((hK h3 a_6).1 = 20) <|
  ck (inb 0 (hK h3 a_6).2 = true) <|
  if x2 = (hI h3 a_6 (ix 0)) then
    Mo_surelyNow_b183 N self_7 self_19 self_32  (hR h a0 44) v2 1000000 a0 x1 x2 x3 x4 h3
  else
    ck (¬ (10 : Int64) = 0) <|
    Mo_surelyNow_b183 N self_7 self_19 self_32  (hR h a0 44) v2 (Int64.toInt32 (x5 / 10)) a0 x1 x2 x3 x4 h3
set_option maxRecDepth 20000 in
theorem Mo_surelyNow_b148_ok (g : GT) (N : Nat) (D : Nat) (hD : 2 ≤ D) (self_7 : Nat → Int32 → Int32 → PH → Option (Int32 × PH)) (hself_7 : ∀ (a0 : Nat) (x1 : Int32) (x2 : Int32) (h : PH) (v : Int32) (h' : PH), self_7 a0 x1 x2 h = some (v, h') → Run g pMo_surelyNow D 7 [(0, va_rf (some a0)), (1, .int x1), (2, .int x2)] [] h (rI v) h') (self_19 : Nat → Int32 → Int32 → Int32 → PH → Option (Int32 × PH)) (hself_19 : ∀ (a0 : Nat) (x1 : Int32) (x2 : Int32) (x3 : Int32) (h : PH) (v : Int32) (h' : PH), self_19 a0 x1 x2 x3 h = some (v, h') → Run g pMo_surelyNow D 19 [(0, va_rf (some a0)), (1, .int x1), (2, .int x2), (3, .int x3)] [] h (rI v) h') (self_32 : Nat → Int32 → Int32 → Int32 → Int32 → PH → Option (Int32 × PH)) (hself_32 : ∀ (a0 : Nat) (x1 : Int32) (x2 : Int32) (x3 : Int32) (x4 : Int32) (h : PH) (v : Int32) (h' : PH), self_32 a0 x1 x2 x3 x4 h = some (v, h') → Run g pMo_surelyNow D 32 [(0, va_rf (some a0)), (1, .int x1), (2, .int x2), (3, .int x3), (4, .int x4)] [] h (rI v) h') : ∀ (a0 : Nat) (x1 : Int32) (x2 : Int32) (x3 : Int32) (x4 : Int32) (x5 : Int64) (h : PH) (v : Int32) (h' : PH), Mo_surelyNow_b148 N self_7 self_19 self_32 a0 x1 x2 x3 x4 x5 h = some (v, h') → Run g pMo_surelyNow D 148 [(0, va_rf (some a0)), (1, .int x1), (2, .int x2), (3, .int x3), (4, .int x4), (5, .long x5)] [] h (rI v) h' := by
  obtain ⟨D2, rfl⟩ : ∃ d, D = d + 1 := ⟨D - 1, by omega⟩
  intro a0 x1 x2 x3 x4 x5 h v h' hE
  unfold Mo_surelyNow_b148 at hE
  refine r_aload_n (t := some a0) 0 rfl rfl rfl ?_
  obtain ⟨hk1, hE⟩ := ckE hE
  refine r_getR rfl (fl_11_97 rfl) (Or.inr ⟨_, rfl⟩) rfl hk1 ?_
  refine r_iload_n 2 rfl rfl rfl ?_
  refine r_iload_n 3 rfl rfl rfl ?_
  refine r_iconst 0 rfl ci_0 ?_
  refine r_iload rfl rfl ?_
  obtain ⟨v2, h3, hq4, hE⟩ := bdE hE
  refine r_callS1 (rest := [va_rf (hR h a0 44)]) (hc := (Mo_at_ok g N _ _ _ _ _ _ _ hq4 D2 (by omega))) rfl pm_Mo_at lw_11_386 st_Mo_at rfl rfl (by simp only [List.map_cons, List.map_nil, rf_cat, cat_i, cat_l, List.sum_cons, List.sum_nil]; decide) ?_
  refine r_iload_n 2 rfl rfl rfl ?_
  refine r_aload_n (t := some a0) 0 rfl rfl rfl ?_
  obtain ⟨hk5, hE⟩ := ckE hE
  refine r_getR rfl (fl_11_13 rfl) (Or.inr ⟨_, rfl⟩) rfl hk5 ?_
  refine r_iconst 0 rfl ci_0 ?_
  obtain ⟨a_6, ha7, hE⟩ := bnE hE
  obtain ⟨hk8, hE⟩ := ckE hE
  obtain ⟨hi9, hE⟩ := ckE hE
  refine r_iald rfl ha7 hk8 hi9 ?_
  refine r_icmp_ne (tgt := 176) rfl (by decide) (fun hc10 => ?_) (fun hc10 => ?_)
  · have hE := ifP hc10 hE
    refine r_ldcw rfl kc_11_447 ?_
    refine r_goto (tgt := 183) rfl (by decide) ?_
    first | exact r_sb (Mo_surelyNow_b183_ok g N _ hD _ hself_7 _ hself_19 _ hself_32  _ _ _ _ _ _ _ _ _ _ _ hE) ⟨rfl, rfl, rfl, rfl, rfl, trivial⟩ | exact r_sb (Mo_surelyNow_b183_ok g N _ hD _ hself_7 _ hself_19 _ hself_32  _ _ _ _ _ _ _ _ _ _ _ hE) (by simp only [su1, su2, dr1_rf, dr1_in, dr1_lo, dr2_rf, dr2_in, dr2_lo]; exact ⟨rfl, rfl, rfl, rfl, rfl, trivial⟩)
  · have hE := ifN hc10 hE
    refine r_lload rfl rfl ?_
    refine r_ldc2 rfl kc_11_351 ?_
    obtain ⟨hc11, hE⟩ := ckE hE
    refine r_ldiv rfl hc11 ?_
    refine r_l2i rfl ?_
    first | exact r_sb (Mo_surelyNow_b183_ok g N _ hD _ hself_7 _ hself_19 _ hself_32  _ _ _ _ _ _ _ _ _ _ _ hE) ⟨rfl, rfl, rfl, rfl, rfl, trivial⟩ | exact r_sb (Mo_surelyNow_b183_ok g N _ hD _ hself_7 _ hself_19 _ hself_32  _ _ _ _ _ _ _ _ _ _ _ hE) (by simp only [su1, su2, dr1_rf, dr1_in, dr1_lo, dr2_rf, dr2_in, dr2_lo]; exact ⟨rfl, rfl, rfl, rfl, rfl, trivial⟩)
def Mo_surelyNow_b44 (N : Nat) (self_7 : Nat → Int32 → Int32 → PH → Option (Int32 × PH)) (self_19 : Nat → Int32 → Int32 → Int32 → PH → Option (Int32 × PH)) (self_32 : Nat → Int32 → Int32 → Int32 → Int32 → PH → Option (Int32 × PH)) : Nat → Nat → Int32 → Int32 → Int32 → Int32 → Int64 → Int32 → PH → Option (Int32 × PH)
  | 0 => fun _ _ _ _ _ _ _ _ => none
  | n + 1 => fun a0 x1 x2 x3 x4 x5 x7 h =>
    if 4 ≤ x7 then
      Mo_surelyNow_b148 N self_7 self_19 self_32  a0 x1 x2 x3 x4 x5 h
    else
      ck ((hK h a0).1 = 11) <|
      ((hR h a0 10)).bind fun a_3 =>
      ck ((hK h a_3).1 = 20) <|
      ck (inb 0 (hK h a_3).2 = true) <|
      if (hI h a_3 (ix 0)) ≤ x2 then
        Mo_surelyNow_b148 N self_7 self_19 self_32  a0 x1 x2 x3 x4 x5 h
      else
        if (x7 + x4) ≤ 0 then
          Mo_surelyNow_b85 N self_7 self_19 self_32 (Mo_surelyNow_b44 N self_7 self_19 self_32 n)  a0 x1 x2 x3 x4 x5 x7 (x7 + x4) h
        else
          if (x1 * ((x7 + x4) - 1)) < x3 then
            Mo_surelyNow_b85 N self_7 self_19 self_32 (Mo_surelyNow_b44 N self_7 self_19 self_32 n)  a0 x1 x2 x3 x4 x5 x7 (x7 + x4) h
          else
            Mo_surelyNow_b142 N self_7 self_19 self_32 (Mo_surelyNow_b44 N self_7 self_19 self_32 n)  a0 x1 x2 x3 x4 x5 x7 h
set_option maxRecDepth 20000 in
theorem Mo_surelyNow_b44_ok (g : GT) (N : Nat) (D : Nat) (hD : 2 ≤ D) (self_7 : Nat → Int32 → Int32 → PH → Option (Int32 × PH)) (hself_7 : ∀ (a0 : Nat) (x1 : Int32) (x2 : Int32) (h : PH) (v : Int32) (h' : PH), self_7 a0 x1 x2 h = some (v, h') → Run g pMo_surelyNow D 7 [(0, va_rf (some a0)), (1, .int x1), (2, .int x2)] [] h (rI v) h') (self_19 : Nat → Int32 → Int32 → Int32 → PH → Option (Int32 × PH)) (hself_19 : ∀ (a0 : Nat) (x1 : Int32) (x2 : Int32) (x3 : Int32) (h : PH) (v : Int32) (h' : PH), self_19 a0 x1 x2 x3 h = some (v, h') → Run g pMo_surelyNow D 19 [(0, va_rf (some a0)), (1, .int x1), (2, .int x2), (3, .int x3)] [] h (rI v) h') (self_32 : Nat → Int32 → Int32 → Int32 → Int32 → PH → Option (Int32 × PH)) (hself_32 : ∀ (a0 : Nat) (x1 : Int32) (x2 : Int32) (x3 : Int32) (x4 : Int32) (h : PH) (v : Int32) (h' : PH), self_32 a0 x1 x2 x3 x4 h = some (v, h') → Run g pMo_surelyNow D 32 [(0, va_rf (some a0)), (1, .int x1), (2, .int x2), (3, .int x3), (4, .int x4)] [] h (rI v) h') : ∀ (n : Nat) (a0 : Nat) (x1 : Int32) (x2 : Int32) (x3 : Int32) (x4 : Int32) (x5 : Int64) (x7 : Int32) (h : PH) (v : Int32) (h' : PH), Mo_surelyNow_b44 N self_7 self_19 self_32 n a0 x1 x2 x3 x4 x5 x7 h = some (v, h') → Run g pMo_surelyNow D 44 [(0, va_rf (some a0)), (1, .int x1), (2, .int x2), (3, .int x3), (4, .int x4), (5, .long x5), (7, .int x7)] [] h (rI v) h' := by
  obtain ⟨D2, rfl⟩ : ∃ d, D = d + 1 := ⟨D - 1, by omega⟩
  intro n
  induction n with
  | zero => exact fun _ _ _ _ _ _ _ _ _ _ hE => nomatch (show none = some _ from hE)
  | succ n ih =>
    intro a0 x1 x2 x3 x4 x5 x7 h v h' hE
    unfold Mo_surelyNow_b44 at hE
    refine r_iload rfl rfl ?_
    refine r_iconst 4 rfl ci_4 ?_
    refine r_icmp_ge (tgt := 148) rfl (by decide) (fun hc1 => ?_) (fun hc1 => ?_)
    · have hE := ifP hc1 hE
      first | exact r_sb (Mo_surelyNow_b148_ok g N _ hD _ hself_7 _ hself_19 _ hself_32  _ _ _ _ _ _ _ _ _ hE) ⟨rfl, rfl, rfl, rfl, rfl, rfl, trivial⟩ | exact r_sb (Mo_surelyNow_b148_ok g N _ hD _ hself_7 _ hself_19 _ hself_32  _ _ _ _ _ _ _ _ _ hE) (by simp only [su1, su2, dr1_rf, dr1_in, dr1_lo, dr2_rf, dr2_in, dr2_lo]; exact ⟨rfl, rfl, rfl, rfl, rfl, rfl, trivial⟩)
    · have hE := ifN hc1 hE
      refine r_iload_n 2 rfl rfl rfl ?_
      refine r_aload_n (t := some a0) 0 rfl rfl rfl ?_
      obtain ⟨hk2, hE⟩ := ckE hE
      refine r_getR rfl (fl_11_13 rfl) (Or.inr ⟨_, rfl⟩) rfl hk2 ?_
      refine r_iconst 0 rfl ci_0 ?_
      obtain ⟨a_3, ha4, hE⟩ := bnE hE
      obtain ⟨hk5, hE⟩ := ckE hE
      obtain ⟨hi6, hE⟩ := ckE hE
      refine r_iald rfl ha4 hk5 hi6 ?_
      refine r_icmp_ge (tgt := 148) rfl (by decide) (fun hc7 => ?_) (fun hc7 => ?_)
      · have hE := ifP hc7 hE
        first | exact r_sb (Mo_surelyNow_b148_ok g N _ hD _ hself_7 _ hself_19 _ hself_32  _ _ _ _ _ _ _ _ _ hE) ⟨rfl, rfl, rfl, rfl, rfl, rfl, trivial⟩ | exact r_sb (Mo_surelyNow_b148_ok g N _ hD _ hself_7 _ hself_19 _ hself_32  _ _ _ _ _ _ _ _ _ hE) (by simp only [su1, su2, dr1_rf, dr1_in, dr1_lo, dr2_rf, dr2_in, dr2_lo]; exact ⟨rfl, rfl, rfl, rfl, rfl, rfl, trivial⟩)
      · have hE := ifN hc7 hE
        refine r_iload rfl rfl ?_
        refine r_iload rfl rfl ?_
        refine r_iadd rfl ?_
        refine r_istore rfl (by decide) ?_
        refine r_iload rfl rfl ?_
        refine r_if_le (tgt := 85) rfl (by decide) (fun hc8 => ?_) (fun hc8 => ?_)
        · have hE := ifP hc8 hE
          first | exact r_sb (Mo_surelyNow_b85_ok g N _ hD _ hself_7 _ hself_19 _ hself_32 _ ih  _ _ _ _ _ _ _ _ _ _ _ hE) ⟨rfl, rfl, rfl, rfl, rfl, rfl, rfl, rfl, trivial⟩ | exact r_sb (Mo_surelyNow_b85_ok g N _ hD _ hself_7 _ hself_19 _ hself_32 _ ih  _ _ _ _ _ _ _ _ _ _ _ hE) (by simp only [su1, su2, dr1_rf, dr1_in, dr1_lo, dr2_rf, dr2_in, dr2_lo]; exact ⟨rfl, rfl, rfl, rfl, rfl, rfl, rfl, rfl, trivial⟩)
        · have hE := ifN hc8 hE
          refine r_iload_n 3 rfl rfl rfl ?_
          refine r_iload_n 1 rfl rfl rfl ?_
          refine r_iload rfl rfl ?_
          refine r_iconst 1 rfl ci_1 ?_
          refine r_isub rfl ?_
          refine r_imul rfl ?_
          refine r_icmp_gt (tgt := 85) rfl (by decide) (fun hc9 => ?_) (fun hc9 => ?_)
          · have hE := ifP hc9 hE
            first | exact r_sb (Mo_surelyNow_b85_ok g N _ hD _ hself_7 _ hself_19 _ hself_32 _ ih  _ _ _ _ _ _ _ _ _ _ _ hE) ⟨rfl, rfl, rfl, rfl, rfl, rfl, rfl, rfl, trivial⟩ | exact r_sb (Mo_surelyNow_b85_ok g N _ hD _ hself_7 _ hself_19 _ hself_32 _ ih  _ _ _ _ _ _ _ _ _ _ _ hE) (by simp only [su1, su2, dr1_rf, dr1_in, dr1_lo, dr2_rf, dr2_in, dr2_lo]; exact ⟨rfl, rfl, rfl, rfl, rfl, rfl, rfl, rfl, trivial⟩)
          · have hE := ifN hc9 hE
            refine r_goto (tgt := 142) rfl (by decide) ?_
            first | exact r_sb (Mo_surelyNow_b142_ok g N _ hD _ hself_7 _ hself_19 _ hself_32 _ ih  _ _ _ _ _ _ _ _ _ _ hE) ⟨rfl, rfl, rfl, rfl, rfl, rfl, rfl, trivial⟩ | exact r_sb (Mo_surelyNow_b142_ok g N _ hD _ hself_7 _ hself_19 _ hself_32 _ ih  _ _ _ _ _ _ _ _ _ _ hE) (by simp only [su1, su2, dr1_rf, dr1_in, dr1_lo, dr2_rf, dr2_in, dr2_lo]; exact ⟨rfl, rfl, rfl, rfl, rfl, rfl, rfl, trivial⟩)
def Mo_surelyNow_b32 (N : Nat) (self_7 : Nat → Int32 → Int32 → PH → Option (Int32 × PH)) (self_19 : Nat → Int32 → Int32 → Int32 → PH → Option (Int32 × PH)) : Nat → Nat → Int32 → Int32 → Int32 → Int32 → PH → Option (Int32 × PH)
  | 0 => fun _ _ _ _ _ _ => none
  | n + 1 => fun a0 x1 x2 x3 x4 h =>
    if 2 ≤ x4 then
      self_19 a0 x1 x2 (x3 + 1) h
    else
      Mo_surelyNow_b44 N self_7 self_19 (Mo_surelyNow_b32 N self_7 self_19 n) N a0 x1 x2 x3 x4 0 0 h
set_option maxRecDepth 20000 in
theorem Mo_surelyNow_b32_ok (g : GT) (N : Nat) (D : Nat) (hD : 2 ≤ D) (self_7 : Nat → Int32 → Int32 → PH → Option (Int32 × PH)) (hself_7 : ∀ (a0 : Nat) (x1 : Int32) (x2 : Int32) (h : PH) (v : Int32) (h' : PH), self_7 a0 x1 x2 h = some (v, h') → Run g pMo_surelyNow D 7 [(0, va_rf (some a0)), (1, .int x1), (2, .int x2)] [] h (rI v) h') (self_19 : Nat → Int32 → Int32 → Int32 → PH → Option (Int32 × PH)) (hself_19 : ∀ (a0 : Nat) (x1 : Int32) (x2 : Int32) (x3 : Int32) (h : PH) (v : Int32) (h' : PH), self_19 a0 x1 x2 x3 h = some (v, h') → Run g pMo_surelyNow D 19 [(0, va_rf (some a0)), (1, .int x1), (2, .int x2), (3, .int x3)] [] h (rI v) h') : ∀ (n : Nat) (a0 : Nat) (x1 : Int32) (x2 : Int32) (x3 : Int32) (x4 : Int32) (h : PH) (v : Int32) (h' : PH), Mo_surelyNow_b32 N self_7 self_19 n a0 x1 x2 x3 x4 h = some (v, h') → Run g pMo_surelyNow D 32 [(0, va_rf (some a0)), (1, .int x1), (2, .int x2), (3, .int x3), (4, .int x4)] [] h (rI v) h' := by
  obtain ⟨D2, rfl⟩ : ∃ d, D = d + 1 := ⟨D - 1, by omega⟩
  intro n
  induction n with
  | zero => exact fun _ _ _ _ _ _ _ _ hE => nomatch (show none = some _ from hE)
  | succ n ih =>
    intro a0 x1 x2 x3 x4 h v h' hE
    unfold Mo_surelyNow_b32 at hE
    refine r_iload rfl rfl ?_
    refine r_iconst 2 rfl ci_2 ?_
    refine r_icmp_ge (tgt := 190) rfl (by decide) (fun hc1 => ?_) (fun hc1 => ?_)
    · have hE := ifP hc1 hE
      refine r_iinc _ rfl rfl (congrArg _ ci_1) (by decide) ?_
      refine r_goto (tgt := 19) rfl (by decide) ?_
      first | exact r_sb (hself_19 _ _ _ _ _ _ _ hE) ⟨rfl, rfl, rfl, rfl, trivial⟩ | exact r_sb (hself_19 _ _ _ _ _ _ _ hE) (by simp only [su1, su2, dr1_rf, dr1_in, dr1_lo, dr2_rf, dr2_in, dr2_lo]; exact ⟨rfl, rfl, rfl, rfl, trivial⟩)
    · have hE := ifN hc1 hE
      refine r_lconst 0 rfl cl_0 ?_
      refine r_lstore rfl (by decide) ?_
      refine r_iconst 0 rfl ci_0 ?_
      refine r_istore rfl (by decide) ?_
      first | exact r_sb (Mo_surelyNow_b44_ok g N _ hD _ hself_7 _ hself_19 _ ih N _ _ _ _ _ _ _ _ _ _ hE) ⟨rfl, rfl, rfl, rfl, rfl, rfl, rfl, trivial⟩ | exact r_sb (Mo_surelyNow_b44_ok g N _ hD _ hself_7 _ hself_19 _ ih N _ _ _ _ _ _ _ _ _ _ hE) (by simp only [su1, su2, dr1_rf, dr1_in, dr1_lo, dr2_rf, dr2_in, dr2_lo]; exact ⟨rfl, rfl, rfl, rfl, rfl, rfl, rfl, trivial⟩)
def Mo_surelyNow_b19 (N : Nat) (self_7 : Nat → Int32 → Int32 → PH → Option (Int32 × PH)) : Nat → Nat → Int32 → Int32 → Int32 → PH → Option (Int32 × PH)
  | 0 => fun _ _ _ _ _ => none
  | n + 1 => fun a0 x1 x2 x3 h =>
    ck ((hK h a0).1 = 11) <|
    ((hR h a0 10)).bind fun a_2 =>
    ck ((hK h a_2).1 = 20) <|
    ck (inb 1 (hK h a_2).2 = true) <|
    if (hI h a_2 (ix 1)) < x3 then
      self_7 a0 x1 (x2 + (-1)) h
    else
      Mo_surelyNow_b32 N self_7 (Mo_surelyNow_b19 N self_7 n) N a0 x1 x2 x3 0 h
set_option maxRecDepth 20000 in
theorem Mo_surelyNow_b19_ok (g : GT) (N : Nat) (D : Nat) (hD : 2 ≤ D) (self_7 : Nat → Int32 → Int32 → PH → Option (Int32 × PH)) (hself_7 : ∀ (a0 : Nat) (x1 : Int32) (x2 : Int32) (h : PH) (v : Int32) (h' : PH), self_7 a0 x1 x2 h = some (v, h') → Run g pMo_surelyNow D 7 [(0, va_rf (some a0)), (1, .int x1), (2, .int x2)] [] h (rI v) h') : ∀ (n : Nat) (a0 : Nat) (x1 : Int32) (x2 : Int32) (x3 : Int32) (h : PH) (v : Int32) (h' : PH), Mo_surelyNow_b19 N self_7 n a0 x1 x2 x3 h = some (v, h') → Run g pMo_surelyNow D 19 [(0, va_rf (some a0)), (1, .int x1), (2, .int x2), (3, .int x3)] [] h (rI v) h' := by
  obtain ⟨D2, rfl⟩ : ∃ d, D = d + 1 := ⟨D - 1, by omega⟩
  intro n
  induction n with
  | zero => exact fun _ _ _ _ _ _ _ hE => nomatch (show none = some _ from hE)
  | succ n ih =>
    intro a0 x1 x2 x3 h v h' hE
    unfold Mo_surelyNow_b19 at hE
    refine r_iload_n 3 rfl rfl rfl ?_
    refine r_aload_n (t := some a0) 0 rfl rfl rfl ?_
    obtain ⟨hk1, hE⟩ := ckE hE
    refine r_getR rfl (fl_11_13 rfl) (Or.inr ⟨_, rfl⟩) rfl hk1 ?_
    refine r_iconst 1 rfl ci_1 ?_
    obtain ⟨a_2, ha3, hE⟩ := bnE hE
    obtain ⟨hk4, hE⟩ := ckE hE
    obtain ⟨hi5, hE⟩ := ckE hE
    refine r_iald rfl ha3 hk4 hi5 ?_
    refine r_icmp_gt (tgt := 196) rfl (by decide) (fun hc6 => ?_) (fun hc6 => ?_)
    · have hE := ifP hc6 hE
      refine r_iinc _ rfl rfl (congrArg _ ci_m1) (by decide) ?_
      refine r_goto (tgt := 7) rfl (by decide) ?_
      first | exact r_sb (hself_7 _ _ _ _ _ _ hE) ⟨rfl, rfl, rfl, trivial⟩ | exact r_sb (hself_7 _ _ _ _ _ _ hE) (by simp only [su1, su2, dr1_rf, dr1_in, dr1_lo, dr2_rf, dr2_in, dr2_lo]; exact ⟨rfl, rfl, rfl, trivial⟩)
    · have hE := ifN hc6 hE
      refine r_iconst 0 rfl ci_0 ?_
      refine r_istore rfl (by decide) ?_
      first | exact r_sb (Mo_surelyNow_b32_ok g N _ hD _ hself_7 _ ih N _ _ _ _ _ _ _ _ hE) ⟨rfl, rfl, rfl, rfl, rfl, trivial⟩ | exact r_sb (Mo_surelyNow_b32_ok g N _ hD _ hself_7 _ ih N _ _ _ _ _ _ _ _ hE) (by simp only [su1, su2, dr1_rf, dr1_in, dr1_lo, dr2_rf, dr2_in, dr2_lo]; exact ⟨rfl, rfl, rfl, rfl, rfl, trivial⟩)
def Mo_surelyNow_b7 (N : Nat) : Nat → Nat → Int32 → Int32 → PH → Option (Int32 × PH)
  | 0 => fun _ _ _ _ => none
  | n + 1 => fun a0 x1 x2 h =>
    ck ((hK h a0).1 = 11) <|
    ((hR h a0 35)).bind fun a_2 =>
    ck ((hK h a_2).1 = 20) <|
    ck (inb 0 (hK h a_2).2 = true) <|
    if x2 < (hI h a_2 (ix 0)) then
      ck (inb 0 (hK h a_2).2 = true) <|
      ck (inb 1 (hK h a_2).2 = true) <|
      ck (inb 7 (hK h a_2).2 = true) <|
      bd (Mo_at N (hI h a_2 (ix 0)) (hI h a_2 (ix 1)) 0 (hI h a_2 (ix 7)) h) fun v10 h11 =>
      ((hR h a0 44)).bind fun a_13 =>
      ck ((hK h11 a_13).1 = 20) <|
      ck (inb v10 (hK h11 a_13).2 = true) <|
      some ((hI h11 a_13 (ix v10)), h11)
    else
      Mo_surelyNow_b19 N (Mo_surelyNow_b7 N n) N a0 x1 x2 0 h
set_option maxRecDepth 20000 in
theorem Mo_surelyNow_b7_ok (g : GT) (N : Nat) (D : Nat) (hD : 2 ≤ D) : ∀ (n : Nat) (a0 : Nat) (x1 : Int32) (x2 : Int32) (h : PH) (v : Int32) (h' : PH), Mo_surelyNow_b7 N n a0 x1 x2 h = some (v, h') → Run g pMo_surelyNow D 7 [(0, va_rf (some a0)), (1, .int x1), (2, .int x2)] [] h (rI v) h' := by
  obtain ⟨D2, rfl⟩ : ∃ d, D = d + 1 := ⟨D - 1, by omega⟩
  intro n
  induction n with
  | zero => exact fun _ _ _ _ _ _ hE => nomatch (show none = some _ from hE)
  | succ n ih =>
    intro a0 x1 x2 h v h' hE
    unfold Mo_surelyNow_b7 at hE
    refine r_iload_n 2 rfl rfl rfl ?_
    refine r_aload_n (t := some a0) 0 rfl rfl rfl ?_
    obtain ⟨hk1, hE⟩ := ckE hE
    refine r_getR rfl (fl_11_81 rfl) (Or.inr ⟨_, rfl⟩) rfl hk1 ?_
    refine r_iconst 0 rfl ci_0 ?_
    obtain ⟨a_2, ha3, hE⟩ := bnE hE
    obtain ⟨hk4, hE⟩ := ckE hE
    obtain ⟨hi5, hE⟩ := ckE hE
    refine r_iald rfl ha3 hk4 hi5 ?_
    refine r_icmp_lt (tgt := 202) rfl (by decide) (fun hc6 => ?_) (fun hc6 => ?_)
    · have hE := ifP hc6 hE
      refine r_aload_n (t := some a0) 0 rfl rfl rfl ?_
      refine r_getR rfl (fl_11_97 rfl) (Or.inr ⟨_, rfl⟩) rfl hk1 ?_
      refine r_aload_n (t := some a0) 0 rfl rfl rfl ?_
      refine r_getR rfl (fl_11_81 rfl) (Or.inr ⟨_, rfl⟩) rfl hk1 ?_
      refine r_iconst 0 rfl ci_0 ?_
      obtain ⟨hi7, hE⟩ := ckE hE
      refine r_iald rfl ha3 hk4 hi7 ?_
      refine r_aload_n (t := some a0) 0 rfl rfl rfl ?_
      refine r_getR rfl (fl_11_81 rfl) (Or.inr ⟨_, rfl⟩) rfl hk1 ?_
      refine r_iconst 1 rfl ci_1 ?_
      obtain ⟨hi8, hE⟩ := ckE hE
      refine r_iald rfl ha3 hk4 hi8 ?_
      refine r_iconst 0 rfl ci_0 ?_
      refine r_aload_n (t := some a0) 0 rfl rfl rfl ?_
      refine r_getR rfl (fl_11_81 rfl) (Or.inr ⟨_, rfl⟩) rfl hk1 ?_
      refine r_bipush 7 rfl cb_7 ?_
      obtain ⟨hi9, hE⟩ := ckE hE
      refine r_iald rfl ha3 hk4 hi9 ?_
      obtain ⟨v10, h11, hq12, hE⟩ := bdE hE
      refine r_callS1 (rest := [va_rf (hR h a0 44)]) (hc := (Mo_at_ok g N _ _ _ _ _ _ _ hq12 D2 (by omega))) rfl pm_Mo_at lw_11_386 st_Mo_at rfl rfl (by simp only [List.map_cons, List.map_nil, rf_cat, cat_i, cat_l, List.sum_cons, List.sum_nil]; decide) ?_
      obtain ⟨a_13, ha14, hE⟩ := bnE hE
      obtain ⟨hk15, hE⟩ := ckE hE
      obtain ⟨hi16, hE⟩ := ckE hE
      refine r_iald rfl ha14 hk15 hi16 ?_
      cases hE
      exact r_ret rfl (Or.inl ⟨rfl, _, _, rfl, rfl, rfl, rfl⟩)
    · have hE := ifN hc6 hE
      refine r_iconst 0 rfl ci_0 ?_
      refine r_istore_n 3 rfl rfl (by decide) ?_
      first | exact r_sb (Mo_surelyNow_b19_ok g N _ hD _ ih N _ _ _ _ _ _ _ hE) ⟨rfl, rfl, rfl, rfl, trivial⟩ | exact r_sb (Mo_surelyNow_b19_ok g N _ hD _ ih N _ _ _ _ _ _ _ hE) (by simp only [su1, su2, dr1_rf, dr1_in, dr1_lo, dr2_rf, dr2_in, dr2_lo]; exact ⟨rfl, rfl, rfl, rfl, trivial⟩)
def Mo_surelyNow (N : Nat) (a0 : Nat) (x1 : Int32) (h : PH) : Option (Int32 × PH) :=
  ck ((hK h a0).1 = 11) <|
  ((hR h a0 10)).bind fun a_2 =>
  ck ((hK h a_2).1 = 20) <|
  ck (inb 0 (hK h a_2).2 = true) <|
  Mo_surelyNow_b7 N N a0 x1 (hI h a_2 (ix 0)) h
set_option maxRecDepth 20000 in
theorem Mo_surelyNow_ok (g : GT) (N : Nat) (a0 : Nat) (x1 : Int32) (h : PH) (v : Int32) (h' : PH) (hE : Mo_surelyNow N a0 x1 h = some (v, h')) (D : Nat) (hD : 2 ≤ D) : Calls g D pMo_surelyNow [va_rf (some a0), .int x1] h (oI v) h' := by
  refine Calls.of cok_Mo_surelyNow ht_Mo_surelyNow pl_Mo_surelyNow (fun ad => by rw [lg_len, sL_cat]; simp only [List.map_cons, List.map_nil, rf_cat, cat_i, cat_l, List.sum_cons, List.sum_nil]; decide) ?_
  rw [show lv_args 0 [va_rf (some a0), .int x1] = [(0, va_rf (some a0)), (1, .int x1)] from (by simp only [lv_args, rf_cat, cat_i, cat_l]; try rfl)]
  obtain ⟨D2, rfl⟩ : ∃ d, D = d + 1 := ⟨D - 1, by omega⟩
  unfold Mo_surelyNow at hE
  refine r_aload_n (t := some a0) 0 rfl rfl rfl ?_
  obtain ⟨hk1, hE⟩ := ckE hE
  refine r_getR rfl (fl_11_13 rfl) (Or.inr ⟨_, rfl⟩) rfl hk1 ?_
  refine r_iconst 0 rfl ci_0 ?_
  obtain ⟨a_2, ha3, hE⟩ := bnE hE
  obtain ⟨hk4, hE⟩ := ckE hE
  obtain ⟨hi5, hE⟩ := ckE hE
  refine r_iald rfl ha3 hk4 hi5 ?_
  refine r_istore_n 2 rfl rfl (by decide) ?_
  first | exact r_sb (Mo_surelyNow_b7_ok g N _ hD  N _ _ _ _ _ _ hE) ⟨rfl, rfl, rfl, trivial⟩ | exact r_sb (Mo_surelyNow_b7_ok g N _ hD  N _ _ _ _ _ _ hE) (by simp only [su1, su2, dr1_rf, dr1_in, dr1_lo, dr2_rf, dr2_in, dr2_lo]; exact ⟨rfl, rfl, rfl, trivial⟩)
def Mo_surely (N : Nat) (a0 : Nat) (x1 : Int32) (h : PH) : Option (Int32 × PH) :=
  ck ((hK h a0).1 = 11) <|
  lt0 (wI h a0 0 0) fun h2 =>
  bd (Mo_within N x1 1 3 h2) fun v4 h5 =>
  if (bI v4) = 0 then
    some ((-1), h5)
  else
    ck ((hK h5 a0).1 = 11) <|
    ((hR h5 a0 35)).bind fun a_9 =>
    ck ((hK h5 a_9).1 = 20) <|
    ck (inb 6 (hK h5 a_9).2 = true) <|
    if (hI h5 a_9 (ix 6)) = 0 then
      bd (Mo_surelyNow N a0 x1 h5) fun v14 h15 =>
      some (v14, h15)
    else
      some ((-1), h5)
set_option maxRecDepth 20000 in
theorem Mo_surely_ok (g : GT) (N : Nat) (a0 : Nat) (x1 : Int32) (h : PH) (v : Int32) (h' : PH) (hE : Mo_surely N a0 x1 h = some (v, h')) (D : Nat) (hD : 3 ≤ D) : Calls g D pMo_surely [va_rf (some a0), .int x1] h (oI v) h' := by
  refine Calls.of cok_Mo_surely ht_Mo_surely pl_Mo_surely (fun ad => by rw [lg_len, sL_cat]; simp only [List.map_cons, List.map_nil, rf_cat, cat_i, cat_l, List.sum_cons, List.sum_nil]; decide) ?_
  rw [show lv_args 0 [va_rf (some a0), .int x1] = [(0, va_rf (some a0)), (1, .int x1)] from (by simp only [lv_args, rf_cat, cat_i, cat_l]; try rfl)]
  obtain ⟨D2, rfl⟩ : ∃ d, D = d + 1 := ⟨D - 1, by omega⟩
  unfold Mo_surely at hE
  refine r_aload_n (t := some a0) 0 rfl rfl rfl ?_
  refine r_iconst 0 rfl ci_0 ?_
  obtain ⟨hk1, hE⟩ := ckE hE
  obtain ⟨h2, he3, hE⟩ := ltE hE
  refine r_putI rfl (fl_11_119 rfl) finF rfl hk1 he3 ?_
  refine r_iload_n 1 rfl rfl rfl ?_
  refine r_iconst 1 rfl ci_1 ?_
  refine r_iconst 3 rfl ci_3 ?_
  obtain ⟨v4, h5, hq6, hE⟩ := bdE hE
  refine r_callS1 (rest := []) (hc := (Mo_within_ok g N _ _ _ _ _ _ hq6 D2 (by omega))) rfl pm_Mo_within lw_11_247 st_Mo_within rfl rfl (by decide) ?_
  refine r_if_eq (tgt := 32) rfl (by decide) (fun hc7 => ?_) (fun hc7 => ?_)
  · have hE := ifP hc7 hE
    refine r_iconst (-1) rfl ci_m1 ?_
    cases hE
    exact r_ret rfl (Or.inl ⟨rfl, _, _, rfl, rfl, rfl, rfl⟩)
  · have hE := ifN hc7 hE
    refine r_aload_n (t := some a0) 0 rfl rfl rfl ?_
    obtain ⟨hk8, hE⟩ := ckE hE
    refine r_getR rfl (fl_11_81 rfl) (Or.inr ⟨_, rfl⟩) rfl hk8 ?_
    refine r_bipush 6 rfl cb_6 ?_
    obtain ⟨a_9, ha10, hE⟩ := bnE hE
    obtain ⟨hk11, hE⟩ := ckE hE
    obtain ⟨hi12, hE⟩ := ckE hE
    refine r_iald rfl ha10 hk11 hi12 ?_
    refine r_if_ne (tgt := 32) rfl (by decide) (fun hc13 => ?_) (fun hc13 => ?_)
    · have hE := ifP hc13 hE
      refine r_aload_n (t := some a0) 0 rfl rfl rfl ?_
      refine r_iload_n 1 rfl rfl rfl ?_
      obtain ⟨v14, h15, hq16, hE⟩ := bdE hE
      refine r_callV1 (rest := []) (hc := (Mo_surelyNow_ok g N _ _ _ _ _ hq16 D2 (by omega))) rfl pm_Mo_surelyNow lw_11_448 im_Mo_surelyNow sl_Mo_surelyNow rfl rfl rfl (rcOK hk8 rfl) (by decide) ?_
      refine r_goto (tgt := 33) rfl (by decide) ?_
      cases hE
      exact r_ret rfl (Or.inl ⟨rfl, _, _, rfl, rfl, rfl, rfl⟩)
    · have hE := ifN hc13 hE
      refine r_iconst (-1) rfl ci_m1 ?_
      cases hE
      exact r_ret rfl (Or.inl ⟨rfl, _, _, rfl, rfl, rfl, rfl⟩)
def Mo_most_b31 (N : Nat) : Nat → Nat → Int32 → Int32 → PH → Option (Int32 × PH)
  | 0 => fun _ _ _ _ => none
  | n + 1 => fun a0 x1 x2 h =>
    if x2 ≤ 0 then
      some ((-1), h)
    else
      ck ((hK h a0).1 = 11) <|
      bd (Mo_surelyNow N a0 x2 h) fun v3 h4 =>
      if v3 < x1 then
        (Mo_most_b31 N n) a0 x1 (x2 + (-1)) h4
      else
        some (x2, h4)
set_option maxRecDepth 20000 in
theorem Mo_most_b31_ok (g : GT) (N : Nat) (D : Nat) (hD : 3 ≤ D) : ∀ (n : Nat) (a0 : Nat) (x1 : Int32) (x2 : Int32) (h : PH) (v : Int32) (h' : PH), Mo_most_b31 N n a0 x1 x2 h = some (v, h') → Run g pMo_most D 31 [(0, va_rf (some a0)), (1, .int x1), (2, .int x2)] [] h (rI v) h' := by
  obtain ⟨D2, rfl⟩ : ∃ d, D = d + 1 := ⟨D - 1, by omega⟩
  intro n
  induction n with
  | zero => exact fun _ _ _ _ _ _ hE => nomatch (show none = some _ from hE)
  | succ n ih =>
    intro a0 x1 x2 h v h' hE
    unfold Mo_most_b31 at hE
    refine r_iload_n 2 rfl rfl rfl ?_
    refine r_if_le (tgt := 52) rfl (by decide) (fun hc1 => ?_) (fun hc1 => ?_)
    · have hE := ifP hc1 hE
      refine r_iconst (-1) rfl ci_m1 ?_
      cases hE
      exact r_ret rfl (Or.inl ⟨rfl, _, _, rfl, rfl, rfl, rfl⟩)
    · have hE := ifN hc1 hE
      refine r_aload_n (t := some a0) 0 rfl rfl rfl ?_
      refine r_iload_n 2 rfl rfl rfl ?_
      obtain ⟨hk2, hE⟩ := ckE hE
      obtain ⟨v3, h4, hq5, hE⟩ := bdE hE
      refine r_callV1 (rest := []) (hc := (Mo_surelyNow_ok g N _ _ _ _ _ hq5 D2 (by omega))) rfl pm_Mo_surelyNow lw_11_448 im_Mo_surelyNow sl_Mo_surelyNow rfl rfl rfl (rcOK hk2 rfl) (by decide) ?_
      refine r_iload_n 1 rfl rfl rfl ?_
      refine r_icmp_lt (tgt := 46) rfl (by decide) (fun hc6 => ?_) (fun hc6 => ?_)
      · have hE := ifP hc6 hE
        refine r_iinc _ rfl rfl (congrArg _ ci_m1) (by decide) ?_
        refine r_goto (tgt := 31) rfl (by decide) ?_
        first | exact r_sb (ih _ _ _ _ _ _ hE) ⟨rfl, rfl, rfl, trivial⟩ | exact r_sb (ih _ _ _ _ _ _ hE) (by simp only [su1, su2, dr1_rf, dr1_in, dr1_lo, dr2_rf, dr2_in, dr2_lo]; exact ⟨rfl, rfl, rfl, trivial⟩)
      · have hE := ifN hc6 hE
        refine r_iload_n 2 rfl rfl rfl ?_
        cases hE
        exact r_ret rfl (Or.inl ⟨rfl, _, _, rfl, rfl, rfl, rfl⟩)
def Mo_most (N : Nat) (a0 : Nat) (x1 : Int32) (h : PH) : Option (Int32 × PH) :=
  ck ((hK h a0).1 = 11) <|
  lt0 (wI h a0 0 0) fun h2 =>
  bd (Mo_within N x1 0 1000000 h2) fun v4 h5 =>
  if (bI v4) = 0 then
    some ((-1), h5)
  else
    ck ((hK h5 a0).1 = 11) <|
    ((hR h5 a0 35)).bind fun a_9 =>
    ck ((hK h5 a_9).1 = 20) <|
    ck (inb 6 (hK h5 a_9).2 = true) <|
    if (hI h5 a_9 (ix 6)) = 1 then
      some ((-1), h5)
    else
      Mo_most_b31 N N a0 x1 3 h5
set_option maxRecDepth 20000 in
theorem Mo_most_ok (g : GT) (N : Nat) (a0 : Nat) (x1 : Int32) (h : PH) (v : Int32) (h' : PH) (hE : Mo_most N a0 x1 h = some (v, h')) (D : Nat) (hD : 3 ≤ D) : Calls g D pMo_most [va_rf (some a0), .int x1] h (oI v) h' := by
  refine Calls.of cok_Mo_most ht_Mo_most pl_Mo_most (fun ad => by rw [lg_len, sL_cat]; simp only [List.map_cons, List.map_nil, rf_cat, cat_i, cat_l, List.sum_cons, List.sum_nil]; decide) ?_
  rw [show lv_args 0 [va_rf (some a0), .int x1] = [(0, va_rf (some a0)), (1, .int x1)] from (by simp only [lv_args, rf_cat, cat_i, cat_l]; try rfl)]
  obtain ⟨D2, rfl⟩ : ∃ d, D = d + 1 := ⟨D - 1, by omega⟩
  unfold Mo_most at hE
  refine r_aload_n (t := some a0) 0 rfl rfl rfl ?_
  refine r_iconst 0 rfl ci_0 ?_
  obtain ⟨hk1, hE⟩ := ckE hE
  obtain ⟨h2, he3, hE⟩ := ltE hE
  refine r_putI rfl (fl_11_119 rfl) finF rfl hk1 he3 ?_
  refine r_iload_n 1 rfl rfl rfl ?_
  refine r_iconst 0 rfl ci_0 ?_
  refine r_ldcw rfl kc_11_447 ?_
  obtain ⟨v4, h5, hq6, hE⟩ := bdE hE
  refine r_callS1 (rest := []) (hc := (Mo_within_ok g N _ _ _ _ _ _ hq6 D2 (by omega))) rfl pm_Mo_within lw_11_247 st_Mo_within rfl rfl (by decide) ?_
  refine r_if_eq (tgt := 27) rfl (by decide) (fun hc7 => ?_) (fun hc7 => ?_)
  · have hE := ifP hc7 hE
    refine r_iconst (-1) rfl ci_m1 ?_
    cases hE
    exact r_ret rfl (Or.inl ⟨rfl, _, _, rfl, rfl, rfl, rfl⟩)
  · have hE := ifN hc7 hE
    refine r_aload_n (t := some a0) 0 rfl rfl rfl ?_
    obtain ⟨hk8, hE⟩ := ckE hE
    refine r_getR rfl (fl_11_81 rfl) (Or.inr ⟨_, rfl⟩) rfl hk8 ?_
    refine r_bipush 6 rfl cb_6 ?_
    obtain ⟨a_9, ha10, hE⟩ := bnE hE
    obtain ⟨hk11, hE⟩ := ckE hE
    obtain ⟨hi12, hE⟩ := ckE hE
    refine r_iald rfl ha10 hk11 hi12 ?_
    refine r_iconst 1 rfl ci_1 ?_
    refine r_icmp_ne (tgt := 29) rfl (by decide) (fun hc13 => ?_) (fun hc13 => ?_)
    · have hE := ifP hc13 hE
      refine r_iconst (-1) rfl ci_m1 ?_
      cases hE
      exact r_ret rfl (Or.inl ⟨rfl, _, _, rfl, rfl, rfl, rfl⟩)
    · have hE := ifN hc13 hE
      refine r_iconst 3 rfl ci_3 ?_
      refine r_istore_n 2 rfl rfl (by decide) ?_
      first | exact r_sb (Mo_most_b31_ok g N _ hD  N _ _ _ _ _ _ hE) ⟨rfl, rfl, rfl, trivial⟩ | exact r_sb (Mo_most_b31_ok g N _ hD  N _ _ _ _ _ _ hE) (by simp only [su1, su2, dr1_rf, dr1_in, dr1_lo, dr2_rf, dr2_in, dr2_lo]; exact ⟨rfl, rfl, rfl, trivial⟩)
def Mo_enough_b46 (N : Nat) : Nat → Nat → Int32 → Int32 → PH → Option (Int32 × PH)
  | 0 => fun _ _ _ _ => none
  | n + 1 => fun a0 x2 x3 h =>
    ck ((hK h a0).1 = 11) <|
    ((hR h a0 10)).bind fun a_2 =>
    ck ((hK h a_2).1 = 20) <|
    ck (inb 1 (hK h a_2).2 = true) <|
    if (hI h a_2 (ix 1)) < x3 then
      some ((-1), h)
    else
      ((hR h a0 35)).bind fun a_7 =>
      ck ((hK h a_7).1 = 20) <|
      ck (inb 0 (hK h a_7).2 = true) <|
      ck (inb 7 (hK h a_7).2 = true) <|
      bd (Mo_at N (hI h a_7 (ix 0)) x3 0 (hI h a_7 (ix 7)) h) fun v12 h13 =>
      ((hR h a0 44)).bind fun a_15 =>
      ck ((hK h13 a_15).1 = 20) <|
      ck (inb v12 (hK h13 a_15).2 = true) <|
      if (hI h13 a_15 (ix v12)) < x2 then
        (Mo_enough_b46 N n) a0 x2 (x3 + 1) h13
      else
        some (x3, h13)
set_option maxRecDepth 20000 in
theorem Mo_enough_b46_ok (g : GT) (N : Nat) (D : Nat) (hD : 3 ≤ D) : ∀ (n : Nat) (a0 : Nat) (x2 : Int32) (x3 : Int32) (h : PH) (v : Int32) (h' : PH), Mo_enough_b46 N n a0 x2 x3 h = some (v, h') → Run g pMo_enough D 46 [(0, va_rf (some a0)), (2, .int x2), (3, .int x3)] [] h (rI v) h' := by
  obtain ⟨D2, rfl⟩ : ∃ d, D = d + 1 := ⟨D - 1, by omega⟩
  intro n
  induction n with
  | zero => exact fun _ _ _ _ _ _ hE => nomatch (show none = some _ from hE)
  | succ n ih =>
    intro a0 x2 x3 h v h' hE
    unfold Mo_enough_b46 at hE
    refine r_iload_n 3 rfl rfl rfl ?_
    refine r_aload_n (t := some a0) 0 rfl rfl rfl ?_
    obtain ⟨hk1, hE⟩ := ckE hE
    refine r_getR rfl (fl_11_13 rfl) (Or.inr ⟨_, rfl⟩) rfl hk1 ?_
    refine r_iconst 1 rfl ci_1 ?_
    obtain ⟨a_2, ha3, hE⟩ := bnE hE
    obtain ⟨hk4, hE⟩ := ckE hE
    obtain ⟨hi5, hE⟩ := ckE hE
    refine r_iald rfl ha3 hk4 hi5 ?_
    refine r_icmp_gt (tgt := 91) rfl (by decide) (fun hc6 => ?_) (fun hc6 => ?_)
    · have hE := ifP hc6 hE
      refine r_iconst (-1) rfl ci_m1 ?_
      cases hE
      exact r_ret rfl (Or.inl ⟨rfl, _, _, rfl, rfl, rfl, rfl⟩)
    · have hE := ifN hc6 hE
      refine r_aload_n (t := some a0) 0 rfl rfl rfl ?_
      refine r_getR rfl (fl_11_97 rfl) (Or.inr ⟨_, rfl⟩) rfl hk1 ?_
      refine r_aload_n (t := some a0) 0 rfl rfl rfl ?_
      refine r_getR rfl (fl_11_81 rfl) (Or.inr ⟨_, rfl⟩) rfl hk1 ?_
      refine r_iconst 0 rfl ci_0 ?_
      obtain ⟨a_7, ha8, hE⟩ := bnE hE
      obtain ⟨hk9, hE⟩ := ckE hE
      obtain ⟨hi10, hE⟩ := ckE hE
      refine r_iald rfl ha8 hk9 hi10 ?_
      refine r_iload_n 3 rfl rfl rfl ?_
      refine r_iconst 0 rfl ci_0 ?_
      refine r_aload_n (t := some a0) 0 rfl rfl rfl ?_
      refine r_getR rfl (fl_11_81 rfl) (Or.inr ⟨_, rfl⟩) rfl hk1 ?_
      refine r_bipush 7 rfl cb_7 ?_
      obtain ⟨hi11, hE⟩ := ckE hE
      refine r_iald rfl ha8 hk9 hi11 ?_
      obtain ⟨v12, h13, hq14, hE⟩ := bdE hE
      refine r_callS1 (rest := [va_rf (hR h a0 44)]) (hc := (Mo_at_ok g N _ _ _ _ _ _ _ hq14 D2 (by omega))) rfl pm_Mo_at lw_11_386 st_Mo_at rfl rfl (by simp only [List.map_cons, List.map_nil, rf_cat, cat_i, cat_l, List.sum_cons, List.sum_nil]; decide) ?_
      obtain ⟨a_15, ha16, hE⟩ := bnE hE
      obtain ⟨hk17, hE⟩ := ckE hE
      obtain ⟨hi18, hE⟩ := ckE hE
      refine r_iald rfl ha16 hk17 hi18 ?_
      refine r_iload_n 2 rfl rfl rfl ?_
      refine r_icmp_lt (tgt := 85) rfl (by decide) (fun hc19 => ?_) (fun hc19 => ?_)
      · have hE := ifP hc19 hE
        refine r_iinc _ rfl rfl (congrArg _ ci_1) (by decide) ?_
        refine r_goto (tgt := 46) rfl (by decide) ?_
        first | exact r_sb (ih _ _ _ _ _ _ hE) ⟨rfl, rfl, rfl, trivial⟩ | exact r_sb (ih _ _ _ _ _ _ hE) (by simp only [su1, su2, dr1_rf, dr1_in, dr1_lo, dr2_rf, dr2_in, dr2_lo]; exact ⟨rfl, rfl, rfl, trivial⟩)
      · have hE := ifN hc19 hE
        refine r_iload_n 3 rfl rfl rfl ?_
        cases hE
        exact r_ret rfl (Or.inl ⟨rfl, _, _, rfl, rfl, rfl, rfl⟩)
def Mo_enough (N : Nat) (a0 : Nat) (x1 : Int32) (x2 : Int32) (h : PH) : Option (Int32 × PH) :=
  ck ((hK h a0).1 = 11) <|
  lt0 (wI h a0 0 0) fun h2 =>
  bd (Mo_within N x1 1 3 h2) fun v4 h5 =>
  if (bI v4) = 0 then
    some ((-1), h5)
  else
    bd (Mo_within N x2 0 1000000 h5) fun v8 h9 =>
    if (bI v8) = 0 then
      some ((-1), h9)
    else
      ck ((hK h9 a0).1 = 11) <|
      ((hR h9 a0 35)).bind fun a_13 =>
      ck ((hK h9 a_13).1 = 20) <|
      ck (inb 6 (hK h9 a_13).2 = true) <|
      if (hI h9 a_13 (ix 6)) = 1 then
        some ((-1), h9)
      else
        bd (Mo_surelyNow N a0 x1 h9) fun v18 h19 =>
        Mo_enough_b46 N N a0 x2 0 h19
set_option maxRecDepth 20000 in
theorem Mo_enough_ok (g : GT) (N : Nat) (a0 : Nat) (x1 : Int32) (x2 : Int32) (h : PH) (v : Int32) (h' : PH) (hE : Mo_enough N a0 x1 x2 h = some (v, h')) (D : Nat) (hD : 3 ≤ D) : Calls g D pMo_enough [va_rf (some a0), .int x1, .int x2] h (oI v) h' := by
  refine Calls.of cok_Mo_enough ht_Mo_enough pl_Mo_enough (fun ad => by rw [lg_len, sL_cat]; simp only [List.map_cons, List.map_nil, rf_cat, cat_i, cat_l, List.sum_cons, List.sum_nil]; decide) ?_
  rw [show lv_args 0 [va_rf (some a0), .int x1, .int x2] = [(0, va_rf (some a0)), (1, .int x1), (2, .int x2)] from (by simp only [lv_args, rf_cat, cat_i, cat_l]; try rfl)]
  obtain ⟨D2, rfl⟩ : ∃ d, D = d + 1 := ⟨D - 1, by omega⟩
  unfold Mo_enough at hE
  refine r_aload_n (t := some a0) 0 rfl rfl rfl ?_
  refine r_iconst 0 rfl ci_0 ?_
  obtain ⟨hk1, hE⟩ := ckE hE
  obtain ⟨h2, he3, hE⟩ := ltE hE
  refine r_putI rfl (fl_11_119 rfl) finF rfl hk1 he3 ?_
  refine r_iload_n 1 rfl rfl rfl ?_
  refine r_iconst 1 rfl ci_1 ?_
  refine r_iconst 3 rfl ci_3 ?_
  obtain ⟨v4, h5, hq6, hE⟩ := bdE hE
  refine r_callS1 (rest := []) (hc := (Mo_within_ok g N _ _ _ _ _ _ hq6 D2 (by omega))) rfl pm_Mo_within lw_11_247 st_Mo_within rfl rfl (by decide) ?_
  refine r_if_eq (tgt := 36) rfl (by decide) (fun hc7 => ?_) (fun hc7 => ?_)
  · have hE := ifP hc7 hE
    refine r_iconst (-1) rfl ci_m1 ?_
    cases hE
    exact r_ret rfl (Or.inl ⟨rfl, _, _, rfl, rfl, rfl, rfl⟩)
  · have hE := ifN hc7 hE
    refine r_iload_n 2 rfl rfl rfl ?_
    refine r_iconst 0 rfl ci_0 ?_
    refine r_ldcw rfl kc_11_447 ?_
    obtain ⟨v8, h9, hq10, hE⟩ := bdE hE
    refine r_callS1 (rest := []) (hc := (Mo_within_ok g N _ _ _ _ _ _ hq10 D2 (by omega))) rfl pm_Mo_within lw_11_247 st_Mo_within rfl rfl (by decide) ?_
    refine r_if_eq (tgt := 36) rfl (by decide) (fun hc11 => ?_) (fun hc11 => ?_)
    · have hE := ifP hc11 hE
      refine r_iconst (-1) rfl ci_m1 ?_
      cases hE
      exact r_ret rfl (Or.inl ⟨rfl, _, _, rfl, rfl, rfl, rfl⟩)
    · have hE := ifN hc11 hE
      refine r_aload_n (t := some a0) 0 rfl rfl rfl ?_
      obtain ⟨hk12, hE⟩ := ckE hE
      refine r_getR rfl (fl_11_81 rfl) (Or.inr ⟨_, rfl⟩) rfl hk12 ?_
      refine r_bipush 6 rfl cb_6 ?_
      obtain ⟨a_13, ha14, hE⟩ := bnE hE
      obtain ⟨hk15, hE⟩ := ckE hE
      obtain ⟨hi16, hE⟩ := ckE hE
      refine r_iald rfl ha14 hk15 hi16 ?_
      refine r_iconst 1 rfl ci_1 ?_
      refine r_icmp_ne (tgt := 38) rfl (by decide) (fun hc17 => ?_) (fun hc17 => ?_)
      · have hE := ifP hc17 hE
        refine r_iconst (-1) rfl ci_m1 ?_
        cases hE
        exact r_ret rfl (Or.inl ⟨rfl, _, _, rfl, rfl, rfl, rfl⟩)
      · have hE := ifN hc17 hE
        refine r_aload_n (t := some a0) 0 rfl rfl rfl ?_
        refine r_iload_n 1 rfl rfl rfl ?_
        obtain ⟨v18, h19, hq20, hE⟩ := bdE hE
        refine r_callV1 (rest := []) (hc := (Mo_surelyNow_ok g N _ _ _ _ _ hq20 D2 (by omega))) rfl pm_Mo_surelyNow lw_11_448 im_Mo_surelyNow sl_Mo_surelyNow rfl rfl rfl (rcOK hk12 rfl) (by decide) ?_
        refine r_pop rfl rfl ?_
        refine r_iconst 0 rfl ci_0 ?_
        refine r_istore_n 3 rfl rfl (by decide) ?_
        first | exact r_sb (Mo_enough_b46_ok g N _ hD  N _ _ _ _ _ _ hE) ⟨rfl, rfl, rfl, trivial⟩ | exact r_sb (Mo_enough_b46_ok g N _ hD  N _ _ _ _ _ _ hE) (by simp only [su1, su2, dr1_rf, dr1_in, dr1_lo, dr2_rf, dr2_in, dr2_lo]; exact ⟨rfl, rfl, rfl, trivial⟩)
def Mo_peak_b115 (N : Nat) (self_63 : Nat → Int32 → Int32 → Int32 → Int32 → PH → Option (Int32 × PH)) (a0 : Nat) (x1 : Int32) (x2 : Int32) (x3 : Int32) (x4 : Int32) (h : PH) : Option (Int32 × PH) :=
  self_63 a0 x1 x2 x3 (x4 + 1) h
set_option maxRecDepth 20000 in
theorem Mo_peak_b115_ok (g : GT) (N : Nat) (D : Nat) (hD : 5 ≤ D) (self_63 : Nat → Int32 → Int32 → Int32 → Int32 → PH → Option (Int32 × PH)) (hself_63 : ∀ (a0 : Nat) (x1 : Int32) (x2 : Int32) (x3 : Int32) (x4 : Int32) (h : PH) (v : Int32) (h' : PH), self_63 a0 x1 x2 x3 x4 h = some (v, h') → Run g pMo_peak D 63 [(0, va_rf (some a0)), (1, .int x1), (2, .int x2), (3, .int x3), (4, .int x4)] [] h (rI v) h') : ∀ (a0 : Nat) (x1 : Int32) (x2 : Int32) (x3 : Int32) (x4 : Int32) (h : PH) (v : Int32) (h' : PH), Mo_peak_b115 N self_63 a0 x1 x2 x3 x4 h = some (v, h') → Run g pMo_peak D 115 [(0, va_rf (some a0)), (1, .int x1), (2, .int x2), (3, .int x3), (4, .int x4)] [] h (rI v) h' := by
  obtain ⟨D2, rfl⟩ : ∃ d, D = d + 1 := ⟨D - 1, by omega⟩
  intro a0 x1 x2 x3 x4 h v h' hE
  unfold Mo_peak_b115 at hE
  refine r_iinc _ rfl rfl (congrArg _ ci_1) (by decide) ?_
  refine r_goto (tgt := 63) rfl (by decide) ?_
  first | exact r_sb (hself_63 _ _ _ _ _ _ _ _ hE) ⟨rfl, rfl, rfl, rfl, rfl, trivial⟩ | exact r_sb (hself_63 _ _ _ _ _ _ _ _ hE) (by simp only [su1, su2, dr1_rf, dr1_in, dr1_lo, dr2_rf, dr2_in, dr2_lo]; exact ⟨rfl, rfl, rfl, rfl, rfl, trivial⟩)
def Mo_peak_b63 (N : Nat) : Nat → Nat → Int32 → Int32 → Int32 → Int32 → PH → Option (Int32 × PH)
  | 0 => fun _ _ _ _ _ _ => none
  | n + 1 => fun a0 x1 x2 x3 x4 h =>
    ck ((hK h a0).1 = 11) <|
    ((hR h a0 10)).bind fun a_2 =>
    ck ((hK h a_2).1 = 20) <|
    ck (inb 1 (hK h a_2).2 = true) <|
    if (hI h a_2 (ix 1)) < x4 then
      some (x2, h)
    else
      ((hR h a0 35)).bind fun a_7 =>
      ck ((hK h a_7).1 = 20) <|
      ck (inb 0 (hK h a_7).2 = true) <|
      ck (inb 7 (hK h a_7).2 = true) <|
      bd (Mo_at N (hI h a_7 (ix 0)) x4 x1 (hI h a_7 (ix 7)) h) fun v12 h13 =>
      ((hR h a0 44)).bind fun a_15 =>
      ck ((hK h13 a_15).1 = 20) <|
      ck (inb v12 (hK h13 a_15).2 = true) <|
      if x3 < (hI h13 a_15 (ix v12)) then
        Mo_peak_b115 N (Mo_peak_b63 N n)  a0 x1 x4 (hI h13 a_15 (ix v12)) x4 h13
      else
        Mo_peak_b115 N (Mo_peak_b63 N n)  a0 x1 x2 x3 x4 h13
set_option maxRecDepth 20000 in
theorem Mo_peak_b63_ok (g : GT) (N : Nat) (D : Nat) (hD : 5 ≤ D) : ∀ (n : Nat) (a0 : Nat) (x1 : Int32) (x2 : Int32) (x3 : Int32) (x4 : Int32) (h : PH) (v : Int32) (h' : PH), Mo_peak_b63 N n a0 x1 x2 x3 x4 h = some (v, h') → Run g pMo_peak D 63 [(0, va_rf (some a0)), (1, .int x1), (2, .int x2), (3, .int x3), (4, .int x4)] [] h (rI v) h' := by
  obtain ⟨D2, rfl⟩ : ∃ d, D = d + 1 := ⟨D - 1, by omega⟩
  intro n
  induction n with
  | zero => exact fun _ _ _ _ _ _ _ _ hE => nomatch (show none = some _ from hE)
  | succ n ih =>
    intro a0 x1 x2 x3 x4 h v h' hE
    unfold Mo_peak_b63 at hE
    refine r_iload rfl rfl ?_
    refine r_aload_n (t := some a0) 0 rfl rfl rfl ?_
    obtain ⟨hk1, hE⟩ := ckE hE
    refine r_getR rfl (fl_11_13 rfl) (Or.inr ⟨_, rfl⟩) rfl hk1 ?_
    refine r_iconst 1 rfl ci_1 ?_
    obtain ⟨a_2, ha3, hE⟩ := bnE hE
    obtain ⟨hk4, hE⟩ := ckE hE
    obtain ⟨hi5, hE⟩ := ckE hE
    refine r_iald rfl ha3 hk4 hi5 ?_
    refine r_icmp_gt (tgt := 121) rfl (by decide) (fun hc6 => ?_) (fun hc6 => ?_)
    · have hE := ifP hc6 hE
      refine r_iload_n 2 rfl rfl rfl ?_
      cases hE
      exact r_ret rfl (Or.inl ⟨rfl, _, _, rfl, rfl, rfl, rfl⟩)
    · have hE := ifN hc6 hE
      refine r_aload_n (t := some a0) 0 rfl rfl rfl ?_
      refine r_getR rfl (fl_11_97 rfl) (Or.inr ⟨_, rfl⟩) rfl hk1 ?_
      refine r_aload_n (t := some a0) 0 rfl rfl rfl ?_
      refine r_getR rfl (fl_11_81 rfl) (Or.inr ⟨_, rfl⟩) rfl hk1 ?_
      refine r_iconst 0 rfl ci_0 ?_
      obtain ⟨a_7, ha8, hE⟩ := bnE hE
      obtain ⟨hk9, hE⟩ := ckE hE
      obtain ⟨hi10, hE⟩ := ckE hE
      refine r_iald rfl ha8 hk9 hi10 ?_
      refine r_iload rfl rfl ?_
      refine r_iload_n 1 rfl rfl rfl ?_
      refine r_aload_n (t := some a0) 0 rfl rfl rfl ?_
      refine r_getR rfl (fl_11_81 rfl) (Or.inr ⟨_, rfl⟩) rfl hk1 ?_
      refine r_bipush 7 rfl cb_7 ?_
      obtain ⟨hi11, hE⟩ := ckE hE
      refine r_iald rfl ha8 hk9 hi11 ?_
      obtain ⟨v12, h13, hq14, hE⟩ := bdE hE
      refine r_callS1 (rest := [va_rf (hR h a0 44)]) (hc := (Mo_at_ok g N _ _ _ _ _ _ _ hq14 D2 (by omega))) rfl pm_Mo_at lw_11_386 st_Mo_at rfl rfl (by simp only [List.map_cons, List.map_nil, rf_cat, cat_i, cat_l, List.sum_cons, List.sum_nil]; decide) ?_
      obtain ⟨a_15, ha16, hE⟩ := bnE hE
      obtain ⟨hk17, hE⟩ := ckE hE
      obtain ⟨hi18, hE⟩ := ckE hE
      refine r_iald rfl ha16 hk17 hi18 ?_
      refine r_istore rfl (by decide) ?_
      refine r_iload rfl rfl ?_
      refine r_iload_n 3 rfl rfl rfl ?_
      refine r_icmp_gt (tgt := 109) rfl (by decide) (fun hc19 => ?_) (fun hc19 => ?_)
      · have hE := ifP hc19 hE
        refine r_iload rfl rfl ?_
        refine r_istore_n 2 rfl rfl (by decide) ?_
        refine r_iload rfl rfl ?_
        refine r_istore_n 3 rfl rfl (by decide) ?_
        first | exact r_sb (Mo_peak_b115_ok g N _ hD _ ih  _ _ _ _ _ _ _ _ hE) ⟨rfl, rfl, rfl, rfl, rfl, trivial⟩ | exact r_sb (Mo_peak_b115_ok g N _ hD _ ih  _ _ _ _ _ _ _ _ hE) (by simp only [su1, su2, dr1_rf, dr1_in, dr1_lo, dr2_rf, dr2_in, dr2_lo]; exact ⟨rfl, rfl, rfl, rfl, rfl, trivial⟩)
      · have hE := ifN hc19 hE
        refine r_goto (tgt := 115) rfl (by decide) ?_
        first | exact r_sb (Mo_peak_b115_ok g N _ hD _ ih  _ _ _ _ _ _ _ _ hE) ⟨rfl, rfl, rfl, rfl, rfl, trivial⟩ | exact r_sb (Mo_peak_b115_ok g N _ hD _ ih  _ _ _ _ _ _ _ _ hE) (by simp only [su1, su2, dr1_rf, dr1_in, dr1_lo, dr2_rf, dr2_in, dr2_lo]; exact ⟨rfl, rfl, rfl, rfl, rfl, trivial⟩)
def Mo_peak (N : Nat) (a0 : Nat) (x1 : Int32) (h : PH) : Option (Int32 × PH) :=
  ck ((hK h a0).1 = 11) <|
  lt0 (wI h a0 0 0) fun h2 =>
  bd (Mo_isOn N a0 h2) fun v4 h5 =>
  if (bI v4) = 0 then
    some ((-1), h5)
  else
    ck ((hK h5 a0).1 = 11) <|
    ((hR h5 a0 10)).bind fun a_9 =>
    ck ((hK h5 a_9).1 = 20) <|
    ck (inb 2 (hK h5 a_9).2 = true) <|
    bd (Mo_within N x1 0 (hI h5 a_9 (ix 2)) h5) fun v13 h14 =>
    if (bI v13) = 0 then
      some ((-1), h14)
    else
      ck ((hK h14 a0).1 = 11) <|
      bd (Mo_laysValues N a0 0 0 h14) fun v18 h19 =>
      ck ((hK h19 a0).1 = 11) <|
      ((hR h19 a0 35)).bind fun a_22 =>
      ck ((hK h19 a_22).1 = 20) <|
      ck (inb 0 (hK h19 a_22).2 = true) <|
      ck (inb 7 (hK h19 a_22).2 = true) <|
      bd (Mo_at N (hI h19 a_22 (ix 0)) 0 x1 (hI h19 a_22 (ix 7)) h19) fun v27 h28 =>
      ((hR h19 a0 44)).bind fun a_30 =>
      ck ((hK h28 a_30).1 = 20) <|
      ck (inb v27 (hK h28 a_30).2 = true) <|
      Mo_peak_b63 N N a0 x1 0 (hI h28 a_30 (ix v27)) 1 h28
set_option maxRecDepth 20000 in
theorem Mo_peak_ok (g : GT) (N : Nat) (a0 : Nat) (x1 : Int32) (h : PH) (v : Int32) (h' : PH) (hE : Mo_peak N a0 x1 h = some (v, h')) (D : Nat) (hD : 5 ≤ D) : Calls g D pMo_peak [va_rf (some a0), .int x1] h (oI v) h' := by
  refine Calls.of cok_Mo_peak ht_Mo_peak pl_Mo_peak (fun ad => by rw [lg_len, sL_cat]; simp only [List.map_cons, List.map_nil, rf_cat, cat_i, cat_l, List.sum_cons, List.sum_nil]; decide) ?_
  rw [show lv_args 0 [va_rf (some a0), .int x1] = [(0, va_rf (some a0)), (1, .int x1)] from (by simp only [lv_args, rf_cat, cat_i, cat_l]; try rfl)]
  obtain ⟨D2, rfl⟩ : ∃ d, D = d + 1 := ⟨D - 1, by omega⟩
  unfold Mo_peak at hE
  refine r_aload_n (t := some a0) 0 rfl rfl rfl ?_
  refine r_iconst 0 rfl ci_0 ?_
  obtain ⟨hk1, hE⟩ := ckE hE
  obtain ⟨h2, he3, hE⟩ := ltE hE
  refine r_putI rfl (fl_11_119 rfl) finF rfl hk1 he3 ?_
  refine r_aload_n (t := some a0) 0 rfl rfl rfl ?_
  obtain ⟨v4, h5, hq6, hE⟩ := bdE hE
  refine r_callV1 (rest := []) (hc := (Mo_isOn_ok g N _ _ _ _ hq6 D2 (by omega))) rfl pm_Mo_isOn lw_11_416 im_Mo_isOn sl_Mo_isOn rfl rfl rfl (rcOK (kwI he3 hk1) rfl) (by decide) ?_
  refine r_if_eq (tgt := 26) rfl (by decide) (fun hc7 => ?_) (fun hc7 => ?_)
  · have hE := ifP hc7 hE
    refine r_iconst (-1) rfl ci_m1 ?_
    cases hE
    exact r_ret rfl (Or.inl ⟨rfl, _, _, rfl, rfl, rfl, rfl⟩)
  · have hE := ifN hc7 hE
    refine r_iload_n 1 rfl rfl rfl ?_
    refine r_iconst 0 rfl ci_0 ?_
    refine r_aload_n (t := some a0) 0 rfl rfl rfl ?_
    obtain ⟨hk8, hE⟩ := ckE hE
    refine r_getR rfl (fl_11_13 rfl) (Or.inr ⟨_, rfl⟩) rfl hk8 ?_
    refine r_iconst 2 rfl ci_2 ?_
    obtain ⟨a_9, ha10, hE⟩ := bnE hE
    obtain ⟨hk11, hE⟩ := ckE hE
    obtain ⟨hi12, hE⟩ := ckE hE
    refine r_iald rfl ha10 hk11 hi12 ?_
    obtain ⟨v13, h14, hq15, hE⟩ := bdE hE
    refine r_callS1 (rest := []) (hc := (Mo_within_ok g N _ _ _ _ _ _ hq15 D2 (by omega))) rfl pm_Mo_within lw_11_247 st_Mo_within rfl rfl (by decide) ?_
    refine r_if_ne (tgt := 28) rfl (by decide) (fun hc16 => ?_) (fun hc16 => ?_)
    · have hE := ifP hc16 hE
      refine r_iconst (-1) rfl ci_m1 ?_
      cases hE
      exact r_ret rfl (Or.inl ⟨rfl, _, _, rfl, rfl, rfl, rfl⟩)
    · have hE := ifN hc16 hE
      refine r_aload_n (t := some a0) 0 rfl rfl rfl ?_
      refine r_iconst 0 rfl ci_0 ?_
      refine r_iconst 0 rfl ci_0 ?_
      obtain ⟨hk17, hE⟩ := ckE hE
      obtain ⟨v18, h19, hq20, hE⟩ := bdE hE
      refine r_callV0 (rest := []) (hc := (Mo_laysValues_ok g N _ _ _ _ _ _ hq20 D2 (by omega))) rfl pm_Mo_laysValues lw_11_412 im_Mo_laysValues sl_Mo_laysValues rfl rfl rfl (rcOK hk17 rfl) (by decide) ?_
      refine r_iconst 0 rfl ci_0 ?_
      refine r_istore_n 2 rfl rfl (by decide) ?_
      refine r_aload_n (t := some a0) 0 rfl rfl rfl ?_
      obtain ⟨hk21, hE⟩ := ckE hE
      refine r_getR rfl (fl_11_97 rfl) (Or.inr ⟨_, rfl⟩) rfl hk21 ?_
      refine r_aload_n (t := some a0) 0 rfl rfl rfl ?_
      refine r_getR rfl (fl_11_81 rfl) (Or.inr ⟨_, rfl⟩) rfl hk21 ?_
      refine r_iconst 0 rfl ci_0 ?_
      obtain ⟨a_22, ha23, hE⟩ := bnE hE
      obtain ⟨hk24, hE⟩ := ckE hE
      obtain ⟨hi25, hE⟩ := ckE hE
      refine r_iald rfl ha23 hk24 hi25 ?_
      refine r_iconst 0 rfl ci_0 ?_
      refine r_iload_n 1 rfl rfl rfl ?_
      refine r_aload_n (t := some a0) 0 rfl rfl rfl ?_
      refine r_getR rfl (fl_11_81 rfl) (Or.inr ⟨_, rfl⟩) rfl hk21 ?_
      refine r_bipush 7 rfl cb_7 ?_
      obtain ⟨hi26, hE⟩ := ckE hE
      refine r_iald rfl ha23 hk24 hi26 ?_
      obtain ⟨v27, h28, hq29, hE⟩ := bdE hE
      refine r_callS1 (rest := [va_rf (hR h19 a0 44)]) (hc := (Mo_at_ok g N _ _ _ _ _ _ _ hq29 D2 (by omega))) rfl pm_Mo_at lw_11_386 st_Mo_at rfl rfl (by simp only [List.map_cons, List.map_nil, rf_cat, cat_i, cat_l, List.sum_cons, List.sum_nil]; decide) ?_
      obtain ⟨a_30, ha31, hE⟩ := bnE hE
      obtain ⟨hk32, hE⟩ := ckE hE
      obtain ⟨hi33, hE⟩ := ckE hE
      refine r_iald rfl ha31 hk32 hi33 ?_
      refine r_istore_n 3 rfl rfl (by decide) ?_
      refine r_iconst 1 rfl ci_1 ?_
      refine r_istore rfl (by decide) ?_
      first | exact r_sb (Mo_peak_b63_ok g N _ hD  N _ _ _ _ _ _ _ _ hE) ⟨rfl, rfl, rfl, rfl, rfl, trivial⟩ | exact r_sb (Mo_peak_b63_ok g N _ hD  N _ _ _ _ _ _ _ _ hE) (by simp only [su1, su2, dr1_rf, dr1_in, dr1_lo, dr2_rf, dr2_in, dr2_lo]; exact ⟨rfl, rfl, rfl, rfl, rfl, trivial⟩)
def Mo_laysChances_b104 (N : Nat) (self_23 : Nat → Int32 → Int32 → Int32 → PH → Option (Unit × PH)) (a0 : Nat) (x1 : Int32) (x2 : Int32) (x3 : Int32) (h : PH) : Option (Unit × PH) :=
  self_23 a0 x1 x2 (x3 + 1) h
set_option maxRecDepth 20000 in
theorem Mo_laysChances_b104_ok (g : GT) (N : Nat) (D : Nat) (hD : 0 ≤ D) (self_23 : Nat → Int32 → Int32 → Int32 → PH → Option (Unit × PH)) (hself_23 : ∀ (a0 : Nat) (x1 : Int32) (x2 : Int32) (x3 : Int32) (h : PH) (v : Unit) (h' : PH), self_23 a0 x1 x2 x3 h = some (v, h') → Run g pMo_laysChances D 23 [(0, va_rf (some a0)), (1, .int x1), (2, .int x2), (3, .int x3)] [] h (rV v) h') : ∀ (a0 : Nat) (x1 : Int32) (x2 : Int32) (x3 : Int32) (h : PH) (v : Unit) (h' : PH), Mo_laysChances_b104 N self_23 a0 x1 x2 x3 h = some (v, h') → Run g pMo_laysChances D 104 [(0, va_rf (some a0)), (1, .int x1), (2, .int x2), (3, .int x3)] [] h (rV v) h' := by
  intro a0 x1 x2 x3 h v h' hE
  unfold Mo_laysChances_b104 at hE
  refine r_iinc _ rfl rfl (congrArg _ ci_1) (by decide) ?_
  refine r_goto (tgt := 23) rfl (by decide) ?_
  first | exact r_sb (hself_23 _ _ _ _ _ _ _ hE) ⟨rfl, rfl, rfl, rfl, trivial⟩ | exact r_sb (hself_23 _ _ _ _ _ _ _ hE) (by simp only [su1, su2, dr1_rf, dr1_in, dr1_lo, dr2_rf, dr2_in, dr2_lo]; exact ⟨rfl, rfl, rfl, rfl, trivial⟩)
def Mo_laysChances_b54 (N : Nat) (self_23 : Nat → Int32 → Int32 → Int32 → PH → Option (Unit × PH)) : Nat → Nat → Int32 → Int32 → Int32 → Int32 → PH → Option (Unit × PH)
  | 0 => fun _ _ _ _ _ _ => none
  | n + 1 => fun a0 x1 x2 x3 x4 h =>
    if 4 ≤ x4 then
      Mo_laysChances_b104 N self_23  a0 x1 x2 x3 h
    else
      if x2 = 0 then
        Mo_laysChances_b104 N self_23  a0 x1 x2 x3 h
      else
        ck ((hK h a0).1 = 11) <|
        ((hR h a0 49)).bind fun a_4 =>
        ck ((hK h a_4).1 = 20) <|
        ck (inb (x3 + x4) (hK h a_4).2 = true) <|
        ((hR h a0 11)).bind fun a_8 =>
        ck ((hK h a_8).1 = 20) <|
        ck (inb ((4 * x1) + x3) (hK h a_8).2 = true) <|
        ck (inb ((4 * x1) + x4) (hK h a_8).2 = true) <|
        ck (inb (x3 + x4) (hK h a_4).2 = true) <|
        lt0 (wI h a_4 (ix (x3 + x4)) ((hI h a_4 (ix (x3 + x4))) + ((hI h a_8 (ix ((4 * x1) + x3))) * (hI h a_8 (ix ((4 * x1) + x4)))))) fun h14 =>
        (Mo_laysChances_b54 N self_23 n) a0 x1 x2 x3 (x4 + 1) h14
set_option maxRecDepth 20000 in
theorem Mo_laysChances_b54_ok (g : GT) (N : Nat) (D : Nat) (hD : 0 ≤ D) (self_23 : Nat → Int32 → Int32 → Int32 → PH → Option (Unit × PH)) (hself_23 : ∀ (a0 : Nat) (x1 : Int32) (x2 : Int32) (x3 : Int32) (h : PH) (v : Unit) (h' : PH), self_23 a0 x1 x2 x3 h = some (v, h') → Run g pMo_laysChances D 23 [(0, va_rf (some a0)), (1, .int x1), (2, .int x2), (3, .int x3)] [] h (rV v) h') : ∀ (n : Nat) (a0 : Nat) (x1 : Int32) (x2 : Int32) (x3 : Int32) (x4 : Int32) (h : PH) (v : Unit) (h' : PH), Mo_laysChances_b54 N self_23 n a0 x1 x2 x3 x4 h = some (v, h') → Run g pMo_laysChances D 54 [(0, va_rf (some a0)), (1, .int x1), (2, .int x2), (3, .int x3), (4, .int x4)] [] h (rV v) h' := by
  intro n
  induction n with
  | zero => exact fun _ _ _ _ _ _ _ _ hE => nomatch (show none = some _ from hE)
  | succ n ih =>
    intro a0 x1 x2 x3 x4 h v h' hE
    unfold Mo_laysChances_b54 at hE
    refine r_iload rfl rfl ?_
    refine r_iconst 4 rfl ci_4 ?_
    refine r_icmp_ge (tgt := 104) rfl (by decide) (fun hc1 => ?_) (fun hc1 => ?_)
    · have hE := ifP hc1 hE
      first | exact r_sb (Mo_laysChances_b104_ok g N _ hD _ hself_23  _ _ _ _ _ _ _ hE) ⟨rfl, rfl, rfl, rfl, trivial⟩ | exact r_sb (Mo_laysChances_b104_ok g N _ hD _ hself_23  _ _ _ _ _ _ _ hE) (by simp only [su1, su2, dr1_rf, dr1_in, dr1_lo, dr2_rf, dr2_in, dr2_lo]; exact ⟨rfl, rfl, rfl, rfl, trivial⟩)
    · have hE := ifN hc1 hE
      refine r_iload_n 2 rfl rfl rfl ?_
      refine r_if_eq (tgt := 104) rfl (by decide) (fun hc2 => ?_) (fun hc2 => ?_)
      · have hE := ifP hc2 hE
        first | exact r_sb (Mo_laysChances_b104_ok g N _ hD _ hself_23  _ _ _ _ _ _ _ hE) ⟨rfl, rfl, rfl, rfl, trivial⟩ | exact r_sb (Mo_laysChances_b104_ok g N _ hD _ hself_23  _ _ _ _ _ _ _ hE) (by simp only [su1, su2, dr1_rf, dr1_in, dr1_lo, dr2_rf, dr2_in, dr2_lo]; exact ⟨rfl, rfl, rfl, rfl, trivial⟩)
      · have hE := ifN hc2 hE
        refine r_aload_n (t := some a0) 0 rfl rfl rfl ?_
        obtain ⟨hk3, hE⟩ := ckE hE
        refine r_getR rfl (fl_11_103 rfl) (Or.inr ⟨_, rfl⟩) rfl hk3 ?_
        refine r_iload_n 3 rfl rfl rfl ?_
        refine r_iload rfl rfl ?_
        refine r_iadd rfl ?_
        refine r_dup2 rfl rfl (rf_cat _) ?_
        obtain ⟨a_4, ha5, hE⟩ := bnE hE
        obtain ⟨hk6, hE⟩ := ckE hE
        obtain ⟨hi7, hE⟩ := ckE hE
        refine r_iald rfl ha5 hk6 hi7 ?_
        refine r_aload_n (t := some a0) 0 rfl rfl rfl ?_
        refine r_getR rfl (fl_11_16 rfl) (Or.inr ⟨_, rfl⟩) rfl hk3 ?_
        refine r_iconst 4 rfl ci_4 ?_
        refine r_iload_n 1 rfl rfl rfl ?_
        refine r_imul rfl ?_
        refine r_iload_n 3 rfl rfl rfl ?_
        refine r_iadd rfl ?_
        obtain ⟨a_8, ha9, hE⟩ := bnE hE
        obtain ⟨hk10, hE⟩ := ckE hE
        obtain ⟨hi11, hE⟩ := ckE hE
        refine r_iald rfl ha9 hk10 hi11 ?_
        refine r_aload_n (t := some a0) 0 rfl rfl rfl ?_
        refine r_getR rfl (fl_11_16 rfl) (Or.inr ⟨_, rfl⟩) rfl hk3 ?_
        refine r_iconst 4 rfl ci_4 ?_
        refine r_iload_n 1 rfl rfl rfl ?_
        refine r_imul rfl ?_
        refine r_iload rfl rfl ?_
        refine r_iadd rfl ?_
        obtain ⟨hi12, hE⟩ := ckE hE
        refine r_iald rfl ha9 hk10 hi12 ?_
        refine r_imul rfl ?_
        refine r_iadd rfl ?_
        obtain ⟨hi13, hE⟩ := ckE hE
        obtain ⟨h14, he15, hE⟩ := ltE hE
        refine r_iast rfl ha5 hk6 hi13 he15 ?_
        refine r_iinc _ rfl rfl (congrArg _ ci_1) (by decide) ?_
        refine r_goto (tgt := 54) rfl (by decide) ?_
        first | exact r_sb (ih _ _ _ _ _ _ _ _ hE) ⟨rfl, rfl, rfl, rfl, rfl, trivial⟩ | exact r_sb (ih _ _ _ _ _ _ _ _ hE) (by simp only [su1, su2, dr1_rf, dr1_in, dr1_lo, dr2_rf, dr2_in, dr2_lo]; exact ⟨rfl, rfl, rfl, rfl, rfl, trivial⟩)
def Mo_laysChances_b51 (N : Nat) (self_23 : Nat → Int32 → Int32 → Int32 → PH → Option (Unit × PH)) (a0 : Nat) (x1 : Int32) (x2 : Int32) (x3 : Int32) (h : PH) : Option (Unit × PH) :=
  Mo_laysChances_b54 N self_23 N a0 x1 x2 x3 0 h
set_option maxRecDepth 20000 in
theorem Mo_laysChances_b51_ok (g : GT) (N : Nat) (D : Nat) (hD : 0 ≤ D) (self_23 : Nat → Int32 → Int32 → Int32 → PH → Option (Unit × PH)) (hself_23 : ∀ (a0 : Nat) (x1 : Int32) (x2 : Int32) (x3 : Int32) (h : PH) (v : Unit) (h' : PH), self_23 a0 x1 x2 x3 h = some (v, h') → Run g pMo_laysChances D 23 [(0, va_rf (some a0)), (1, .int x1), (2, .int x2), (3, .int x3)] [] h (rV v) h') : ∀ (a0 : Nat) (x1 : Int32) (x2 : Int32) (x3 : Int32) (h : PH) (v : Unit) (h' : PH), Mo_laysChances_b51 N self_23 a0 x1 x2 x3 h = some (v, h') → Run g pMo_laysChances D 51 [(0, va_rf (some a0)), (1, .int x1), (2, .int x2), (3, .int x3)] [] h (rV v) h' := by
  intro a0 x1 x2 x3 h v h' hE
  unfold Mo_laysChances_b51 at hE
  refine r_iconst 0 rfl ci_0 ?_
  refine r_istore rfl (by decide) ?_
  first | exact r_sb (Mo_laysChances_b54_ok g N _ hD _ hself_23 N _ _ _ _ _ _ _ _ hE) ⟨rfl, rfl, rfl, rfl, rfl, trivial⟩ | exact r_sb (Mo_laysChances_b54_ok g N _ hD _ hself_23 N _ _ _ _ _ _ _ _ hE) (by simp only [su1, su2, dr1_rf, dr1_in, dr1_lo, dr2_rf, dr2_in, dr2_lo]; exact ⟨rfl, rfl, rfl, rfl, rfl, trivial⟩)
def Mo_laysChances_b23 (N : Nat) : Nat → Nat → Int32 → Int32 → Int32 → PH → Option (Unit × PH)
  | 0 => fun _ _ _ _ _ => none
  | n + 1 => fun a0 x1 x2 x3 h =>
    if 4 ≤ x3 then
      some ((), h)
    else
      if x2 = 0 then
        ck ((hK h a0).1 = 11) <|
        ((hR h a0 11)).bind fun a_4 =>
        ck ((hK h a_4).1 = 20) <|
        ck (inb ((4 * x1) + x3) (hK h a_4).2 = true) <|
        ((hR h a0 49)).bind fun a_8 =>
        ck ((hK h a_8).1 = 20) <|
        ck (inb x3 (hK h a_8).2 = true) <|
        lt0 (wI h a_8 (ix x3) (10 * (hI h a_4 (ix ((4 * x1) + x3))))) fun h12 =>
        Mo_laysChances_b51 N (Mo_laysChances_b23 N n)  a0 x1 x2 x3 h12
      else
        Mo_laysChances_b51 N (Mo_laysChances_b23 N n)  a0 x1 x2 x3 h
set_option maxRecDepth 20000 in
theorem Mo_laysChances_b23_ok (g : GT) (N : Nat) (D : Nat) (hD : 0 ≤ D) : ∀ (n : Nat) (a0 : Nat) (x1 : Int32) (x2 : Int32) (x3 : Int32) (h : PH) (v : Unit) (h' : PH), Mo_laysChances_b23 N n a0 x1 x2 x3 h = some (v, h') → Run g pMo_laysChances D 23 [(0, va_rf (some a0)), (1, .int x1), (2, .int x2), (3, .int x3)] [] h (rV v) h' := by
  intro n
  induction n with
  | zero => exact fun _ _ _ _ _ _ _ hE => nomatch (show none = some _ from hE)
  | succ n ih =>
    intro a0 x1 x2 x3 h v h' hE
    unfold Mo_laysChances_b23 at hE
    refine r_iload_n 3 rfl rfl rfl ?_
    refine r_iconst 4 rfl ci_4 ?_
    refine r_icmp_ge (tgt := 110) rfl (by decide) (fun hc1 => ?_) (fun hc1 => ?_)
    · have hE := ifP hc1 hE
      cases hE
      exact r_ret rfl (Or.inr (Or.inr (Or.inr ⟨rfl, rfl, rfl, rfl⟩)))
    · have hE := ifN hc1 hE
      refine r_iload_n 2 rfl rfl rfl ?_
      refine r_if_ne (tgt := 51) rfl (by decide) (fun hc2 => ?_) (fun hc2 => ?_)
      · have hE := ifP hc2 hE
        refine r_aload_n (t := some a0) 0 rfl rfl rfl ?_
        obtain ⟨hk3, hE⟩ := ckE hE
        refine r_getR rfl (fl_11_103 rfl) (Or.inr ⟨_, rfl⟩) rfl hk3 ?_
        refine r_iload_n 3 rfl rfl rfl ?_
        refine r_bipush 10 rfl cb_10 ?_
        refine r_aload_n (t := some a0) 0 rfl rfl rfl ?_
        refine r_getR rfl (fl_11_16 rfl) (Or.inr ⟨_, rfl⟩) rfl hk3 ?_
        refine r_iconst 4 rfl ci_4 ?_
        refine r_iload_n 1 rfl rfl rfl ?_
        refine r_imul rfl ?_
        refine r_iload_n 3 rfl rfl rfl ?_
        refine r_iadd rfl ?_
        obtain ⟨a_4, ha5, hE⟩ := bnE hE
        obtain ⟨hk6, hE⟩ := ckE hE
        obtain ⟨hi7, hE⟩ := ckE hE
        refine r_iald rfl ha5 hk6 hi7 ?_
        refine r_imul rfl ?_
        obtain ⟨a_8, ha9, hE⟩ := bnE hE
        obtain ⟨hk10, hE⟩ := ckE hE
        obtain ⟨hi11, hE⟩ := ckE hE
        obtain ⟨h12, he13, hE⟩ := ltE hE
        refine r_iast rfl ha9 hk10 hi11 he13 ?_
        first | exact r_sb (Mo_laysChances_b51_ok g N _ hD _ ih  _ _ _ _ _ _ _ hE) ⟨rfl, rfl, rfl, rfl, trivial⟩ | exact r_sb (Mo_laysChances_b51_ok g N _ hD _ ih  _ _ _ _ _ _ _ hE) (by simp only [su1, su2, dr1_rf, dr1_in, dr1_lo, dr2_rf, dr2_in, dr2_lo]; exact ⟨rfl, rfl, rfl, rfl, trivial⟩)
      · have hE := ifN hc2 hE
        first | exact r_sb (Mo_laysChances_b51_ok g N _ hD _ ih  _ _ _ _ _ _ _ hE) ⟨rfl, rfl, rfl, rfl, trivial⟩ | exact r_sb (Mo_laysChances_b51_ok g N _ hD _ ih  _ _ _ _ _ _ _ hE) (by simp only [su1, su2, dr1_rf, dr1_in, dr1_lo, dr2_rf, dr2_in, dr2_lo]; exact ⟨rfl, rfl, rfl, rfl, trivial⟩)
def Mo_laysChances_b2 (N : Nat) : Nat → Nat → Int32 → Int32 → Int32 → PH → Option (Unit × PH)
  | 0 => fun _ _ _ _ _ => none
  | n + 1 => fun a0 x1 x2 x3 h =>
    if 7 ≤ x3 then
      Mo_laysChances_b23 N N a0 x1 x2 0 h
    else
      ck ((hK h a0).1 = 11) <|
      ((hR h a0 49)).bind fun a_3 =>
      ck ((hK h a_3).1 = 20) <|
      ck (inb x3 (hK h a_3).2 = true) <|
      lt0 (wI h a_3 (ix x3) 0) fun h7 =>
      (Mo_laysChances_b2 N n) a0 x1 x2 (x3 + 1) h7
set_option maxRecDepth 20000 in
theorem Mo_laysChances_b2_ok (g : GT) (N : Nat) (D : Nat) (hD : 0 ≤ D) : ∀ (n : Nat) (a0 : Nat) (x1 : Int32) (x2 : Int32) (x3 : Int32) (h : PH) (v : Unit) (h' : PH), Mo_laysChances_b2 N n a0 x1 x2 x3 h = some (v, h') → Run g pMo_laysChances D 2 [(0, va_rf (some a0)), (1, .int x1), (2, .int x2), (3, .int x3)] [] h (rV v) h' := by
  intro n
  induction n with
  | zero => exact fun _ _ _ _ _ _ _ hE => nomatch (show none = some _ from hE)
  | succ n ih =>
    intro a0 x1 x2 x3 h v h' hE
    unfold Mo_laysChances_b2 at hE
    refine r_iload_n 3 rfl rfl rfl ?_
    refine r_bipush 7 rfl cb_7 ?_
    refine r_icmp_ge (tgt := 21) rfl (by decide) (fun hc1 => ?_) (fun hc1 => ?_)
    · have hE := ifP hc1 hE
      refine r_iconst 0 rfl ci_0 ?_
      refine r_istore_n 3 rfl rfl (by decide) ?_
      first | exact r_sb (Mo_laysChances_b23_ok g N _ hD  N _ _ _ _ _ _ _ hE) ⟨rfl, rfl, rfl, rfl, trivial⟩ | exact r_sb (Mo_laysChances_b23_ok g N _ hD  N _ _ _ _ _ _ _ hE) (by simp only [su1, su2, dr1_rf, dr1_in, dr1_lo, dr2_rf, dr2_in, dr2_lo]; exact ⟨rfl, rfl, rfl, rfl, trivial⟩)
    · have hE := ifN hc1 hE
      refine r_aload_n (t := some a0) 0 rfl rfl rfl ?_
      obtain ⟨hk2, hE⟩ := ckE hE
      refine r_getR rfl (fl_11_103 rfl) (Or.inr ⟨_, rfl⟩) rfl hk2 ?_
      refine r_iload_n 3 rfl rfl rfl ?_
      refine r_iconst 0 rfl ci_0 ?_
      obtain ⟨a_3, ha4, hE⟩ := bnE hE
      obtain ⟨hk5, hE⟩ := ckE hE
      obtain ⟨hi6, hE⟩ := ckE hE
      obtain ⟨h7, he8, hE⟩ := ltE hE
      refine r_iast rfl ha4 hk5 hi6 he8 ?_
      refine r_iinc _ rfl rfl (congrArg _ ci_1) (by decide) ?_
      refine r_goto (tgt := 2) rfl (by decide) ?_
      first | exact r_sb (ih _ _ _ _ _ _ _ hE) ⟨rfl, rfl, rfl, rfl, trivial⟩ | exact r_sb (ih _ _ _ _ _ _ _ hE) (by simp only [su1, su2, dr1_rf, dr1_in, dr1_lo, dr2_rf, dr2_in, dr2_lo]; exact ⟨rfl, rfl, rfl, rfl, trivial⟩)
def Mo_laysChances (N : Nat) (a0 : Nat) (x1 : Int32) (x2 : Int32) (h : PH) : Option (Unit × PH) :=
  Mo_laysChances_b2 N N a0 x1 x2 0 h
set_option maxRecDepth 20000 in
theorem Mo_laysChances_ok (g : GT) (N : Nat) (a0 : Nat) (x1 : Int32) (x2 : Int32) (h : PH) (v : Unit) (h' : PH) (hE : Mo_laysChances N a0 x1 x2 h = some (v, h')) (D : Nat) (hD : 0 ≤ D) : Calls g D pMo_laysChances [va_rf (some a0), .int x1, .int x2] h (oV v) h' := by
  refine Calls.of cok_Mo_laysChances ht_Mo_laysChances pl_Mo_laysChances (fun ad => by rw [lg_len, sL_cat]; simp only [List.map_cons, List.map_nil, rf_cat, cat_i, cat_l, List.sum_cons, List.sum_nil]; decide) ?_
  rw [show lv_args 0 [va_rf (some a0), .int x1, .int x2] = [(0, va_rf (some a0)), (1, .int x1), (2, .int x2)] from (by simp only [lv_args, rf_cat, cat_i, cat_l]; try rfl)]
  unfold Mo_laysChances at hE
  refine r_iconst 0 rfl ci_0 ?_
  refine r_istore_n 3 rfl rfl (by decide) ?_
  first | exact r_sb (Mo_laysChances_b2_ok g N _ hD  N _ _ _ _ _ _ _ hE) ⟨rfl, rfl, rfl, rfl, trivial⟩ | exact r_sb (Mo_laysChances_b2_ok g N _ hD  N _ _ _ _ _ _ _ hE) (by simp only [su1, su2, dr1_rf, dr1_in, dr1_lo, dr2_rf, dr2_in, dr2_lo]; exact ⟨rfl, rfl, rfl, rfl, trivial⟩)
def Mo_fencedBy_b84 (N : Nat) (self_25 : Nat → Int32 → Int32 → Int32 → Int32 → Int32 → PH → Option (Int32 × PH)) (s0 : Int32) (a0 : Nat) (x1 : Int32) (x2 : Int32) (x3 : Int32) (x5 : Int32) (h : PH) : Option (Int32 × PH) :=
  self_25 a0 x1 x2 x3 s0 (x5 + 1) h
set_option maxRecDepth 20000 in
theorem Mo_fencedBy_b84_ok (g : GT) (N : Nat) (D : Nat) (hD : 2 ≤ D) (self_25 : Nat → Int32 → Int32 → Int32 → Int32 → Int32 → PH → Option (Int32 × PH)) (hself_25 : ∀ (a0 : Nat) (x1 : Int32) (x2 : Int32) (x3 : Int32) (x4 : Int32) (x5 : Int32) (h : PH) (v : Int32) (h' : PH), self_25 a0 x1 x2 x3 x4 x5 h = some (v, h') → Run g pMo_fencedBy D 25 [(0, va_rf (some a0)), (1, .int x1), (2, .int x2), (3, .int x3), (4, .int x4), (5, .int x5)] [] h (rI v) h') : ∀ (s0 : Int32) (a0 : Nat) (x1 : Int32) (x2 : Int32) (x3 : Int32) (x5 : Int32) (h : PH) (v : Int32) (h' : PH), Mo_fencedBy_b84 N self_25 s0 a0 x1 x2 x3 x5 h = some (v, h') → Run g pMo_fencedBy D 84 [(0, va_rf (some a0)), (1, .int x1), (2, .int x2), (3, .int x3), (5, .int x5)] [.int s0] h (rI v) h' := by
  obtain ⟨D2, rfl⟩ : ∃ d, D = d + 1 := ⟨D - 1, by omega⟩
  intro s0 a0 x1 x2 x3 x5 h v h' hE
  unfold Mo_fencedBy_b84 at hE
  refine r_istore rfl (by decide) ?_
  refine r_iinc _ rfl rfl (congrArg _ ci_1) (by decide) ?_
  refine r_goto (tgt := 25) rfl (by decide) ?_
  first | exact r_sb (hself_25 _ _ _ _ _ _ _ _ _ hE) ⟨rfl, rfl, rfl, rfl, rfl, rfl, trivial⟩ | exact r_sb (hself_25 _ _ _ _ _ _ _ _ _ hE) (by simp only [su1, su2, dr1_rf, dr1_in, dr1_lo, dr2_rf, dr2_in, dr2_lo]; exact ⟨rfl, rfl, rfl, rfl, rfl, rfl, trivial⟩)
def Mo_fencedBy_b77 (N : Nat) (self_25 : Nat → Int32 → Int32 → Int32 → Int32 → Int32 → PH → Option (Int32 × PH)) (a0 : Nat) (x1 : Int32) (x2 : Int32) (x3 : Int32) (x5 : Int32) (x6 : Int32) (h : PH) : Option (Int32 × PH) :=
  Mo_fencedBy_b84 N self_25  x6 a0 x1 x2 x3 x5 h
set_option maxRecDepth 20000 in
theorem Mo_fencedBy_b77_ok (g : GT) (N : Nat) (D : Nat) (hD : 2 ≤ D) (self_25 : Nat → Int32 → Int32 → Int32 → Int32 → Int32 → PH → Option (Int32 × PH)) (hself_25 : ∀ (a0 : Nat) (x1 : Int32) (x2 : Int32) (x3 : Int32) (x4 : Int32) (x5 : Int32) (h : PH) (v : Int32) (h' : PH), self_25 a0 x1 x2 x3 x4 x5 h = some (v, h') → Run g pMo_fencedBy D 25 [(0, va_rf (some a0)), (1, .int x1), (2, .int x2), (3, .int x3), (4, .int x4), (5, .int x5)] [] h (rI v) h') : ∀ (a0 : Nat) (x1 : Int32) (x2 : Int32) (x3 : Int32) (x5 : Int32) (x6 : Int32) (h : PH) (v : Int32) (h' : PH), Mo_fencedBy_b77 N self_25 a0 x1 x2 x3 x5 x6 h = some (v, h') → Run g pMo_fencedBy D 77 [(0, va_rf (some a0)), (1, .int x1), (2, .int x2), (3, .int x3), (5, .int x5), (6, .int x6)] [] h (rI v) h' := by
  obtain ⟨D2, rfl⟩ : ∃ d, D = d + 1 := ⟨D - 1, by omega⟩
  intro a0 x1 x2 x3 x5 x6 h v h' hE
  unfold Mo_fencedBy_b77 at hE
  refine r_iload rfl rfl ?_
  refine r_goto (tgt := 84) rfl (by decide) ?_
  first | exact r_sb (Mo_fencedBy_b84_ok g N _ hD _ hself_25  _ _ _ _ _ _ _ _ _ hE) ⟨rfl, rfl, rfl, rfl, rfl, trivial⟩ | exact r_sb (Mo_fencedBy_b84_ok g N _ hD _ hself_25  _ _ _ _ _ _ _ _ _ hE) (by simp only [su1, su2, dr1_rf, dr1_in, dr1_lo, dr2_rf, dr2_in, dr2_lo]; exact ⟨rfl, rfl, rfl, rfl, rfl, trivial⟩)
def Mo_fencedBy_b25 (N : Nat) : Nat → Nat → Int32 → Int32 → Int32 → Int32 → Int32 → PH → Option (Int32 × PH)
  | 0 => fun _ _ _ _ _ _ _ => none
  | n + 1 => fun a0 x1 x2 x3 x4 x5 h =>
    if 4 ≤ x5 then
      some (x4, h)
    else
      ck ((hK h a0).1 = 11) <|
      bd (Mo_gives N a0 x1 x2 x5 x3 0 h) fun v3 h4 =>
      ck ((hK h4 a0).1 = 11) <|
      ((hR h4 a0 48)).bind fun a_7 =>
      ck ((hK h4 a_7).1 = 20) <|
      ck (inb ((241 * (x1 + 1)) + (hI h4 a0 41)) (hK h4 a_7).2 = true) <|
      if x5 = 0 then
        Mo_fencedBy_b77 N (Mo_fencedBy_b25 N n)  a0 x1 x2 x3 x5 ((1000 * v3) + (hI h4 a_7 (ix ((241 * (x1 + 1)) + (hI h4 a0 41))))) h4
      else
        if ((1000 * v3) + (hI h4 a_7 (ix ((241 * (x1 + 1)) + (hI h4 a0 41))))) ≤ x4 then
          Mo_fencedBy_b84 N (Mo_fencedBy_b25 N n)  x4 a0 x1 x2 x3 x5 h4
        else
          Mo_fencedBy_b77 N (Mo_fencedBy_b25 N n)  a0 x1 x2 x3 x5 ((1000 * v3) + (hI h4 a_7 (ix ((241 * (x1 + 1)) + (hI h4 a0 41))))) h4
set_option maxRecDepth 20000 in
theorem Mo_fencedBy_b25_ok (g : GT) (N : Nat) (D : Nat) (hD : 2 ≤ D) : ∀ (n : Nat) (a0 : Nat) (x1 : Int32) (x2 : Int32) (x3 : Int32) (x4 : Int32) (x5 : Int32) (h : PH) (v : Int32) (h' : PH), Mo_fencedBy_b25 N n a0 x1 x2 x3 x4 x5 h = some (v, h') → Run g pMo_fencedBy D 25 [(0, va_rf (some a0)), (1, .int x1), (2, .int x2), (3, .int x3), (4, .int x4), (5, .int x5)] [] h (rI v) h' := by
  obtain ⟨D2, rfl⟩ : ∃ d, D = d + 1 := ⟨D - 1, by omega⟩
  intro n
  induction n with
  | zero => exact fun _ _ _ _ _ _ _ _ _ hE => nomatch (show none = some _ from hE)
  | succ n ih =>
    intro a0 x1 x2 x3 x4 x5 h v h' hE
    unfold Mo_fencedBy_b25 at hE
    refine r_iload rfl rfl ?_
    refine r_iconst 4 rfl ci_4 ?_
    refine r_icmp_ge (tgt := 92) rfl (by decide) (fun hc1 => ?_) (fun hc1 => ?_)
    · have hE := ifP hc1 hE
      refine r_iload rfl rfl ?_
      cases hE
      exact r_ret rfl (Or.inl ⟨rfl, _, _, rfl, rfl, rfl, rfl⟩)
    · have hE := ifN hc1 hE
      refine r_sipush 1000 rfl cs_1000 ?_
      refine r_aload_n (t := some a0) 0 rfl rfl rfl ?_
      refine r_iload_n 1 rfl rfl rfl ?_
      refine r_iload_n 2 rfl rfl rfl ?_
      refine r_iload rfl rfl ?_
      refine r_iload_n 3 rfl rfl rfl ?_
      refine r_iconst 0 rfl ci_0 ?_
      obtain ⟨hk2, hE⟩ := ckE hE
      obtain ⟨v3, h4, hq5, hE⟩ := bdE hE
      refine r_callV1 (rest := [.int 1000]) (hc := (Mo_gives_ok g N _ _ _ _ _ _ _ _ _ hq5 D2 (by omega))) rfl pm_Mo_gives lw_11_355 im_Mo_gives sl_Mo_gives rfl rfl rfl (rcOK hk2 rfl) (by simp only [List.map_cons, List.map_nil, rf_cat, cat_i, cat_l, List.sum_cons, List.sum_nil]; decide) ?_
      refine r_imul rfl ?_
      refine r_aload_n (t := some a0) 0 rfl rfl rfl ?_
      obtain ⟨hk6, hE⟩ := ckE hE
      refine r_getR rfl (fl_11_100 rfl) (Or.inr ⟨_, rfl⟩) rfl hk6 ?_
      refine r_sipush 241 rfl cs_241 ?_
      refine r_iload_n 1 rfl rfl rfl ?_
      refine r_iconst 1 rfl ci_1 ?_
      refine r_iadd rfl ?_
      refine r_imul rfl ?_
      refine r_aload_n (t := some a0) 0 rfl rfl rfl ?_
      refine r_getI rfl (fl_11_319 rfl) (Or.inl rfl) rfl hk6 ?_
      refine r_iadd rfl ?_
      obtain ⟨a_7, ha8, hE⟩ := bnE hE
      obtain ⟨hk9, hE⟩ := ckE hE
      obtain ⟨hi10, hE⟩ := ckE hE
      refine r_iald rfl ha8 hk9 hi10 ?_
      refine r_iadd rfl ?_
      refine r_istore rfl (by decide) ?_
      refine r_iload rfl rfl ?_
      refine r_if_eq (tgt := 77) rfl (by decide) (fun hc11 => ?_) (fun hc11 => ?_)
      · have hE := ifP hc11 hE
        first | exact r_sb (Mo_fencedBy_b77_ok g N _ hD _ ih  _ _ _ _ _ _ _ _ _ hE) ⟨rfl, rfl, rfl, rfl, rfl, rfl, trivial⟩ | exact r_sb (Mo_fencedBy_b77_ok g N _ hD _ ih  _ _ _ _ _ _ _ _ _ hE) (by simp only [su1, su2, dr1_rf, dr1_in, dr1_lo, dr2_rf, dr2_in, dr2_lo]; exact ⟨rfl, rfl, rfl, rfl, rfl, rfl, trivial⟩)
      · have hE := ifN hc11 hE
        refine r_iload rfl rfl ?_
        refine r_iload rfl rfl ?_
        refine r_icmp_le (tgt := 82) rfl (by decide) (fun hc12 => ?_) (fun hc12 => ?_)
        · have hE := ifP hc12 hE
          refine r_iload rfl rfl ?_
          first | exact r_sb (Mo_fencedBy_b84_ok g N _ hD _ ih  _ _ _ _ _ _ _ _ _ hE) ⟨rfl, rfl, rfl, rfl, rfl, trivial⟩ | exact r_sb (Mo_fencedBy_b84_ok g N _ hD _ ih  _ _ _ _ _ _ _ _ _ hE) (by simp only [su1, su2, dr1_rf, dr1_in, dr1_lo, dr2_rf, dr2_in, dr2_lo]; exact ⟨rfl, rfl, rfl, rfl, rfl, trivial⟩)
        · have hE := ifN hc12 hE
          first | exact r_sb (Mo_fencedBy_b77_ok g N _ hD _ ih  _ _ _ _ _ _ _ _ _ hE) ⟨rfl, rfl, rfl, rfl, rfl, rfl, trivial⟩ | exact r_sb (Mo_fencedBy_b77_ok g N _ hD _ ih  _ _ _ _ _ _ _ _ _ hE) (by simp only [su1, su2, dr1_rf, dr1_in, dr1_lo, dr2_rf, dr2_in, dr2_lo]; exact ⟨rfl, rfl, rfl, rfl, rfl, rfl, trivial⟩)
def Mo_fencedBy (N : Nat) (a0 : Nat) (x1 : Int32) (x2 : Int32) (x3 : Int32) (h : PH) : Option (Int32 × PH) :=
  if x2 = 0 then
    ck ((hK h a0).1 = 11) <|
    ((hR h a0 48)).bind fun a_3 =>
    ck ((hK h a_3).1 = 20) <|
    ck (inb ((241 * (x1 + 1)) + x3) (hK h a_3).2 = true) <|
    some ((hI h a_3 (ix ((241 * (x1 + 1)) + x3))), h)
  else
    Mo_fencedBy_b25 N N a0 x1 x2 x3 0 0 h
set_option maxRecDepth 20000 in
theorem Mo_fencedBy_ok (g : GT) (N : Nat) (a0 : Nat) (x1 : Int32) (x2 : Int32) (x3 : Int32) (h : PH) (v : Int32) (h' : PH) (hE : Mo_fencedBy N a0 x1 x2 x3 h = some (v, h')) (D : Nat) (hD : 2 ≤ D) : Calls g D pMo_fencedBy [va_rf (some a0), .int x1, .int x2, .int x3] h (oI v) h' := by
  refine Calls.of cok_Mo_fencedBy ht_Mo_fencedBy pl_Mo_fencedBy (fun ad => by rw [lg_len, sL_cat]; simp only [List.map_cons, List.map_nil, rf_cat, cat_i, cat_l, List.sum_cons, List.sum_nil]; decide) ?_
  rw [show lv_args 0 [va_rf (some a0), .int x1, .int x2, .int x3] = [(0, va_rf (some a0)), (1, .int x1), (2, .int x2), (3, .int x3)] from (by simp only [lv_args, rf_cat, cat_i, cat_l]; try rfl)]
  obtain ⟨D2, rfl⟩ : ∃ d, D = d + 1 := ⟨D - 1, by omega⟩
  unfold Mo_fencedBy at hE
  refine r_iload_n 2 rfl rfl rfl ?_
  refine r_if_ne (tgt := 19) rfl (by decide) (fun hc1 => ?_) (fun hc1 => ?_)
  · have hE := ifP hc1 hE
    refine r_aload_n (t := some a0) 0 rfl rfl rfl ?_
    obtain ⟨hk2, hE⟩ := ckE hE
    refine r_getR rfl (fl_11_100 rfl) (Or.inr ⟨_, rfl⟩) rfl hk2 ?_
    refine r_sipush 241 rfl cs_241 ?_
    refine r_iload_n 1 rfl rfl rfl ?_
    refine r_iconst 1 rfl ci_1 ?_
    refine r_iadd rfl ?_
    refine r_imul rfl ?_
    refine r_iload_n 3 rfl rfl rfl ?_
    refine r_iadd rfl ?_
    obtain ⟨a_3, ha4, hE⟩ := bnE hE
    obtain ⟨hk5, hE⟩ := ckE hE
    obtain ⟨hi6, hE⟩ := ckE hE
    refine r_iald rfl ha4 hk5 hi6 ?_
    cases hE
    exact r_ret rfl (Or.inl ⟨rfl, _, _, rfl, rfl, rfl, rfl⟩)
  · have hE := ifN hc1 hE
    refine r_iconst 0 rfl ci_0 ?_
    refine r_istore rfl (by decide) ?_
    refine r_iconst 0 rfl ci_0 ?_
    refine r_istore rfl (by decide) ?_
    first | exact r_sb (Mo_fencedBy_b25_ok g N _ hD  N _ _ _ _ _ _ _ _ _ hE) ⟨rfl, rfl, rfl, rfl, rfl, rfl, trivial⟩ | exact r_sb (Mo_fencedBy_b25_ok g N _ hD  N _ _ _ _ _ _ _ _ _ hE) (by simp only [su1, su2, dr1_rf, dr1_in, dr1_lo, dr2_rf, dr2_in, dr2_lo]; exact ⟨rfl, rfl, rfl, rfl, rfl, rfl, trivial⟩)
def Mo_fenceOf_b99 (N : Nat) (self_7 : Nat → Int32 → Int32 → Int32 → PH → Option (Int32 × PH)) (self_36 : Nat → Int32 → Int32 → Int32 → Int32 → PH → Option (Int32 × PH)) (self_48 : Nat → Int32 → Int32 → Int32 → Int32 → Int64 → Int32 → PH → Option (Int32 × PH)) (a0 : Nat) (x1 : Int32) (x2 : Int32) (x3 : Int32) (x4 : Int32) (x5 : Int64) (x7 : Int32) (h : PH) : Option (Int32 × PH) :=
  self_48 a0 x1 x2 x3 x4 x5 (x7 + 1) h
set_option maxRecDepth 20000 in
theorem Mo_fenceOf_b99_ok (g : GT) (N : Nat) (D : Nat) (hD : 3 ≤ D) (self_7 : Nat → Int32 → Int32 → Int32 → PH → Option (Int32 × PH)) (hself_7 : ∀ (a0 : Nat) (x1 : Int32) (x2 : Int32) (x3 : Int32) (h : PH) (v : Int32) (h' : PH), self_7 a0 x1 x2 x3 h = some (v, h') → Run g pMo_fenceOf D 7 [(0, va_rf (some a0)), (1, .int x1), (2, .int x2), (3, .int x3)] [] h (rI v) h') (self_36 : Nat → Int32 → Int32 → Int32 → Int32 → PH → Option (Int32 × PH)) (hself_36 : ∀ (a0 : Nat) (x1 : Int32) (x2 : Int32) (x3 : Int32) (x4 : Int32) (h : PH) (v : Int32) (h' : PH), self_36 a0 x1 x2 x3 x4 h = some (v, h') → Run g pMo_fenceOf D 36 [(0, va_rf (some a0)), (1, .int x1), (2, .int x2), (3, .int x3), (4, .int x4)] [] h (rI v) h') (self_48 : Nat → Int32 → Int32 → Int32 → Int32 → Int64 → Int32 → PH → Option (Int32 × PH)) (hself_48 : ∀ (a0 : Nat) (x1 : Int32) (x2 : Int32) (x3 : Int32) (x4 : Int32) (x5 : Int64) (x7 : Int32) (h : PH) (v : Int32) (h' : PH), self_48 a0 x1 x2 x3 x4 x5 x7 h = some (v, h') → Run g pMo_fenceOf D 48 [(0, va_rf (some a0)), (1, .int x1), (2, .int x2), (3, .int x3), (4, .int x4), (5, .long x5), (7, .int x7)] [] h (rI v) h') : ∀ (a0 : Nat) (x1 : Int32) (x2 : Int32) (x3 : Int32) (x4 : Int32) (x5 : Int64) (x7 : Int32) (h : PH) (v : Int32) (h' : PH), Mo_fenceOf_b99 N self_7 self_36 self_48 a0 x1 x2 x3 x4 x5 x7 h = some (v, h') → Run g pMo_fenceOf D 99 [(0, va_rf (some a0)), (1, .int x1), (2, .int x2), (3, .int x3), (4, .int x4), (5, .long x5), (7, .int x7)] [] h (rI v) h' := by
  obtain ⟨D2, rfl⟩ : ∃ d, D = d + 1 := ⟨D - 1, by omega⟩
  intro a0 x1 x2 x3 x4 x5 x7 h v h' hE
  unfold Mo_fenceOf_b99 at hE
  refine r_iinc _ rfl rfl (congrArg _ ci_1) (by decide) ?_
  refine r_goto (tgt := 48) rfl (by decide) ?_
  first | exact r_sb (hself_48 _ _ _ _ _ _ _ _ _ _ hE) ⟨rfl, rfl, rfl, rfl, rfl, rfl, rfl, trivial⟩ | exact r_sb (hself_48 _ _ _ _ _ _ _ _ _ _ hE) (by simp only [su1, su2, dr1_rf, dr1_in, dr1_lo, dr2_rf, dr2_in, dr2_lo]; exact ⟨rfl, rfl, rfl, rfl, rfl, rfl, rfl, trivial⟩)
def Mo_fenceOf_b151 (N : Nat) (self_7 : Nat → Int32 → Int32 → Int32 → PH → Option (Int32 × PH)) (self_36 : Nat → Int32 → Int32 → Int32 → Int32 → PH → Option (Int32 × PH)) (s0 : Option Nat) (s1 : Int32) (s2 : Int32) (a0 : Nat) (x1 : Int32) (x2 : Int32) (x3 : Int32) (x4 : Int32) (h : PH) : Option (Int32 × PH) :=
  (s0).bind fun a_1 =>
  ck ((hK h a_1).1 = 20) <|
  ck (inb s1 (hK h a_1).2 = true) <|
  lt0 (wI h a_1 (ix s1) s2) fun h5 =>
  self_36 a0 x1 x2 x3 (x4 + 1) h5
set_option maxRecDepth 20000 in
theorem Mo_fenceOf_b151_ok (g : GT) (N : Nat) (D : Nat) (hD : 3 ≤ D) (self_7 : Nat → Int32 → Int32 → Int32 → PH → Option (Int32 × PH)) (hself_7 : ∀ (a0 : Nat) (x1 : Int32) (x2 : Int32) (x3 : Int32) (h : PH) (v : Int32) (h' : PH), self_7 a0 x1 x2 x3 h = some (v, h') → Run g pMo_fenceOf D 7 [(0, va_rf (some a0)), (1, .int x1), (2, .int x2), (3, .int x3)] [] h (rI v) h') (self_36 : Nat → Int32 → Int32 → Int32 → Int32 → PH → Option (Int32 × PH)) (hself_36 : ∀ (a0 : Nat) (x1 : Int32) (x2 : Int32) (x3 : Int32) (x4 : Int32) (h : PH) (v : Int32) (h' : PH), self_36 a0 x1 x2 x3 x4 h = some (v, h') → Run g pMo_fenceOf D 36 [(0, va_rf (some a0)), (1, .int x1), (2, .int x2), (3, .int x3), (4, .int x4)] [] h (rI v) h') : ∀ (s0 : Option Nat) (s1 : Int32) (s2 : Int32) (a0 : Nat) (x1 : Int32) (x2 : Int32) (x3 : Int32) (x4 : Int32) (h : PH) (v : Int32) (h' : PH), Mo_fenceOf_b151 N self_7 self_36 s0 s1 s2 a0 x1 x2 x3 x4 h = some (v, h') → Run g pMo_fenceOf D 151 [(0, va_rf (some a0)), (1, .int x1), (2, .int x2), (3, .int x3), (4, .int x4)] [.int s2, .int s1, va_rf s0] h (rI v) h' := by
  obtain ⟨D2, rfl⟩ : ∃ d, D = d + 1 := ⟨D - 1, by omega⟩
  intro s0 s1 s2 a0 x1 x2 x3 x4 h v h' hE
  unfold Mo_fenceOf_b151 at hE
  obtain ⟨a_1, ha2, hE⟩ := bnE hE
  obtain ⟨hk3, hE⟩ := ckE hE
  obtain ⟨hi4, hE⟩ := ckE hE
  obtain ⟨h5, he6, hE⟩ := ltE hE
  refine r_iast rfl ha2 hk3 hi4 he6 ?_
  refine r_iinc _ rfl rfl (congrArg _ ci_1) (by decide) ?_
  refine r_goto (tgt := 36) rfl (by decide) ?_
  first | exact r_sb (hself_36 _ _ _ _ _ _ _ _ hE) ⟨rfl, rfl, rfl, rfl, rfl, trivial⟩ | exact r_sb (hself_36 _ _ _ _ _ _ _ _ hE) (by simp only [su1, su2, dr1_rf, dr1_in, dr1_lo, dr2_rf, dr2_in, dr2_lo]; exact ⟨rfl, rfl, rfl, rfl, rfl, trivial⟩)
def Mo_fenceOf_b105 (N : Nat) (self_7 : Nat → Int32 → Int32 → Int32 → PH → Option (Int32 × PH)) (self_36 : Nat → Int32 → Int32 → Int32 → Int32 → PH → Option (Int32 × PH)) (a0 : Nat) (x1 : Int32) (x2 : Int32) (x3 : Int32) (x4 : Int32) (x5 : Int64) (h : PH) : Option (Int32 × PH) :=
  ck ((hK h a0).1 = 11) <|
  ((hR h a0 10)).bind fun a_2 =>
  ck ((hK h a_2).1 = 20) <|
  ck (inb 0 (hK h a_2).2 = true) <|
  if x3 = (hI h a_2 (ix 0)) then
    ck (inb 7 (hK h a_2).2 = true) <|
    Mo_fenceOf_b151 N self_7 self_36  (hR h a0 48) ((241 * x3) + x4) (((-1000) * (hI h a_2 (ix 7))) * x4) a0 x1 x2 x3 x4 h
  else
    ck (¬ (100 : Int64) = 0) <|
    Mo_fenceOf_b151 N self_7 self_36  (hR h a0 48) ((241 * x3) + x4) (Int64.toInt32 (x5 / 100)) a0 x1 x2 x3 x4 h
set_option maxRecDepth 20000 in
theorem Mo_fenceOf_b105_ok (g : GT) (N : Nat) (D : Nat) (hD : 3 ≤ D) (self_7 : Nat → Int32 → Int32 → Int32 → PH → Option (Int32 × PH)) (hself_7 : ∀ (a0 : Nat) (x1 : Int32) (x2 : Int32) (x3 : Int32) (h : PH) (v : Int32) (h' : PH), self_7 a0 x1 x2 x3 h = some (v, h') → Run g pMo_fenceOf D 7 [(0, va_rf (some a0)), (1, .int x1), (2, .int x2), (3, .int x3)] [] h (rI v) h') (self_36 : Nat → Int32 → Int32 → Int32 → Int32 → PH → Option (Int32 × PH)) (hself_36 : ∀ (a0 : Nat) (x1 : Int32) (x2 : Int32) (x3 : Int32) (x4 : Int32) (h : PH) (v : Int32) (h' : PH), self_36 a0 x1 x2 x3 x4 h = some (v, h') → Run g pMo_fenceOf D 36 [(0, va_rf (some a0)), (1, .int x1), (2, .int x2), (3, .int x3), (4, .int x4)] [] h (rI v) h') : ∀ (a0 : Nat) (x1 : Int32) (x2 : Int32) (x3 : Int32) (x4 : Int32) (x5 : Int64) (h : PH) (v : Int32) (h' : PH), Mo_fenceOf_b105 N self_7 self_36 a0 x1 x2 x3 x4 x5 h = some (v, h') → Run g pMo_fenceOf D 105 [(0, va_rf (some a0)), (1, .int x1), (2, .int x2), (3, .int x3), (4, .int x4), (5, .long x5)] [] h (rI v) h' := by
  obtain ⟨D2, rfl⟩ : ∃ d, D = d + 1 := ⟨D - 1, by omega⟩
  intro a0 x1 x2 x3 x4 x5 h v h' hE
  unfold Mo_fenceOf_b105 at hE
  refine r_aload_n (t := some a0) 0 rfl rfl rfl ?_
  obtain ⟨hk1, hE⟩ := ckE hE
  refine r_getR rfl (fl_11_100 rfl) (Or.inr ⟨_, rfl⟩) rfl hk1 ?_
  refine r_sipush 241 rfl cs_241 ?_
  refine r_iload_n 3 rfl rfl rfl ?_
  refine r_imul rfl ?_
  refine r_iload rfl rfl ?_
  refine r_iadd rfl ?_
  refine r_iload_n 3 rfl rfl rfl ?_
  refine r_aload_n (t := some a0) 0 rfl rfl rfl ?_
  refine r_getR rfl (fl_11_13 rfl) (Or.inr ⟨_, rfl⟩) rfl hk1 ?_
  refine r_iconst 0 rfl ci_0 ?_
  obtain ⟨a_2, ha3, hE⟩ := bnE hE
  obtain ⟨hk4, hE⟩ := ckE hE
  obtain ⟨hi5, hE⟩ := ckE hE
  refine r_iald rfl ha3 hk4 hi5 ?_
  refine r_icmp_ne (tgt := 144) rfl (by decide) (fun hc6 => ?_) (fun hc6 => ?_)
  · have hE := ifP hc6 hE
    refine r_sipush (-1000) rfl cs_m1000 ?_
    refine r_aload_n (t := some a0) 0 rfl rfl rfl ?_
    refine r_getR rfl (fl_11_13 rfl) (Or.inr ⟨_, rfl⟩) rfl hk1 ?_
    refine r_bipush 7 rfl cb_7 ?_
    obtain ⟨hi7, hE⟩ := ckE hE
    refine r_iald rfl ha3 hk4 hi7 ?_
    refine r_imul rfl ?_
    refine r_iload rfl rfl ?_
    refine r_imul rfl ?_
    refine r_goto (tgt := 151) rfl (by decide) ?_
    first | exact r_sb (Mo_fenceOf_b151_ok g N _ hD _ hself_7 _ hself_36  _ _ _ _ _ _ _ _ _ _ _ hE) ⟨rfl, rfl, rfl, rfl, rfl, trivial⟩ | exact r_sb (Mo_fenceOf_b151_ok g N _ hD _ hself_7 _ hself_36  _ _ _ _ _ _ _ _ _ _ _ hE) (by simp only [su1, su2, dr1_rf, dr1_in, dr1_lo, dr2_rf, dr2_in, dr2_lo]; exact ⟨rfl, rfl, rfl, rfl, rfl, trivial⟩)
  · have hE := ifN hc6 hE
    refine r_lload rfl rfl ?_
    refine r_ldc2 rfl kc_11_458 ?_
    obtain ⟨hc8, hE⟩ := ckE hE
    refine r_ldiv rfl hc8 ?_
    refine r_l2i rfl ?_
    first | exact r_sb (Mo_fenceOf_b151_ok g N _ hD _ hself_7 _ hself_36  _ _ _ _ _ _ _ _ _ _ _ hE) ⟨rfl, rfl, rfl, rfl, rfl, trivial⟩ | exact r_sb (Mo_fenceOf_b151_ok g N _ hD _ hself_7 _ hself_36  _ _ _ _ _ _ _ _ _ _ _ hE) (by simp only [su1, su2, dr1_rf, dr1_in, dr1_lo, dr2_rf, dr2_in, dr2_lo]; exact ⟨rfl, rfl, rfl, rfl, rfl, trivial⟩)
def Mo_fenceOf_b48 (N : Nat) (self_7 : Nat → Int32 → Int32 → Int32 → PH → Option (Int32 × PH)) (self_36 : Nat → Int32 → Int32 → Int32 → Int32 → PH → Option (Int32 × PH)) : Nat → Nat → Int32 → Int32 → Int32 → Int32 → Int64 → Int32 → PH → Option (Int32 × PH)
  | 0 => fun _ _ _ _ _ _ _ _ => none
  | n + 1 => fun a0 x1 x2 x3 x4 x5 x7 h =>
    if 7 ≤ x7 then
      Mo_fenceOf_b105 N self_7 self_36  a0 x1 x2 x3 x4 x5 h
    else
      ck ((hK h a0).1 = 11) <|
      ((hR h a0 10)).bind fun a_3 =>
      ck ((hK h a_3).1 = 20) <|
      ck (inb 0 (hK h a_3).2 = true) <|
      if (hI h a_3 (ix 0)) ≤ x3 then
        Mo_fenceOf_b105 N self_7 self_36  a0 x1 x2 x3 x4 x5 h
      else
        ((hR h a0 49)).bind fun a_8 =>
        ck ((hK h a_8).1 = 20) <|
        ck (inb x7 (hK h a_8).2 = true) <|
        if (hI h a_8 (ix x7)) ≤ 0 then
          Mo_fenceOf_b99 N self_7 self_36 (Mo_fenceOf_b48 N self_7 self_36 n)  a0 x1 x2 x3 x4 x5 x7 h
        else
          ck (inb x7 (hK h a_8).2 = true) <|
          bd (Mo_fencedBy N a0 x3 x7 x4 h) fun v14 h15 =>
          Mo_fenceOf_b99 N self_7 self_36 (Mo_fenceOf_b48 N self_7 self_36 n)  a0 x1 x2 x3 x4 (x5 + ((Int32.toInt64 (hI h a_8 (ix x7))) * (Int32.toInt64 v14))) x7 h15
set_option maxRecDepth 20000 in
theorem Mo_fenceOf_b48_ok (g : GT) (N : Nat) (D : Nat) (hD : 3 ≤ D) (self_7 : Nat → Int32 → Int32 → Int32 → PH → Option (Int32 × PH)) (hself_7 : ∀ (a0 : Nat) (x1 : Int32) (x2 : Int32) (x3 : Int32) (h : PH) (v : Int32) (h' : PH), self_7 a0 x1 x2 x3 h = some (v, h') → Run g pMo_fenceOf D 7 [(0, va_rf (some a0)), (1, .int x1), (2, .int x2), (3, .int x3)] [] h (rI v) h') (self_36 : Nat → Int32 → Int32 → Int32 → Int32 → PH → Option (Int32 × PH)) (hself_36 : ∀ (a0 : Nat) (x1 : Int32) (x2 : Int32) (x3 : Int32) (x4 : Int32) (h : PH) (v : Int32) (h' : PH), self_36 a0 x1 x2 x3 x4 h = some (v, h') → Run g pMo_fenceOf D 36 [(0, va_rf (some a0)), (1, .int x1), (2, .int x2), (3, .int x3), (4, .int x4)] [] h (rI v) h') : ∀ (n : Nat) (a0 : Nat) (x1 : Int32) (x2 : Int32) (x3 : Int32) (x4 : Int32) (x5 : Int64) (x7 : Int32) (h : PH) (v : Int32) (h' : PH), Mo_fenceOf_b48 N self_7 self_36 n a0 x1 x2 x3 x4 x5 x7 h = some (v, h') → Run g pMo_fenceOf D 48 [(0, va_rf (some a0)), (1, .int x1), (2, .int x2), (3, .int x3), (4, .int x4), (5, .long x5), (7, .int x7)] [] h (rI v) h' := by
  obtain ⟨D2, rfl⟩ : ∃ d, D = d + 1 := ⟨D - 1, by omega⟩
  intro n
  induction n with
  | zero => exact fun _ _ _ _ _ _ _ _ _ _ hE => nomatch (show none = some _ from hE)
  | succ n ih =>
    intro a0 x1 x2 x3 x4 x5 x7 h v h' hE
    unfold Mo_fenceOf_b48 at hE
    refine r_iload rfl rfl ?_
    refine r_bipush 7 rfl cb_7 ?_
    refine r_icmp_ge (tgt := 105) rfl (by decide) (fun hc1 => ?_) (fun hc1 => ?_)
    · have hE := ifP hc1 hE
      first | exact r_sb (Mo_fenceOf_b105_ok g N _ hD _ hself_7 _ hself_36  _ _ _ _ _ _ _ _ _ hE) ⟨rfl, rfl, rfl, rfl, rfl, rfl, trivial⟩ | exact r_sb (Mo_fenceOf_b105_ok g N _ hD _ hself_7 _ hself_36  _ _ _ _ _ _ _ _ _ hE) (by simp only [su1, su2, dr1_rf, dr1_in, dr1_lo, dr2_rf, dr2_in, dr2_lo]; exact ⟨rfl, rfl, rfl, rfl, rfl, rfl, trivial⟩)
    · have hE := ifN hc1 hE
      refine r_iload_n 3 rfl rfl rfl ?_
      refine r_aload_n (t := some a0) 0 rfl rfl rfl ?_
      obtain ⟨hk2, hE⟩ := ckE hE
      refine r_getR rfl (fl_11_13 rfl) (Or.inr ⟨_, rfl⟩) rfl hk2 ?_
      refine r_iconst 0 rfl ci_0 ?_
      obtain ⟨a_3, ha4, hE⟩ := bnE hE
      obtain ⟨hk5, hE⟩ := ckE hE
      obtain ⟨hi6, hE⟩ := ckE hE
      refine r_iald rfl ha4 hk5 hi6 ?_
      refine r_icmp_ge (tgt := 105) rfl (by decide) (fun hc7 => ?_) (fun hc7 => ?_)
      · have hE := ifP hc7 hE
        first | exact r_sb (Mo_fenceOf_b105_ok g N _ hD _ hself_7 _ hself_36  _ _ _ _ _ _ _ _ _ hE) ⟨rfl, rfl, rfl, rfl, rfl, rfl, trivial⟩ | exact r_sb (Mo_fenceOf_b105_ok g N _ hD _ hself_7 _ hself_36  _ _ _ _ _ _ _ _ _ hE) (by simp only [su1, su2, dr1_rf, dr1_in, dr1_lo, dr2_rf, dr2_in, dr2_lo]; exact ⟨rfl, rfl, rfl, rfl, rfl, rfl, trivial⟩)
      · have hE := ifN hc7 hE
        refine r_aload_n (t := some a0) 0 rfl rfl rfl ?_
        refine r_getR rfl (fl_11_103 rfl) (Or.inr ⟨_, rfl⟩) rfl hk2 ?_
        refine r_iload rfl rfl ?_
        obtain ⟨a_8, ha9, hE⟩ := bnE hE
        obtain ⟨hk10, hE⟩ := ckE hE
        obtain ⟨hi11, hE⟩ := ckE hE
        refine r_iald rfl ha9 hk10 hi11 ?_
        refine r_if_le (tgt := 99) rfl (by decide) (fun hc12 => ?_) (fun hc12 => ?_)
        · have hE := ifP hc12 hE
          first | exact r_sb (Mo_fenceOf_b99_ok g N _ hD _ hself_7 _ hself_36 _ ih  _ _ _ _ _ _ _ _ _ _ hE) ⟨rfl, rfl, rfl, rfl, rfl, rfl, rfl, trivial⟩ | exact r_sb (Mo_fenceOf_b99_ok g N _ hD _ hself_7 _ hself_36 _ ih  _ _ _ _ _ _ _ _ _ _ hE) (by simp only [su1, su2, dr1_rf, dr1_in, dr1_lo, dr2_rf, dr2_in, dr2_lo]; exact ⟨rfl, rfl, rfl, rfl, rfl, rfl, rfl, trivial⟩)
        · have hE := ifN hc12 hE
          refine r_lload rfl rfl ?_
          refine r_aload_n (t := some a0) 0 rfl rfl rfl ?_
          refine r_getR rfl (fl_11_103 rfl) (Or.inr ⟨_, rfl⟩) rfl hk2 ?_
          refine r_iload rfl rfl ?_
          obtain ⟨hi13, hE⟩ := ckE hE
          refine r_iald rfl ha9 hk10 hi13 ?_
          refine r_i2l rfl ?_
          refine r_aload_n (t := some a0) 0 rfl rfl rfl ?_
          refine r_iload_n 3 rfl rfl rfl ?_
          refine r_iload rfl rfl ?_
          refine r_iload rfl rfl ?_
          obtain ⟨v14, h15, hq16, hE⟩ := bdE hE
          refine r_callV1 (rest := [.long (Int32.toInt64 (hI h a_8 (ix x7))), .long x5]) (hc := (Mo_fencedBy_ok g N _ _ _ _ _ _ _ hq16 D2 (by omega))) rfl pm_Mo_fencedBy lw_11_455 im_Mo_fencedBy sl_Mo_fencedBy rfl rfl rfl (rcOK hk2 rfl) (by simp only [List.map_cons, List.map_nil, rf_cat, cat_i, cat_l, List.sum_cons, List.sum_nil]; decide) ?_
          refine r_i2l rfl ?_
          refine r_lmul rfl ?_
          refine r_ladd rfl ?_
          refine r_lstore rfl (by decide) ?_
          first | exact r_sb (Mo_fenceOf_b99_ok g N _ hD _ hself_7 _ hself_36 _ ih  _ _ _ _ _ _ _ _ _ _ hE) ⟨rfl, rfl, rfl, rfl, rfl, rfl, rfl, trivial⟩ | exact r_sb (Mo_fenceOf_b99_ok g N _ hD _ hself_7 _ hself_36 _ ih  _ _ _ _ _ _ _ _ _ _ hE) (by simp only [su1, su2, dr1_rf, dr1_in, dr1_lo, dr2_rf, dr2_in, dr2_lo]; exact ⟨rfl, rfl, rfl, rfl, rfl, rfl, rfl, trivial⟩)
def Mo_fenceOf_b36 (N : Nat) (self_7 : Nat → Int32 → Int32 → Int32 → PH → Option (Int32 × PH)) : Nat → Nat → Int32 → Int32 → Int32 → Int32 → PH → Option (Int32 × PH)
  | 0 => fun _ _ _ _ _ _ => none
  | n + 1 => fun a0 x1 x2 x3 x4 h =>
    if x1 < x4 then
      self_7 a0 x1 x2 (x3 + (-1)) h
    else
      Mo_fenceOf_b48 N self_7 (Mo_fenceOf_b36 N self_7 n) N a0 x1 x2 x3 x4 0 0 h
set_option maxRecDepth 20000 in
theorem Mo_fenceOf_b36_ok (g : GT) (N : Nat) (D : Nat) (hD : 3 ≤ D) (self_7 : Nat → Int32 → Int32 → Int32 → PH → Option (Int32 × PH)) (hself_7 : ∀ (a0 : Nat) (x1 : Int32) (x2 : Int32) (x3 : Int32) (h : PH) (v : Int32) (h' : PH), self_7 a0 x1 x2 x3 h = some (v, h') → Run g pMo_fenceOf D 7 [(0, va_rf (some a0)), (1, .int x1), (2, .int x2), (3, .int x3)] [] h (rI v) h') : ∀ (n : Nat) (a0 : Nat) (x1 : Int32) (x2 : Int32) (x3 : Int32) (x4 : Int32) (h : PH) (v : Int32) (h' : PH), Mo_fenceOf_b36 N self_7 n a0 x1 x2 x3 x4 h = some (v, h') → Run g pMo_fenceOf D 36 [(0, va_rf (some a0)), (1, .int x1), (2, .int x2), (3, .int x3), (4, .int x4)] [] h (rI v) h' := by
  obtain ⟨D2, rfl⟩ : ∃ d, D = d + 1 := ⟨D - 1, by omega⟩
  intro n
  induction n with
  | zero => exact fun _ _ _ _ _ _ _ _ hE => nomatch (show none = some _ from hE)
  | succ n ih =>
    intro a0 x1 x2 x3 x4 h v h' hE
    unfold Mo_fenceOf_b36 at hE
    refine r_iload rfl rfl ?_
    refine r_iload_n 1 rfl rfl rfl ?_
    refine r_icmp_gt (tgt := 158) rfl (by decide) (fun hc1 => ?_) (fun hc1 => ?_)
    · have hE := ifP hc1 hE
      refine r_iinc _ rfl rfl (congrArg _ ci_m1) (by decide) ?_
      refine r_goto (tgt := 7) rfl (by decide) ?_
      first | exact r_sb (hself_7 _ _ _ _ _ _ _ hE) ⟨rfl, rfl, rfl, rfl, trivial⟩ | exact r_sb (hself_7 _ _ _ _ _ _ _ hE) (by simp only [su1, su2, dr1_rf, dr1_in, dr1_lo, dr2_rf, dr2_in, dr2_lo]; exact ⟨rfl, rfl, rfl, rfl, trivial⟩)
    · have hE := ifN hc1 hE
      refine r_lconst 0 rfl cl_0 ?_
      refine r_lstore rfl (by decide) ?_
      refine r_iconst 0 rfl ci_0 ?_
      refine r_istore rfl (by decide) ?_
      first | exact r_sb (Mo_fenceOf_b48_ok g N _ hD _ hself_7 _ ih N _ _ _ _ _ _ _ _ _ _ hE) ⟨rfl, rfl, rfl, rfl, rfl, rfl, rfl, trivial⟩ | exact r_sb (Mo_fenceOf_b48_ok g N _ hD _ hself_7 _ ih N _ _ _ _ _ _ _ _ _ _ hE) (by simp only [su1, su2, dr1_rf, dr1_in, dr1_lo, dr2_rf, dr2_in, dr2_lo]; exact ⟨rfl, rfl, rfl, rfl, rfl, rfl, rfl, trivial⟩)
def Mo_fenceOf_b33 (N : Nat) (self_7 : Nat → Int32 → Int32 → Int32 → PH → Option (Int32 × PH)) (a0 : Nat) (x1 : Int32) (x2 : Int32) (x3 : Int32) (h : PH) : Option (Int32 × PH) :=
  Mo_fenceOf_b36 N self_7 N a0 x1 x2 x3 0 h
set_option maxRecDepth 20000 in
theorem Mo_fenceOf_b33_ok (g : GT) (N : Nat) (D : Nat) (hD : 3 ≤ D) (self_7 : Nat → Int32 → Int32 → Int32 → PH → Option (Int32 × PH)) (hself_7 : ∀ (a0 : Nat) (x1 : Int32) (x2 : Int32) (x3 : Int32) (h : PH) (v : Int32) (h' : PH), self_7 a0 x1 x2 x3 h = some (v, h') → Run g pMo_fenceOf D 7 [(0, va_rf (some a0)), (1, .int x1), (2, .int x2), (3, .int x3)] [] h (rI v) h') : ∀ (a0 : Nat) (x1 : Int32) (x2 : Int32) (x3 : Int32) (h : PH) (v : Int32) (h' : PH), Mo_fenceOf_b33 N self_7 a0 x1 x2 x3 h = some (v, h') → Run g pMo_fenceOf D 33 [(0, va_rf (some a0)), (1, .int x1), (2, .int x2), (3, .int x3)] [] h (rI v) h' := by
  obtain ⟨D2, rfl⟩ : ∃ d, D = d + 1 := ⟨D - 1, by omega⟩
  intro a0 x1 x2 x3 h v h' hE
  unfold Mo_fenceOf_b33 at hE
  refine r_iconst 0 rfl ci_0 ?_
  refine r_istore rfl (by decide) ?_
  first | exact r_sb (Mo_fenceOf_b36_ok g N _ hD _ hself_7 N _ _ _ _ _ _ _ _ hE) ⟨rfl, rfl, rfl, rfl, rfl, trivial⟩ | exact r_sb (Mo_fenceOf_b36_ok g N _ hD _ hself_7 N _ _ _ _ _ _ _ _ hE) (by simp only [su1, su2, dr1_rf, dr1_in, dr1_lo, dr2_rf, dr2_in, dr2_lo]; exact ⟨rfl, rfl, rfl, rfl, rfl, trivial⟩)
def Mo_fenceOf_b7 (N : Nat) : Nat → Nat → Int32 → Int32 → Int32 → PH → Option (Int32 × PH)
  | 0 => fun _ _ _ _ _ => none
  | n + 1 => fun a0 x1 x2 x3 h =>
    ck ((hK h a0).1 = 11) <|
    ((hR h a0 35)).bind fun a_2 =>
    ck ((hK h a_2).1 = 20) <|
    ck (inb 0 (hK h a_2).2 = true) <|
    if x3 < (hI h a_2 (ix 0)) then
      ck (inb 0 (hK h a_2).2 = true) <|
      ((hR h a0 48)).bind fun a_8 =>
      ck ((hK h a_8).1 = 20) <|
      ck (inb ((241 * (hI h a_2 (ix 0))) + x1) (hK h a_8).2 = true) <|
      some ((hI h a_8 (ix ((241 * (hI h a_2 (ix 0))) + x1))), h)
    else
      ((hR h a0 10)).bind fun a_12 =>
      ck ((hK h a_12).1 = 20) <|
      ck (inb 0 (hK h a_12).2 = true) <|
      if (hI h a_12 (ix 0)) ≤ x3 then
        Mo_fenceOf_b33 N (Mo_fenceOf_b7 N n)  a0 x1 x2 x3 h
      else
        bd (Mo_laysChances N a0 x3 x2 h) fun v17 h18 =>
        Mo_fenceOf_b33 N (Mo_fenceOf_b7 N n)  a0 x1 x2 x3 h18
set_option maxRecDepth 20000 in
theorem Mo_fenceOf_b7_ok (g : GT) (N : Nat) (D : Nat) (hD : 3 ≤ D) : ∀ (n : Nat) (a0 : Nat) (x1 : Int32) (x2 : Int32) (x3 : Int32) (h : PH) (v : Int32) (h' : PH), Mo_fenceOf_b7 N n a0 x1 x2 x3 h = some (v, h') → Run g pMo_fenceOf D 7 [(0, va_rf (some a0)), (1, .int x1), (2, .int x2), (3, .int x3)] [] h (rI v) h' := by
  obtain ⟨D2, rfl⟩ : ∃ d, D = d + 1 := ⟨D - 1, by omega⟩
  intro n
  induction n with
  | zero => exact fun _ _ _ _ _ _ _ hE => nomatch (show none = some _ from hE)
  | succ n ih =>
    intro a0 x1 x2 x3 h v h' hE
    unfold Mo_fenceOf_b7 at hE
    refine r_iload_n 3 rfl rfl rfl ?_
    refine r_aload_n (t := some a0) 0 rfl rfl rfl ?_
    obtain ⟨hk1, hE⟩ := ckE hE
    refine r_getR rfl (fl_11_81 rfl) (Or.inr ⟨_, rfl⟩) rfl hk1 ?_
    refine r_iconst 0 rfl ci_0 ?_
    obtain ⟨a_2, ha3, hE⟩ := bnE hE
    obtain ⟨hk4, hE⟩ := ckE hE
    obtain ⟨hi5, hE⟩ := ckE hE
    refine r_iald rfl ha3 hk4 hi5 ?_
    refine r_icmp_lt (tgt := 164) rfl (by decide) (fun hc6 => ?_) (fun hc6 => ?_)
    · have hE := ifP hc6 hE
      refine r_aload_n (t := some a0) 0 rfl rfl rfl ?_
      refine r_getR rfl (fl_11_100 rfl) (Or.inr ⟨_, rfl⟩) rfl hk1 ?_
      refine r_sipush 241 rfl cs_241 ?_
      refine r_aload_n (t := some a0) 0 rfl rfl rfl ?_
      refine r_getR rfl (fl_11_81 rfl) (Or.inr ⟨_, rfl⟩) rfl hk1 ?_
      refine r_iconst 0 rfl ci_0 ?_
      obtain ⟨hi7, hE⟩ := ckE hE
      refine r_iald rfl ha3 hk4 hi7 ?_
      refine r_imul rfl ?_
      refine r_iload_n 1 rfl rfl rfl ?_
      refine r_iadd rfl ?_
      obtain ⟨a_8, ha9, hE⟩ := bnE hE
      obtain ⟨hk10, hE⟩ := ckE hE
      obtain ⟨hi11, hE⟩ := ckE hE
      refine r_iald rfl ha9 hk10 hi11 ?_
      cases hE
      exact r_ret rfl (Or.inl ⟨rfl, _, _, rfl, rfl, rfl, rfl⟩)
    · have hE := ifN hc6 hE
      refine r_iload_n 3 rfl rfl rfl ?_
      refine r_aload_n (t := some a0) 0 rfl rfl rfl ?_
      refine r_getR rfl (fl_11_13 rfl) (Or.inr ⟨_, rfl⟩) rfl hk1 ?_
      refine r_iconst 0 rfl ci_0 ?_
      obtain ⟨a_12, ha13, hE⟩ := bnE hE
      obtain ⟨hk14, hE⟩ := ckE hE
      obtain ⟨hi15, hE⟩ := ckE hE
      refine r_iald rfl ha13 hk14 hi15 ?_
      refine r_icmp_ge (tgt := 33) rfl (by decide) (fun hc16 => ?_) (fun hc16 => ?_)
      · have hE := ifP hc16 hE
        first | exact r_sb (Mo_fenceOf_b33_ok g N _ hD _ ih  _ _ _ _ _ _ _ hE) ⟨rfl, rfl, rfl, rfl, trivial⟩ | exact r_sb (Mo_fenceOf_b33_ok g N _ hD _ ih  _ _ _ _ _ _ _ hE) (by simp only [su1, su2, dr1_rf, dr1_in, dr1_lo, dr2_rf, dr2_in, dr2_lo]; exact ⟨rfl, rfl, rfl, rfl, trivial⟩)
      · have hE := ifN hc16 hE
        refine r_aload_n (t := some a0) 0 rfl rfl rfl ?_
        refine r_iload_n 3 rfl rfl rfl ?_
        refine r_iload_n 2 rfl rfl rfl ?_
        obtain ⟨v17, h18, hq19, hE⟩ := bdE hE
        refine r_callV0 (rest := []) (hc := (Mo_laysChances_ok g N _ _ _ _ _ _ hq19 D2 (by omega))) rfl pm_Mo_laysChances lw_11_451 im_Mo_laysChances sl_Mo_laysChances rfl rfl rfl (rcOK hk1 rfl) (by decide) ?_
        first | exact r_sb (Mo_fenceOf_b33_ok g N _ hD _ ih  _ _ _ _ _ _ _ hE) ⟨rfl, rfl, rfl, rfl, trivial⟩ | exact r_sb (Mo_fenceOf_b33_ok g N _ hD _ ih  _ _ _ _ _ _ _ hE) (by simp only [su1, su2, dr1_rf, dr1_in, dr1_lo, dr2_rf, dr2_in, dr2_lo]; exact ⟨rfl, rfl, rfl, rfl, trivial⟩)
def Mo_fenceOf (N : Nat) (a0 : Nat) (x1 : Int32) (x2 : Int32) (h : PH) : Option (Int32 × PH) :=
  ck ((hK h a0).1 = 11) <|
  ((hR h a0 10)).bind fun a_2 =>
  ck ((hK h a_2).1 = 20) <|
  ck (inb 0 (hK h a_2).2 = true) <|
  Mo_fenceOf_b7 N N a0 x1 x2 (hI h a_2 (ix 0)) h
set_option maxRecDepth 20000 in
theorem Mo_fenceOf_ok (g : GT) (N : Nat) (a0 : Nat) (x1 : Int32) (x2 : Int32) (h : PH) (v : Int32) (h' : PH) (hE : Mo_fenceOf N a0 x1 x2 h = some (v, h')) (D : Nat) (hD : 3 ≤ D) : Calls g D pMo_fenceOf [va_rf (some a0), .int x1, .int x2] h (oI v) h' := by
  refine Calls.of cok_Mo_fenceOf ht_Mo_fenceOf pl_Mo_fenceOf (fun ad => by rw [lg_len, sL_cat]; simp only [List.map_cons, List.map_nil, rf_cat, cat_i, cat_l, List.sum_cons, List.sum_nil]; decide) ?_
  rw [show lv_args 0 [va_rf (some a0), .int x1, .int x2] = [(0, va_rf (some a0)), (1, .int x1), (2, .int x2)] from (by simp only [lv_args, rf_cat, cat_i, cat_l]; try rfl)]
  obtain ⟨D2, rfl⟩ : ∃ d, D = d + 1 := ⟨D - 1, by omega⟩
  unfold Mo_fenceOf at hE
  refine r_aload_n (t := some a0) 0 rfl rfl rfl ?_
  obtain ⟨hk1, hE⟩ := ckE hE
  refine r_getR rfl (fl_11_13 rfl) (Or.inr ⟨_, rfl⟩) rfl hk1 ?_
  refine r_iconst 0 rfl ci_0 ?_
  obtain ⟨a_2, ha3, hE⟩ := bnE hE
  obtain ⟨hk4, hE⟩ := ckE hE
  obtain ⟨hi5, hE⟩ := ckE hE
  refine r_iald rfl ha3 hk4 hi5 ?_
  refine r_istore_n 3 rfl rfl (by decide) ?_
  first | exact r_sb (Mo_fenceOf_b7_ok g N _ hD  N _ _ _ _ _ _ _ hE) ⟨rfl, rfl, rfl, rfl, trivial⟩ | exact r_sb (Mo_fenceOf_b7_ok g N _ hD  N _ _ _ _ _ _ _ hE) (by simp only [su1, su2, dr1_rf, dr1_in, dr1_lo, dr2_rf, dr2_in, dr2_lo]; exact ⟨rfl, rfl, rfl, rfl, trivial⟩)
def Mo_fence_b23 (N : Nat) (s0 : Nat) (s1 : Int32) (a0 : Nat) (x1 : Int32) (h : PH) : Option (Int32 × PH) :=
  ck ((hK h s0).1 = 11) <|
  lt0 (wI h s0 0 s1) fun h2 =>
  ck ((hK h2 a0).1 = 11) <|
  if (hI h2 a0 0) = 1 then
    some (0, h2)
  else
    ((hR h2 a0 35)).bind fun a_6 =>
    ck ((hK h2 a_6).1 = 20) <|
    ck (inb 1 (hK h2 a_6).2 = true) <|
    bd (Mo_fenceOf N a0 (hI h2 a_6 (ix 1)) 0 h2) fun v10 h11 =>
    ck ((hK h11 a0).1 = 11) <|
    bd (Mo_fenceOf N a0 x1 0 h11) fun v14 h15 =>
    ck ((hK h15 a0).1 = 11) <|
    ((hR h15 a0 35)).bind fun a_18 =>
    ck ((hK h15 a_18).1 = 20) <|
    ck (inb 1 (hK h15 a_18).2 = true) <|
    bd (Mo_fenceOf N a0 ((hI h15 a_18 (ix 1)) + x1) 1 h15) fun v22 h23 =>
    some (((v22 - v10) - v14), h23)
set_option maxRecDepth 20000 in
theorem Mo_fence_b23_ok (g : GT) (N : Nat) (D : Nat) (hD : 4 ≤ D) : ∀ (s0 : Nat) (s1 : Int32) (a0 : Nat) (x1 : Int32) (h : PH) (v : Int32) (h' : PH), Mo_fence_b23 N s0 s1 a0 x1 h = some (v, h') → Run g pMo_fence D 23 [(0, va_rf (some a0)), (1, .int x1)] [.int s1, va_rf (some s0)] h (rI v) h' := by
  obtain ⟨D2, rfl⟩ : ∃ d, D = d + 1 := ⟨D - 1, by omega⟩
  intro s0 s1 a0 x1 h v h' hE
  unfold Mo_fence_b23 at hE
  obtain ⟨hk1, hE⟩ := ckE hE
  obtain ⟨h2, he3, hE⟩ := ltE hE
  refine r_putI rfl (fl_11_119 rfl) finF rfl hk1 he3 ?_
  refine r_aload_n (t := some a0) 0 rfl rfl rfl ?_
  obtain ⟨hk4, hE⟩ := ckE hE
  refine r_getI rfl (fl_11_119 rfl) (Or.inl rfl) rfl hk4 ?_
  refine r_iconst 1 rfl ci_1 ?_
  refine r_icmp_ne (tgt := 36) rfl (by decide) (fun hc5 => ?_) (fun hc5 => ?_)
  · have hE := ifP hc5 hE
    refine r_iconst 0 rfl ci_0 ?_
    cases hE
    exact r_ret rfl (Or.inl ⟨rfl, _, _, rfl, rfl, rfl, rfl⟩)
  · have hE := ifN hc5 hE
    refine r_aload_n (t := some a0) 0 rfl rfl rfl ?_
    refine r_aload_n (t := some a0) 0 rfl rfl rfl ?_
    refine r_getR rfl (fl_11_81 rfl) (Or.inr ⟨_, rfl⟩) rfl hk4 ?_
    refine r_iconst 1 rfl ci_1 ?_
    obtain ⟨a_6, ha7, hE⟩ := bnE hE
    obtain ⟨hk8, hE⟩ := ckE hE
    obtain ⟨hi9, hE⟩ := ckE hE
    refine r_iald rfl ha7 hk8 hi9 ?_
    refine r_iconst 0 rfl ci_0 ?_
    obtain ⟨v10, h11, hq12, hE⟩ := bdE hE
    refine r_callV1 (rest := []) (hc := (Mo_fenceOf_ok g N _ _ _ _ _ _ hq12 D2 (by omega))) rfl pm_Mo_fenceOf lw_11_460 im_Mo_fenceOf sl_Mo_fenceOf rfl rfl rfl (rcOK hk4 rfl) (by decide) ?_
    refine r_istore_n 2 rfl rfl (by decide) ?_
    refine r_aload_n (t := some a0) 0 rfl rfl rfl ?_
    refine r_iload_n 1 rfl rfl rfl ?_
    refine r_iconst 0 rfl ci_0 ?_
    obtain ⟨hk13, hE⟩ := ckE hE
    obtain ⟨v14, h15, hq16, hE⟩ := bdE hE
    refine r_callV1 (rest := []) (hc := (Mo_fenceOf_ok g N _ _ _ _ _ _ hq16 D2 (by omega))) rfl pm_Mo_fenceOf lw_11_460 im_Mo_fenceOf sl_Mo_fenceOf rfl rfl rfl (rcOK hk13 rfl) (by decide) ?_
    refine r_istore_n 3 rfl rfl (by decide) ?_
    refine r_aload_n (t := some a0) 0 rfl rfl rfl ?_
    refine r_aload_n (t := some a0) 0 rfl rfl rfl ?_
    obtain ⟨hk17, hE⟩ := ckE hE
    refine r_getR rfl (fl_11_81 rfl) (Or.inr ⟨_, rfl⟩) rfl hk17 ?_
    refine r_iconst 1 rfl ci_1 ?_
    obtain ⟨a_18, ha19, hE⟩ := bnE hE
    obtain ⟨hk20, hE⟩ := ckE hE
    obtain ⟨hi21, hE⟩ := ckE hE
    refine r_iald rfl ha19 hk20 hi21 ?_
    refine r_iload_n 1 rfl rfl rfl ?_
    refine r_iadd rfl ?_
    refine r_iconst 1 rfl ci_1 ?_
    obtain ⟨v22, h23, hq24, hE⟩ := bdE hE
    refine r_callV1 (rest := []) (hc := (Mo_fenceOf_ok g N _ _ _ _ _ _ hq24 D2 (by omega))) rfl pm_Mo_fenceOf lw_11_460 im_Mo_fenceOf sl_Mo_fenceOf rfl rfl rfl (rcOK hk17 rfl) (by decide) ?_
    refine r_iload_n 2 rfl rfl rfl ?_
    refine r_isub rfl ?_
    refine r_iload_n 3 rfl rfl rfl ?_
    refine r_isub rfl ?_
    cases hE
    exact r_ret rfl (Or.inl ⟨rfl, _, _, rfl, rfl, rfl, rfl⟩)
def Mo_fence_b22 (N : Nat) (s0 : Nat) (a0 : Nat) (x1 : Int32) (h : PH) : Option (Int32 × PH) :=
  Mo_fence_b23 N  s0 1 a0 x1 h
set_option maxRecDepth 20000 in
theorem Mo_fence_b22_ok (g : GT) (N : Nat) (D : Nat) (hD : 4 ≤ D) : ∀ (s0 : Nat) (a0 : Nat) (x1 : Int32) (h : PH) (v : Int32) (h' : PH), Mo_fence_b22 N s0 a0 x1 h = some (v, h') → Run g pMo_fence D 22 [(0, va_rf (some a0)), (1, .int x1)] [va_rf (some s0)] h (rI v) h' := by
  obtain ⟨D2, rfl⟩ : ∃ d, D = d + 1 := ⟨D - 1, by omega⟩
  intro s0 a0 x1 h v h' hE
  unfold Mo_fence_b22 at hE
  refine r_iconst 1 rfl ci_1 ?_
  first | exact r_sb (Mo_fence_b23_ok g N _ hD   _ _ _ _ _ _ _ hE) ⟨rfl, rfl, trivial⟩ | exact r_sb (Mo_fence_b23_ok g N _ hD   _ _ _ _ _ _ _ hE) (by simp only [su1, su2, dr1_rf, dr1_in, dr1_lo, dr2_rf, dr2_in, dr2_lo]; exact ⟨rfl, rfl, trivial⟩)
def Mo_fence (N : Nat) (a0 : Nat) (x1 : Int32) (h : PH) : Option (Int32 × PH) :=
  ck ((hK h a0).1 = 11) <|
  bd (Mo_isOn N a0 h) fun v2 h3 =>
  if (bI v2) = 0 then
    Mo_fence_b22 N  a0 a0 x1 h3
  else
    bd (Mo_within N x1 0 120 h3) fun v6 h7 =>
    if (bI v6) = 0 then
      Mo_fence_b22 N  a0 a0 x1 h7
    else
      Mo_fence_b23 N  a0 0 a0 x1 h7
set_option maxRecDepth 20000 in
theorem Mo_fence_ok (g : GT) (N : Nat) (a0 : Nat) (x1 : Int32) (h : PH) (v : Int32) (h' : PH) (hE : Mo_fence N a0 x1 h = some (v, h')) (D : Nat) (hD : 4 ≤ D) : Calls g D pMo_fence [va_rf (some a0), .int x1] h (oI v) h' := by
  refine Calls.of cok_Mo_fence ht_Mo_fence pl_Mo_fence (fun ad => by rw [lg_len, sL_cat]; simp only [List.map_cons, List.map_nil, rf_cat, cat_i, cat_l, List.sum_cons, List.sum_nil]; decide) ?_
  rw [show lv_args 0 [va_rf (some a0), .int x1] = [(0, va_rf (some a0)), (1, .int x1)] from (by simp only [lv_args, rf_cat, cat_i, cat_l]; try rfl)]
  obtain ⟨D2, rfl⟩ : ∃ d, D = d + 1 := ⟨D - 1, by omega⟩
  unfold Mo_fence at hE
  refine r_aload_n (t := some a0) 0 rfl rfl rfl ?_
  refine r_aload_n (t := some a0) 0 rfl rfl rfl ?_
  obtain ⟨hk1, hE⟩ := ckE hE
  obtain ⟨v2, h3, hq4, hE⟩ := bdE hE
  refine r_callV1 (rest := [va_rf (some a0)]) (hc := (Mo_isOn_ok g N _ _ _ _ hq4 D2 (by omega))) rfl pm_Mo_isOn lw_11_416 im_Mo_isOn sl_Mo_isOn rfl rfl rfl (rcOK hk1 rfl) (by simp only [List.map_cons, List.map_nil, rf_cat, cat_i, cat_l, List.sum_cons, List.sum_nil]; decide) ?_
  refine r_if_eq (tgt := 22) rfl (by decide) (fun hc5 => ?_) (fun hc5 => ?_)
  · have hE := ifP hc5 hE
    first | exact r_sb (Mo_fence_b22_ok g N _ hD   _ _ _ _ _ _ hE) ⟨rfl, rfl, trivial⟩ | exact r_sb (Mo_fence_b22_ok g N _ hD   _ _ _ _ _ _ hE) (by simp only [su1, su2, dr1_rf, dr1_in, dr1_lo, dr2_rf, dr2_in, dr2_lo]; exact ⟨rfl, rfl, trivial⟩)
  · have hE := ifN hc5 hE
    refine r_iload_n 1 rfl rfl rfl ?_
    refine r_iconst 0 rfl ci_0 ?_
    refine r_bipush 120 rfl cb_120 ?_
    obtain ⟨v6, h7, hq8, hE⟩ := bdE hE
    refine r_callS1 (rest := [va_rf (some a0)]) (hc := (Mo_within_ok g N _ _ _ _ _ _ hq8 D2 (by omega))) rfl pm_Mo_within lw_11_247 st_Mo_within rfl rfl (by simp only [List.map_cons, List.map_nil, rf_cat, cat_i, cat_l, List.sum_cons, List.sum_nil]; decide) ?_
    refine r_if_eq (tgt := 22) rfl (by decide) (fun hc9 => ?_) (fun hc9 => ?_)
    · have hE := ifP hc9 hE
      first | exact r_sb (Mo_fence_b22_ok g N _ hD   _ _ _ _ _ _ hE) ⟨rfl, rfl, trivial⟩ | exact r_sb (Mo_fence_b22_ok g N _ hD   _ _ _ _ _ _ hE) (by simp only [su1, su2, dr1_rf, dr1_in, dr1_lo, dr2_rf, dr2_in, dr2_lo]; exact ⟨rfl, rfl, trivial⟩)
    · have hE := ifN hc9 hE
      refine r_iconst 0 rfl ci_0 ?_
      refine r_goto (tgt := 23) rfl (by decide) ?_
      first | exact r_sb (Mo_fence_b23_ok g N _ hD   _ _ _ _ _ _ _ hE) ⟨rfl, rfl, trivial⟩ | exact r_sb (Mo_fence_b23_ok g N _ hD   _ _ _ _ _ _ _ hE) (by simp only [su1, su2, dr1_rf, dr1_in, dr1_lo, dr2_rf, dr2_in, dr2_lo]; exact ⟨rfl, rfl, trivial⟩)
def Mo_judgesLine_b99 (N : Nat) (a0 : Nat) (x3 : Int32) (h : PH) : Option (Bool × PH) :=
  ck ((hK h a0).1 = 11) <|
  bd (Mo_handsOut N a0 x3 h) fun v2 h3 =>
  some (true, h3)
set_option maxRecDepth 20000 in
theorem Mo_judgesLine_b99_ok (g : GT) (N : Nat) (D : Nat) (hD : 4 ≤ D) : ∀ (a0 : Nat) (x3 : Int32) (h : PH) (v : Bool) (h' : PH), Mo_judgesLine_b99 N a0 x3 h = some (v, h') → Run g pMo_judgesLine D 99 [(0, va_rf (some a0)), (3, .int x3)] [] h (rZ v) h' := by
  obtain ⟨D2, rfl⟩ : ∃ d, D = d + 1 := ⟨D - 1, by omega⟩
  intro a0 x3 h v h' hE
  unfold Mo_judgesLine_b99 at hE
  refine r_aload_n (t := some a0) 0 rfl rfl rfl ?_
  refine r_iload_n 3 rfl rfl rfl ?_
  obtain ⟨hk1, hE⟩ := ckE hE
  obtain ⟨v2, h3, hq4, hE⟩ := bdE hE
  refine r_callV1 (rest := []) (hc := (Mo_handsOut_ok g N _ _ _ _ _ hq4 D2 (by omega))) rfl pm_Mo_handsOut lw_11_365 im_Mo_handsOut sl_Mo_handsOut rfl rfl rfl (rcOK hk1 rfl) (by decide) ?_
  refine r_pop rfl rfl ?_
  refine r_goto (tgt := 142) rfl (by decide) ?_
  refine r_iconst 1 rfl ci_1 ?_
  cases hE
  exact r_ret rfl (Or.inl ⟨rfl, _, _, rfl, rfl, rfl, rfl⟩)
def Mo_judgesLine (N : Nat) (a0 : Nat) (x1 : Int32) (h : PH) : Option (Bool × PH) :=
  ck ((hK h a0).1 = 11) <|
  ((hR h a0 33)).bind fun a_2 =>
  ck ((hK h a_2).1 = 20) <|
  ck (inb x1 (hK h a_2).2 = true) <|
  ((hR h a0 34)).bind fun a_6 =>
  ck ((hK h a_6).1 = 20) <|
  ck (inb x1 (hK h a_6).2 = true) <|
  if (hI h a_2 (ix x1)) = 0 then
    bd (Mo_canCome N a0 (hI h a_6 (ix x1)) h) fun v11 h12 =>
    if (bI v11) = 0 then
      some (false, h12)
    else
      ck ((hK h12 a0).1 = 11) <|
      bd (Mo_comes N a0 (hI h a_6 (ix x1)) h12) fun v16 h17 =>
      some (true, h17)
  else
    if (hI h a_2 (ix x1)) = 1 then
      bd (Mo_canGive N a0 h) fun v20 h21 =>
      if (bI v20) = 0 then
        some (false, h21)
      else
        ck ((hK h21 a0).1 = 11) <|
        ((hR h21 a0 35)).bind fun a_25 =>
        ck ((hK h21 a_25).1 = 20) <|
        ck (inb 0 (hK h21 a_25).2 = true) <|
        ck (inb 3 (hK h21 a_25).2 = true) <|
        ck (inb 1 (hK h21 a_25).2 = true) <|
        ck (inb 2 (hK h21 a_25).2 = true) <|
        bd (Mo_greatest N a0 (hI h21 a_25 (ix 0)) (hI h21 a_25 (ix 3)) (hI h21 a_25 (ix 1)) (hI h21 a_25 (ix 2)) h21) fun v32 h33 =>
        ck ((hK h33 a0).1 = 11) <|
        if (hI h a_6 (ix x1)) = (hI h33 a0 47) then
          Mo_judgesLine_b99 N  a0 (hI h a_6 (ix x1)) h33
        else
          if 0 ≤ (hI h33 a0 50) then
            Mo_judgesLine_b99 N  a0 (hI h a_6 (ix x1)) h33
          else
            lt0 (wI h33 a0 50 x1) fun h38 =>
            Mo_judgesLine_b99 N  a0 (hI h a_6 (ix x1)) h38
    else
      if (hI h a_2 (ix x1)) = 2 then
        bd (Mo_isOver N a0 h) fun v41 h42 =>
        if (bI v41) = 0 then
          ck ((hK h42 a0).1 = 11) <|
          bd (Mo_passes N a0 h42) fun v46 h47 =>
          some (true, h47)
        else
          some (false, h42)
      else
        bd (Mo_canClose N a0 h) fun v49 h50 =>
        if (bI v49) = 0 then
          some (false, h50)
        else
          ck ((hK h50 a0).1 = 11) <|
          bd (Mo_shuts N a0 h50) fun v54 h55 =>
          some (true, h55)
set_option maxRecDepth 20000 in
theorem Mo_judgesLine_ok (g : GT) (N : Nat) (a0 : Nat) (x1 : Int32) (h : PH) (v : Bool) (h' : PH) (hE : Mo_judgesLine N a0 x1 h = some (v, h')) (D : Nat) (hD : 4 ≤ D) : Calls g D pMo_judgesLine [va_rf (some a0), .int x1] h (oZ v) h' := by
  refine Calls.of cok_Mo_judgesLine ht_Mo_judgesLine pl_Mo_judgesLine (fun ad => by rw [lg_len, sL_cat]; simp only [List.map_cons, List.map_nil, rf_cat, cat_i, cat_l, List.sum_cons, List.sum_nil]; decide) ?_
  rw [show lv_args 0 [va_rf (some a0), .int x1] = [(0, va_rf (some a0)), (1, .int x1)] from (by simp only [lv_args, rf_cat, cat_i, cat_l]; try rfl)]
  obtain ⟨D2, rfl⟩ : ∃ d, D = d + 1 := ⟨D - 1, by omega⟩
  unfold Mo_judgesLine at hE
  refine r_aload_n (t := some a0) 0 rfl rfl rfl ?_
  obtain ⟨hk1, hE⟩ := ckE hE
  refine r_getR rfl (fl_11_75 rfl) (Or.inr ⟨_, rfl⟩) rfl hk1 ?_
  refine r_iload_n 1 rfl rfl rfl ?_
  obtain ⟨a_2, ha3, hE⟩ := bnE hE
  obtain ⟨hk4, hE⟩ := ckE hE
  obtain ⟨hi5, hE⟩ := ckE hE
  refine r_iald rfl ha3 hk4 hi5 ?_
  refine r_istore_n 2 rfl rfl (by decide) ?_
  refine r_aload_n (t := some a0) 0 rfl rfl rfl ?_
  refine r_getR rfl (fl_11_78 rfl) (Or.inr ⟨_, rfl⟩) rfl hk1 ?_
  refine r_iload_n 1 rfl rfl rfl ?_
  obtain ⟨a_6, ha7, hE⟩ := bnE hE
  obtain ⟨hk8, hE⟩ := ckE hE
  obtain ⟨hi9, hE⟩ := ckE hE
  refine r_iald rfl ha7 hk8 hi9 ?_
  refine r_istore_n 3 rfl rfl (by decide) ?_
  refine r_iload_n 2 rfl rfl rfl ?_
  refine r_if_ne (tgt := 36) rfl (by decide) (fun hc10 => ?_) (fun hc10 => ?_)
  · have hE := ifP hc10 hE
    refine r_aload_n (t := some a0) 0 rfl rfl rfl ?_
    refine r_iload_n 3 rfl rfl rfl ?_
    obtain ⟨v11, h12, hq13, hE⟩ := bdE hE
    refine r_callV1 (rest := []) (hc := (Mo_canCome_ok g N _ _ _ _ _ hq13 D2 (by omega))) rfl pm_Mo_canCome lw_11_368 im_Mo_canCome sl_Mo_canCome rfl rfl rfl (rcOK hk1 rfl) (by decide) ?_
    refine r_if_ne (tgt := 28) rfl (by decide) (fun hc14 => ?_) (fun hc14 => ?_)
    · have hE := ifP hc14 hE
      refine r_iconst 0 rfl ci_0 ?_
      cases hE
      exact r_ret rfl (Or.inl ⟨rfl, _, _, rfl, rfl, rfl, rfl⟩)
    · have hE := ifN hc14 hE
      refine r_aload_n (t := some a0) 0 rfl rfl rfl ?_
      refine r_iload_n 3 rfl rfl rfl ?_
      obtain ⟨hk15, hE⟩ := ckE hE
      obtain ⟨v16, h17, hq18, hE⟩ := bdE hE
      refine r_callV0 (rest := []) (hc := (Mo_comes_ok g N _ _ _ _ _ hq18 D2 (by omega))) rfl pm_Mo_comes lw_11_374 im_Mo_comes sl_Mo_comes rfl rfl rfl (rcOK hk15 rfl) (by decide) ?_
      refine r_goto (tgt := 142) rfl (by decide) ?_
      refine r_iconst 1 rfl ci_1 ?_
      cases hE
      exact r_ret rfl (Or.inl ⟨rfl, _, _, rfl, rfl, rfl, rfl⟩)
  · have hE := ifN hc10 hE
    refine r_iload_n 2 rfl rfl rfl ?_
    refine r_iconst 1 rfl ci_1 ?_
    refine r_icmp_ne (tgt := 108) rfl (by decide) (fun hc19 => ?_) (fun hc19 => ?_)
    · have hE := ifP hc19 hE
      refine r_aload_n (t := some a0) 0 rfl rfl rfl ?_
      obtain ⟨v20, h21, hq22, hE⟩ := bdE hE
      refine r_callV1 (rest := []) (hc := (Mo_canGive_ok g N _ _ _ _ hq22 D2 (by omega))) rfl pm_Mo_canGive lw_11_362 im_Mo_canGive sl_Mo_canGive rfl rfl rfl (rcOK hk1 rfl) (by decide) ?_
      refine r_if_ne (tgt := 50) rfl (by decide) (fun hc23 => ?_) (fun hc23 => ?_)
      · have hE := ifP hc23 hE
        refine r_iconst 0 rfl ci_0 ?_
        cases hE
        exact r_ret rfl (Or.inl ⟨rfl, _, _, rfl, rfl, rfl, rfl⟩)
      · have hE := ifN hc23 hE
        refine r_aload_n (t := some a0) 0 rfl rfl rfl ?_
        refine r_aload_n (t := some a0) 0 rfl rfl rfl ?_
        obtain ⟨hk24, hE⟩ := ckE hE
        refine r_getR rfl (fl_11_81 rfl) (Or.inr ⟨_, rfl⟩) rfl hk24 ?_
        refine r_iconst 0 rfl ci_0 ?_
        obtain ⟨a_25, ha26, hE⟩ := bnE hE
        obtain ⟨hk27, hE⟩ := ckE hE
        obtain ⟨hi28, hE⟩ := ckE hE
        refine r_iald rfl ha26 hk27 hi28 ?_
        refine r_aload_n (t := some a0) 0 rfl rfl rfl ?_
        refine r_getR rfl (fl_11_81 rfl) (Or.inr ⟨_, rfl⟩) rfl hk24 ?_
        refine r_iconst 3 rfl ci_3 ?_
        obtain ⟨hi29, hE⟩ := ckE hE
        refine r_iald rfl ha26 hk27 hi29 ?_
        refine r_aload_n (t := some a0) 0 rfl rfl rfl ?_
        refine r_getR rfl (fl_11_81 rfl) (Or.inr ⟨_, rfl⟩) rfl hk24 ?_
        refine r_iconst 1 rfl ci_1 ?_
        obtain ⟨hi30, hE⟩ := ckE hE
        refine r_iald rfl ha26 hk27 hi30 ?_
        refine r_aload_n (t := some a0) 0 rfl rfl rfl ?_
        refine r_getR rfl (fl_11_81 rfl) (Or.inr ⟨_, rfl⟩) rfl hk24 ?_
        refine r_iconst 2 rfl ci_2 ?_
        obtain ⟨hi31, hE⟩ := ckE hE
        refine r_iald rfl ha26 hk27 hi31 ?_
        obtain ⟨v32, h33, hq34, hE⟩ := bdE hE
        refine r_callV1 (rest := []) (hc := (Mo_greatest_ok g N _ _ _ _ _ _ _ _ hq34 D2 (by omega))) rfl pm_Mo_greatest lw_11_400 im_Mo_greatest sl_Mo_greatest rfl rfl rfl (rcOK hk24 rfl) (by decide) ?_
        refine r_pop rfl rfl ?_
        refine r_iload_n 3 rfl rfl rfl ?_
        refine r_aload_n (t := some a0) 0 rfl rfl rfl ?_
        obtain ⟨hk35, hE⟩ := ckE hE
        refine r_getI rfl (fl_11_390 rfl) (Or.inl rfl) rfl hk35 ?_
        refine r_icmp_eq (tgt := 99) rfl (by decide) (fun hc36 => ?_) (fun hc36 => ?_)
        · have hE := ifP hc36 hE
          first | exact r_sb (Mo_judgesLine_b99_ok g N _ hD   _ _ _ _ _ hE) ⟨rfl, rfl, trivial⟩ | exact r_sb (Mo_judgesLine_b99_ok g N _ hD   _ _ _ _ _ hE) (by simp only [su1, su2, dr1_rf, dr1_in, dr1_lo, dr2_rf, dr2_in, dr2_lo]; exact ⟨rfl, rfl, trivial⟩)
        · have hE := ifN hc36 hE
          refine r_aload_n (t := some a0) 0 rfl rfl rfl ?_
          refine r_getI rfl (fl_11_464 rfl) (Or.inl rfl) rfl hk35 ?_
          refine r_if_ge (tgt := 99) rfl (by decide) (fun hc37 => ?_) (fun hc37 => ?_)
          · have hE := ifP hc37 hE
            first | exact r_sb (Mo_judgesLine_b99_ok g N _ hD   _ _ _ _ _ hE) ⟨rfl, rfl, trivial⟩ | exact r_sb (Mo_judgesLine_b99_ok g N _ hD   _ _ _ _ _ hE) (by simp only [su1, su2, dr1_rf, dr1_in, dr1_lo, dr2_rf, dr2_in, dr2_lo]; exact ⟨rfl, rfl, trivial⟩)
          · have hE := ifN hc37 hE
            refine r_aload_n (t := some a0) 0 rfl rfl rfl ?_
            refine r_iload_n 1 rfl rfl rfl ?_
            obtain ⟨h38, he39, hE⟩ := ltE hE
            refine r_putI rfl (fl_11_464 rfl) finF rfl hk35 he39 ?_
            first | exact r_sb (Mo_judgesLine_b99_ok g N _ hD   _ _ _ _ _ hE) ⟨rfl, rfl, trivial⟩ | exact r_sb (Mo_judgesLine_b99_ok g N _ hD   _ _ _ _ _ hE) (by simp only [su1, su2, dr1_rf, dr1_in, dr1_lo, dr2_rf, dr2_in, dr2_lo]; exact ⟨rfl, rfl, trivial⟩)
    · have hE := ifN hc19 hE
      refine r_iload_n 2 rfl rfl rfl ?_
      refine r_iconst 2 rfl ci_2 ?_
      refine r_icmp_ne (tgt := 129) rfl (by decide) (fun hc40 => ?_) (fun hc40 => ?_)
      · have hE := ifP hc40 hE
        refine r_aload_n (t := some a0) 0 rfl rfl rfl ?_
        obtain ⟨v41, h42, hq43, hE⟩ := bdE hE
        refine r_callV1 (rest := []) (hc := (Mo_isOver_ok g N _ _ _ _ hq43 D2 (by omega))) rfl pm_Mo_isOver lw_11_344 im_Mo_isOver sl_Mo_isOver rfl rfl rfl (rcOK hk1 rfl) (by decide) ?_
        refine r_if_eq (tgt := 122) rfl (by decide) (fun hc44 => ?_) (fun hc44 => ?_)
        · have hE := ifP hc44 hE
          refine r_aload_n (t := some a0) 0 rfl rfl rfl ?_
          obtain ⟨hk45, hE⟩ := ckE hE
          obtain ⟨v46, h47, hq48, hE⟩ := bdE hE
          refine r_callV0 (rest := []) (hc := (Mo_passes_ok g N _ _ _ _ hq48 D2 (by omega))) rfl pm_Mo_passes lw_11_377 im_Mo_passes sl_Mo_passes rfl rfl rfl (rcOK hk45 rfl) (by decide) ?_
          refine r_goto (tgt := 142) rfl (by decide) ?_
          refine r_iconst 1 rfl ci_1 ?_
          cases hE
          exact r_ret rfl (Or.inl ⟨rfl, _, _, rfl, rfl, rfl, rfl⟩)
        · have hE := ifN hc44 hE
          refine r_iconst 0 rfl ci_0 ?_
          cases hE
          exact r_ret rfl (Or.inl ⟨rfl, _, _, rfl, rfl, rfl, rfl⟩)
      · have hE := ifN hc40 hE
        refine r_aload_n (t := some a0) 0 rfl rfl rfl ?_
        obtain ⟨v49, h50, hq51, hE⟩ := bdE hE
        refine r_callV1 (rest := []) (hc := (Mo_canClose_ok g N _ _ _ _ hq51 D2 (by omega))) rfl pm_Mo_canClose lw_11_380 im_Mo_canClose sl_Mo_canClose rfl rfl rfl (rcOK hk1 rfl) (by decide) ?_
        refine r_if_ne (tgt := 138) rfl (by decide) (fun hc52 => ?_) (fun hc52 => ?_)
        · have hE := ifP hc52 hE
          refine r_iconst 0 rfl ci_0 ?_
          cases hE
          exact r_ret rfl (Or.inl ⟨rfl, _, _, rfl, rfl, rfl, rfl⟩)
        · have hE := ifN hc52 hE
          refine r_aload_n (t := some a0) 0 rfl rfl rfl ?_
          obtain ⟨hk53, hE⟩ := ckE hE
          obtain ⟨v54, h55, hq56, hE⟩ := bdE hE
          refine r_callV0 (rest := []) (hc := (Mo_shuts_ok g N _ _ _ _ hq56 D2 (by omega))) rfl pm_Mo_shuts lw_11_383 im_Mo_shuts sl_Mo_shuts rfl rfl rfl (rcOK hk53 rfl) (by decide) ?_
          refine r_iconst 1 rfl ci_1 ?_
          cases hE
          exact r_ret rfl (Or.inl ⟨rfl, _, _, rfl, rfl, rfl, rfl⟩)
def Mo_judged_b84 (N : Nat) (self_60 : Nat → Int32 → Int32 → Int32 → PH → Option (Int32 × PH)) (a0 : Nat) (x1 : Int32) (x2 : Int32) (x3 : Int32) (h : PH) : Option (Int32 × PH) :=
  self_60 a0 x1 x2 (x3 + 1) h
set_option maxRecDepth 20000 in
theorem Mo_judged_b84_ok (g : GT) (N : Nat) (D : Nat) (hD : 5 ≤ D) (self_60 : Nat → Int32 → Int32 → Int32 → PH → Option (Int32 × PH)) (hself_60 : ∀ (a0 : Nat) (x1 : Int32) (x2 : Int32) (x3 : Int32) (h : PH) (v : Int32) (h' : PH), self_60 a0 x1 x2 x3 h = some (v, h') → Run g pMo_judged D 60 [(0, va_rf (some a0)), (1, .int x1), (2, .int x2), (3, .int x3)] [] h (rI v) h') : ∀ (a0 : Nat) (x1 : Int32) (x2 : Int32) (x3 : Int32) (h : PH) (v : Int32) (h' : PH), Mo_judged_b84 N self_60 a0 x1 x2 x3 h = some (v, h') → Run g pMo_judged D 84 [(0, va_rf (some a0)), (1, .int x1), (2, .int x2), (3, .int x3)] [] h (rI v) h' := by
  obtain ⟨D2, rfl⟩ : ∃ d, D = d + 1 := ⟨D - 1, by omega⟩
  intro a0 x1 x2 x3 h v h' hE
  unfold Mo_judged_b84 at hE
  refine r_iinc _ rfl rfl (congrArg _ ci_1) (by decide) ?_
  refine r_goto (tgt := 60) rfl (by decide) ?_
  first | exact r_sb (hself_60 _ _ _ _ _ _ _ hE) ⟨rfl, rfl, rfl, rfl, trivial⟩ | exact r_sb (hself_60 _ _ _ _ _ _ _ hE) (by simp only [su1, su2, dr1_rf, dr1_in, dr1_lo, dr2_rf, dr2_in, dr2_lo]; exact ⟨rfl, rfl, rfl, rfl, trivial⟩)
def Mo_judged_b60 (N : Nat) : Nat → Nat → Int32 → Int32 → Int32 → PH → Option (Int32 × PH)
  | 0 => fun _ _ _ _ _ => none
  | n + 1 => fun a0 x1 x2 x3 h =>
    ck ((hK h a0).1 = 11) <|
    ((hR h a0 32)).bind fun a_2 =>
    ck ((hK h a_2).1 = 20) <|
    ck (inb 0 (hK h a_2).2 = true) <|
    if (hI h a_2 (ix 0)) ≤ x3 then
      ((hR h a0 35)).bind fun a_7 =>
      ck ((hK h a_7).1 = 20) <|
      ck (inb 11 (hK h a_7).2 = true) <|
      bd (Mo_copies N (hR h a0 36) 0 (hR h a0 35) 0 h) fun v11 h12 =>
      if x1 = 0 then
        some (x2, h12)
      else
        if x1 = 1 then
          ck ((hK h12 a0).1 = 11) <|
          some ((hI h12 a0 50), h12)
        else
          some ((hI h a_7 (ix 11)), h12)
    else
      bd (Mo_judgesLine N a0 x3 h) fun v17 h18 =>
      if (bI v17) = 0 then
        if 0 ≤ x2 then
          Mo_judged_b84 N (Mo_judged_b60 N n)  a0 x1 x2 x3 h18
        else
          Mo_judged_b84 N (Mo_judged_b60 N n)  a0 x1 x3 x3 h18
      else
        Mo_judged_b84 N (Mo_judged_b60 N n)  a0 x1 x2 x3 h18
set_option maxRecDepth 20000 in
theorem Mo_judged_b60_ok (g : GT) (N : Nat) (D : Nat) (hD : 5 ≤ D) : ∀ (n : Nat) (a0 : Nat) (x1 : Int32) (x2 : Int32) (x3 : Int32) (h : PH) (v : Int32) (h' : PH), Mo_judged_b60 N n a0 x1 x2 x3 h = some (v, h') → Run g pMo_judged D 60 [(0, va_rf (some a0)), (1, .int x1), (2, .int x2), (3, .int x3)] [] h (rI v) h' := by
  obtain ⟨D2, rfl⟩ : ∃ d, D = d + 1 := ⟨D - 1, by omega⟩
  intro n
  induction n with
  | zero => exact fun _ _ _ _ _ _ _ hE => nomatch (show none = some _ from hE)
  | succ n ih =>
    intro a0 x1 x2 x3 h v h' hE
    unfold Mo_judged_b60 at hE
    refine r_iload_n 3 rfl rfl rfl ?_
    refine r_aload_n (t := some a0) 0 rfl rfl rfl ?_
    obtain ⟨hk1, hE⟩ := ckE hE
    refine r_getR rfl (fl_11_72 rfl) (Or.inr ⟨_, rfl⟩) rfl hk1 ?_
    refine r_iconst 0 rfl ci_0 ?_
    obtain ⟨a_2, ha3, hE⟩ := bnE hE
    obtain ⟨hk4, hE⟩ := ckE hE
    obtain ⟨hi5, hE⟩ := ckE hE
    refine r_iald rfl ha3 hk4 hi5 ?_
    refine r_icmp_ge (tgt := 90) rfl (by decide) (fun hc6 => ?_) (fun hc6 => ?_)
    · have hE := ifP hc6 hE
      refine r_aload_n (t := some a0) 0 rfl rfl rfl ?_
      refine r_getR rfl (fl_11_81 rfl) (Or.inr ⟨_, rfl⟩) rfl hk1 ?_
      refine r_bipush 11 rfl cb_11 ?_
      obtain ⟨a_7, ha8, hE⟩ := bnE hE
      obtain ⟨hk9, hE⟩ := ckE hE
      obtain ⟨hi10, hE⟩ := ckE hE
      refine r_iald rfl ha8 hk9 hi10 ?_
      refine r_istore_n 3 rfl rfl (by decide) ?_
      refine r_aload_n (t := some a0) 0 rfl rfl rfl ?_
      refine r_getR rfl (fl_11_84 rfl) (Or.inr ⟨_, rfl⟩) rfl hk1 ?_
      refine r_iconst 0 rfl ci_0 ?_
      refine r_aload_n (t := some a0) 0 rfl rfl rfl ?_
      refine r_getR rfl (fl_11_81 rfl) (Or.inr ⟨_, rfl⟩) rfl hk1 ?_
      refine r_iconst 0 rfl ci_0 ?_
      obtain ⟨v11, h12, hq13, hE⟩ := bdE hE
      refine r_callS0 (rest := []) (hc := (Mo_copies_ok g N _ _ _ _ _ _ _ hq13 D2 (by omega))) rfl pm_Mo_copies lw_11_340 st_Mo_copies rfl rfl (by decide) ?_
      refine r_iload_n 1 rfl rfl rfl ?_
      refine r_if_ne (tgt := 119) rfl (by decide) (fun hc14 => ?_) (fun hc14 => ?_)
      · have hE := ifP hc14 hE
        refine r_iload_n 2 rfl rfl rfl ?_
        refine r_goto (tgt := 132) rfl (by decide) ?_
        cases hE
        exact r_ret rfl (Or.inl ⟨rfl, _, _, rfl, rfl, rfl, rfl⟩)
      · have hE := ifN hc14 hE
        refine r_iload_n 1 rfl rfl rfl ?_
        refine r_iconst 1 rfl ci_1 ?_
        refine r_icmp_ne (tgt := 131) rfl (by decide) (fun hc15 => ?_) (fun hc15 => ?_)
        · have hE := ifP hc15 hE
          refine r_aload_n (t := some a0) 0 rfl rfl rfl ?_
          obtain ⟨hk16, hE⟩ := ckE hE
          refine r_getI rfl (fl_11_464 rfl) (Or.inl rfl) rfl hk16 ?_
          refine r_goto (tgt := 132) rfl (by decide) ?_
          cases hE
          exact r_ret rfl (Or.inl ⟨rfl, _, _, rfl, rfl, rfl, rfl⟩)
        · have hE := ifN hc15 hE
          refine r_iload_n 3 rfl rfl rfl ?_
          cases hE
          exact r_ret rfl (Or.inl ⟨rfl, _, _, rfl, rfl, rfl, rfl⟩)
    · have hE := ifN hc6 hE
      refine r_aload_n (t := some a0) 0 rfl rfl rfl ?_
      refine r_iload_n 3 rfl rfl rfl ?_
      obtain ⟨v17, h18, hq19, hE⟩ := bdE hE
      refine r_callV1 (rest := []) (hc := (Mo_judgesLine_ok g N _ _ _ _ _ hq19 D2 (by omega))) rfl pm_Mo_judgesLine lw_11_467 im_Mo_judgesLine sl_Mo_judgesLine rfl rfl rfl (rcOK hk1 rfl) (by decide) ?_
      refine r_if_ne (tgt := 84) rfl (by decide) (fun hc20 => ?_) (fun hc20 => ?_)
      · have hE := ifP hc20 hE
        refine r_iload_n 2 rfl rfl rfl ?_
        refine r_if_ge (tgt := 84) rfl (by decide) (fun hc21 => ?_) (fun hc21 => ?_)
        · have hE := ifP hc21 hE
          first | exact r_sb (Mo_judged_b84_ok g N _ hD _ ih  _ _ _ _ _ _ _ hE) ⟨rfl, rfl, rfl, rfl, trivial⟩ | exact r_sb (Mo_judged_b84_ok g N _ hD _ ih  _ _ _ _ _ _ _ hE) (by simp only [su1, su2, dr1_rf, dr1_in, dr1_lo, dr2_rf, dr2_in, dr2_lo]; exact ⟨rfl, rfl, rfl, rfl, trivial⟩)
        · have hE := ifN hc21 hE
          refine r_iload_n 3 rfl rfl rfl ?_
          refine r_istore_n 2 rfl rfl (by decide) ?_
          first | exact r_sb (Mo_judged_b84_ok g N _ hD _ ih  _ _ _ _ _ _ _ hE) ⟨rfl, rfl, rfl, rfl, trivial⟩ | exact r_sb (Mo_judged_b84_ok g N _ hD _ ih  _ _ _ _ _ _ _ hE) (by simp only [su1, su2, dr1_rf, dr1_in, dr1_lo, dr2_rf, dr2_in, dr2_lo]; exact ⟨rfl, rfl, rfl, rfl, trivial⟩)
      · have hE := ifN hc20 hE
        first | exact r_sb (Mo_judged_b84_ok g N _ hD _ ih  _ _ _ _ _ _ _ hE) ⟨rfl, rfl, rfl, rfl, trivial⟩ | exact r_sb (Mo_judged_b84_ok g N _ hD _ ih  _ _ _ _ _ _ _ hE) (by simp only [su1, su2, dr1_rf, dr1_in, dr1_lo, dr2_rf, dr2_in, dr2_lo]; exact ⟨rfl, rfl, rfl, rfl, trivial⟩)
def Mo_judged_b15 (N : Nat) (s0 : Nat) (s1 : Int32) (a0 : Nat) (x1 : Int32) (h : PH) : Option (Int32 × PH) :=
  ck ((hK h s0).1 = 11) <|
  lt0 (wI h s0 0 s1) fun h2 =>
  ck ((hK h2 a0).1 = 11) <|
  if (hI h2 a0 0) = 1 then
    some (0, h2)
  else
    bd (Mo_laysValues N a0 0 0 h2) fun v6 h7 =>
    ck ((hK h7 a0).1 = 11) <|
    bd (Mo_copies N (hR h7 a0 35) 0 (hR h7 a0 36) 0 h7) fun v10 h11 =>
    ck ((hK h11 a0).1 = 11) <|
    bd (Mo_fresh N a0 h11) fun v14 h15 =>
    ck ((hK h15 a0).1 = 11) <|
    lt0 (wI h15 a0 50 (-1)) fun h18 =>
    Mo_judged_b60 N N a0 x1 (-1) 0 h18
set_option maxRecDepth 20000 in
theorem Mo_judged_b15_ok (g : GT) (N : Nat) (D : Nat) (hD : 5 ≤ D) : ∀ (s0 : Nat) (s1 : Int32) (a0 : Nat) (x1 : Int32) (h : PH) (v : Int32) (h' : PH), Mo_judged_b15 N s0 s1 a0 x1 h = some (v, h') → Run g pMo_judged D 15 [(0, va_rf (some a0)), (1, .int x1)] [.int s1, va_rf (some s0)] h (rI v) h' := by
  obtain ⟨D2, rfl⟩ : ∃ d, D = d + 1 := ⟨D - 1, by omega⟩
  intro s0 s1 a0 x1 h v h' hE
  unfold Mo_judged_b15 at hE
  obtain ⟨hk1, hE⟩ := ckE hE
  obtain ⟨h2, he3, hE⟩ := ltE hE
  refine r_putI rfl (fl_11_119 rfl) finF rfl hk1 he3 ?_
  refine r_aload_n (t := some a0) 0 rfl rfl rfl ?_
  obtain ⟨hk4, hE⟩ := ckE hE
  refine r_getI rfl (fl_11_119 rfl) (Or.inl rfl) rfl hk4 ?_
  refine r_iconst 1 rfl ci_1 ?_
  refine r_icmp_ne (tgt := 28) rfl (by decide) (fun hc5 => ?_) (fun hc5 => ?_)
  · have hE := ifP hc5 hE
    refine r_iconst 0 rfl ci_0 ?_
    cases hE
    exact r_ret rfl (Or.inl ⟨rfl, _, _, rfl, rfl, rfl, rfl⟩)
  · have hE := ifN hc5 hE
    refine r_aload_n (t := some a0) 0 rfl rfl rfl ?_
    refine r_iconst 0 rfl ci_0 ?_
    refine r_iconst 0 rfl ci_0 ?_
    obtain ⟨v6, h7, hq8, hE⟩ := bdE hE
    refine r_callV0 (rest := []) (hc := (Mo_laysValues_ok g N _ _ _ _ _ _ hq8 D2 (by omega))) rfl pm_Mo_laysValues lw_11_412 im_Mo_laysValues sl_Mo_laysValues rfl rfl rfl (rcOK hk4 rfl) (by decide) ?_
    refine r_aload_n (t := some a0) 0 rfl rfl rfl ?_
    obtain ⟨hk9, hE⟩ := ckE hE
    refine r_getR rfl (fl_11_81 rfl) (Or.inr ⟨_, rfl⟩) rfl hk9 ?_
    refine r_iconst 0 rfl ci_0 ?_
    refine r_aload_n (t := some a0) 0 rfl rfl rfl ?_
    refine r_getR rfl (fl_11_84 rfl) (Or.inr ⟨_, rfl⟩) rfl hk9 ?_
    refine r_iconst 0 rfl ci_0 ?_
    obtain ⟨v10, h11, hq12, hE⟩ := bdE hE
    refine r_callS0 (rest := []) (hc := (Mo_copies_ok g N _ _ _ _ _ _ _ hq12 D2 (by omega))) rfl pm_Mo_copies lw_11_340 st_Mo_copies rfl rfl (by decide) ?_
    refine r_aload_n (t := some a0) 0 rfl rfl rfl ?_
    obtain ⟨hk13, hE⟩ := ckE hE
    obtain ⟨v14, h15, hq16, hE⟩ := bdE hE
    refine r_callV0 (rest := []) (hc := (Mo_fresh_ok g N _ _ _ _ hq16 D2 (by omega))) rfl pm_Mo_fresh lw_11_116 im_Mo_fresh sl_Mo_fresh rfl rfl rfl (rcOK hk13 rfl) (by decide) ?_
    refine r_iconst (-1) rfl ci_m1 ?_
    refine r_istore_n 2 rfl rfl (by decide) ?_
    refine r_aload_n (t := some a0) 0 rfl rfl rfl ?_
    refine r_iconst (-1) rfl ci_m1 ?_
    obtain ⟨hk17, hE⟩ := ckE hE
    obtain ⟨h18, he19, hE⟩ := ltE hE
    refine r_putI rfl (fl_11_464 rfl) finF rfl hk17 he19 ?_
    refine r_iconst 0 rfl ci_0 ?_
    refine r_istore_n 3 rfl rfl (by decide) ?_
    first | exact r_sb (Mo_judged_b60_ok g N _ hD  N _ _ _ _ _ _ _ hE) ⟨rfl, rfl, rfl, rfl, trivial⟩ | exact r_sb (Mo_judged_b60_ok g N _ hD  N _ _ _ _ _ _ _ hE) (by simp only [su1, su2, dr1_rf, dr1_in, dr1_lo, dr2_rf, dr2_in, dr2_lo]; exact ⟨rfl, rfl, rfl, rfl, trivial⟩)
def Mo_judged (N : Nat) (a0 : Nat) (x1 : Int32) (h : PH) : Option (Int32 × PH) :=
  bd (Mo_within N x1 0 2 h) fun v1 h2 =>
  if (bI v1) = 0 then
    Mo_judged_b15 N  a0 1 a0 x1 h2
  else
    Mo_judged_b15 N  a0 0 a0 x1 h2
set_option maxRecDepth 20000 in
theorem Mo_judged_ok (g : GT) (N : Nat) (a0 : Nat) (x1 : Int32) (h : PH) (v : Int32) (h' : PH) (hE : Mo_judged N a0 x1 h = some (v, h')) (D : Nat) (hD : 5 ≤ D) : Calls g D pMo_judged [va_rf (some a0), .int x1] h (oI v) h' := by
  refine Calls.of cok_Mo_judged ht_Mo_judged pl_Mo_judged (fun ad => by rw [lg_len, sL_cat]; simp only [List.map_cons, List.map_nil, rf_cat, cat_i, cat_l, List.sum_cons, List.sum_nil]; decide) ?_
  rw [show lv_args 0 [va_rf (some a0), .int x1] = [(0, va_rf (some a0)), (1, .int x1)] from (by simp only [lv_args, rf_cat, cat_i, cat_l]; try rfl)]
  obtain ⟨D2, rfl⟩ : ∃ d, D = d + 1 := ⟨D - 1, by omega⟩
  unfold Mo_judged at hE
  refine r_aload_n (t := some a0) 0 rfl rfl rfl ?_
  refine r_iload_n 1 rfl rfl rfl ?_
  refine r_iconst 0 rfl ci_0 ?_
  refine r_iconst 2 rfl ci_2 ?_
  obtain ⟨v1, h2, hq3, hE⟩ := bdE hE
  refine r_callS1 (rest := [va_rf (some a0)]) (hc := (Mo_within_ok g N _ _ _ _ _ _ hq3 D2 (by omega))) rfl pm_Mo_within lw_11_247 st_Mo_within rfl rfl (by simp only [List.map_cons, List.map_nil, rf_cat, cat_i, cat_l, List.sum_cons, List.sum_nil]; decide) ?_
  refine r_if_eq (tgt := 14) rfl (by decide) (fun hc4 => ?_) (fun hc4 => ?_)
  · have hE := ifP hc4 hE
    refine r_iconst 1 rfl ci_1 ?_
    first | exact r_sb (Mo_judged_b15_ok g N _ hD   _ _ _ _ _ _ _ hE) ⟨rfl, rfl, trivial⟩ | exact r_sb (Mo_judged_b15_ok g N _ hD   _ _ _ _ _ _ _ hE) (by simp only [su1, su2, dr1_rf, dr1_in, dr1_lo, dr2_rf, dr2_in, dr2_lo]; exact ⟨rfl, rfl, trivial⟩)
  · have hE := ifN hc4 hE
    refine r_iconst 0 rfl ci_0 ?_
    refine r_goto (tgt := 15) rfl (by decide) ?_
    first | exact r_sb (Mo_judged_b15_ok g N _ hD   _ _ _ _ _ _ _ hE) ⟨rfl, rfl, trivial⟩ | exact r_sb (Mo_judged_b15_ok g N _ hD   _ _ _ _ _ _ _ hE) (by simp only [su1, su2, dr1_rf, dr1_in, dr1_lo, dr2_rf, dr2_in, dr2_lo]; exact ⟨rfl, rfl, trivial⟩)
def Mo_likelyAt (N : Nat) (x0 : Int32) (x1 : Int32) (x2 : Int32) (h : PH) : Option (Int32 × PH) :=
  some (((((x0 * 97) + x1) * 2) + x2), h)
set_option maxRecDepth 20000 in
theorem Mo_likelyAt_ok (g : GT) (N : Nat) (x0 : Int32) (x1 : Int32) (x2 : Int32) (h : PH) (v : Int32) (h' : PH) (hE : Mo_likelyAt N x0 x1 x2 h = some (v, h')) (D : Nat) (hD : 0 ≤ D) : Calls g D pMo_likelyAt [.int x0, .int x1, .int x2] h (oI v) h' := by
  refine Calls.of cok_Mo_likelyAt ht_Mo_likelyAt pl_Mo_likelyAt (fun ad => by rw [lg_len, sL_cat]; simp only [List.map_cons, List.map_nil, rf_cat, cat_i, cat_l, List.sum_cons, List.sum_nil]; decide) ?_
  rw [show lv_args 0 [.int x0, .int x1, .int x2] = [(0, .int x0), (1, .int x1), (2, .int x2)] from (by simp only [lv_args, rf_cat, cat_i, cat_l]; try rfl)]
  unfold Mo_likelyAt at hE
  refine r_iload_n 0 rfl rfl rfl ?_
  refine r_bipush 97 rfl cb_97 ?_
  refine r_imul rfl ?_
  refine r_iload_n 1 rfl rfl rfl ?_
  refine r_iadd rfl ?_
  refine r_iconst 2 rfl ci_2 ?_
  refine r_imul rfl ?_
  refine r_iload_n 2 rfl rfl rfl ?_
  refine r_iadd rfl ?_
  cases hE
  exact r_ret rfl (Or.inl ⟨rfl, _, _, rfl, rfl, rfl, rfl⟩)
def Mo_step_b154 (N : Nat) (self_24 : Nat → Int32 → Int32 → Int32 → PH → Option (Unit × PH)) (self_37 : Nat → Int32 → Int32 → Int32 → Int32 → PH → Option (Unit × PH)) (self_48 : Nat → Int32 → Int32 → Int32 → Int32 → Int32 → PH → Option (Unit × PH)) (self_72 : Nat → Int32 → Int32 → Int32 → Int32 → Int32 → Int64 → Int32 → PH → Option (Unit × PH)) (s0 : Option Nat) (s1 : Int32) (s2 : Int32) (s3 : Int32) (a0 : Nat) (x1 : Int32) (x2 : Int32) (x3 : Int32) (x4 : Int32) (x5 : Int32) (x6 : Int64) (x8 : Int32) (h : PH) : Option (Unit × PH) :=
  bd (Mo_likelyAt N s1 s2 s3 h) fun v1 h2 =>
  (s0).bind fun a_4 =>
  ck ((hK h2 a_4).1 = 23) <|
  ck (inb v1 (hK h2 a_4).2 = true) <|
  ck ((hK h2 a0).1 = 11) <|
  bd (Mo_chanceOf N a0 x2 x8 0 h2) fun v9 h10 =>
  ck ((hK h10 a_4).1 = 23) <|
  ck (inb v1 (hK h10 a_4).2 = true) <|
  lt0 (wJ h10 a_4 (ix v1) ((hJ h2 a_4 (ix v1)) + (x6 * (Int32.toInt64 v9)))) fun h14 =>
  self_72 a0 x1 x2 x3 x4 x5 x6 (x8 + 1) h14
set_option maxRecDepth 20000 in
theorem Mo_step_b154_ok (g : GT) (N : Nat) (D : Nat) (hD : 4 ≤ D) (self_24 : Nat → Int32 → Int32 → Int32 → PH → Option (Unit × PH)) (hself_24 : ∀ (a0 : Nat) (x1 : Int32) (x2 : Int32) (x3 : Int32) (h : PH) (v : Unit) (h' : PH), self_24 a0 x1 x2 x3 h = some (v, h') → Run g pMo_step D 24 [(0, va_rf (some a0)), (1, .int x1), (2, .int x2), (3, .int x3)] [] h (rV v) h') (self_37 : Nat → Int32 → Int32 → Int32 → Int32 → PH → Option (Unit × PH)) (hself_37 : ∀ (a0 : Nat) (x1 : Int32) (x2 : Int32) (x3 : Int32) (x4 : Int32) (h : PH) (v : Unit) (h' : PH), self_37 a0 x1 x2 x3 x4 h = some (v, h') → Run g pMo_step D 37 [(0, va_rf (some a0)), (1, .int x1), (2, .int x2), (3, .int x3), (4, .int x4)] [] h (rV v) h') (self_48 : Nat → Int32 → Int32 → Int32 → Int32 → Int32 → PH → Option (Unit × PH)) (hself_48 : ∀ (a0 : Nat) (x1 : Int32) (x2 : Int32) (x3 : Int32) (x4 : Int32) (x5 : Int32) (h : PH) (v : Unit) (h' : PH), self_48 a0 x1 x2 x3 x4 x5 h = some (v, h') → Run g pMo_step D 48 [(0, va_rf (some a0)), (1, .int x1), (2, .int x2), (3, .int x3), (4, .int x4), (5, .int x5)] [] h (rV v) h') (self_72 : Nat → Int32 → Int32 → Int32 → Int32 → Int32 → Int64 → Int32 → PH → Option (Unit × PH)) (hself_72 : ∀ (a0 : Nat) (x1 : Int32) (x2 : Int32) (x3 : Int32) (x4 : Int32) (x5 : Int32) (x6 : Int64) (x8 : Int32) (h : PH) (v : Unit) (h' : PH), self_72 a0 x1 x2 x3 x4 x5 x6 x8 h = some (v, h') → Run g pMo_step D 72 [(0, va_rf (some a0)), (1, .int x1), (2, .int x2), (3, .int x3), (4, .int x4), (5, .int x5), (6, .long x6), (8, .int x8)] [] h (rV v) h') : ∀ (s0 : Option Nat) (s1 : Int32) (s2 : Int32) (s3 : Int32) (a0 : Nat) (x1 : Int32) (x2 : Int32) (x3 : Int32) (x4 : Int32) (x5 : Int32) (x6 : Int64) (x8 : Int32) (h : PH) (v : Unit) (h' : PH), Mo_step_b154 N self_24 self_37 self_48 self_72 s0 s1 s2 s3 a0 x1 x2 x3 x4 x5 x6 x8 h = some (v, h') → Run g pMo_step D 154 [(0, va_rf (some a0)), (1, .int x1), (2, .int x2), (3, .int x3), (4, .int x4), (5, .int x5), (6, .long x6), (8, .int x8)] [.int s3, .int s2, .int s1, va_rf s0] h (rV v) h' := by
  obtain ⟨D2, rfl⟩ : ∃ d, D = d + 1 := ⟨D - 1, by omega⟩
  intro s0 s1 s2 s3 a0 x1 x2 x3 x4 x5 x6 x8 h v h' hE
  unfold Mo_step_b154 at hE
  obtain ⟨v1, h2, hq3, hE⟩ := bdE hE
  refine r_callS1 (rest := [va_rf s0]) (hc := (Mo_likelyAt_ok g N _ _ _ _ _ _ hq3 D2 (by omega))) rfl pm_Mo_likelyAt lw_11_470 st_Mo_likelyAt rfl rfl (by simp only [List.map_cons, List.map_nil, rf_cat, cat_i, cat_l, List.sum_cons, List.sum_nil]; decide) ?_
  refine r_dup2 rfl rfl (rf_cat _) ?_
  obtain ⟨a_4, ha5, hE⟩ := bnE hE
  obtain ⟨hk6, hE⟩ := ckE hE
  obtain ⟨hi7, hE⟩ := ckE hE
  refine r_lald rfl ha5 hk6 hi7 ?_
  refine r_lload rfl rfl ?_
  refine r_aload_n (t := some a0) 0 rfl rfl rfl ?_
  refine r_iload_n 2 rfl rfl rfl ?_
  refine r_iload rfl rfl ?_
  refine r_iconst 0 rfl ci_0 ?_
  obtain ⟨hk8, hE⟩ := ckE hE
  obtain ⟨v9, h10, hq11, hE⟩ := bdE hE
  refine r_callV1 (rest := [.long x6, .long (hJ h2 a_4 (ix v1)), .int v1, va_rf s0]) (hc := (Mo_chanceOf_ok g N _ _ _ _ _ _ _ hq11 D2 (by omega))) rfl pm_Mo_chanceOf lw_11_347 im_Mo_chanceOf sl_Mo_chanceOf rfl rfl rfl (rcOK hk8 rfl) (by simp only [List.map_cons, List.map_nil, rf_cat, cat_i, cat_l, List.sum_cons, List.sum_nil]; decide) ?_
  refine r_i2l rfl ?_
  refine r_lmul rfl ?_
  refine r_ladd rfl ?_
  obtain ⟨hk12, hE⟩ := ckE hE
  obtain ⟨hi13, hE⟩ := ckE hE
  obtain ⟨h14, he15, hE⟩ := ltE hE
  refine r_last rfl ha5 hk12 hi13 he15 ?_
  refine r_iinc _ rfl rfl (congrArg _ ci_1) (by decide) ?_
  refine r_goto (tgt := 72) rfl (by decide) ?_
  first | exact r_sb (hself_72 _ _ _ _ _ _ _ _ _ _ _ hE) ⟨rfl, rfl, rfl, rfl, rfl, rfl, rfl, rfl, trivial⟩ | exact r_sb (hself_72 _ _ _ _ _ _ _ _ _ _ _ hE) (by simp only [su1, su2, dr1_rf, dr1_in, dr1_lo, dr2_rf, dr2_in, dr2_lo]; exact ⟨rfl, rfl, rfl, rfl, rfl, rfl, rfl, rfl, trivial⟩)
def Mo_step_b111 (N : Nat) (self_24 : Nat → Int32 → Int32 → Int32 → PH → Option (Unit × PH)) (self_37 : Nat → Int32 → Int32 → Int32 → Int32 → PH → Option (Unit × PH)) (self_48 : Nat → Int32 → Int32 → Int32 → Int32 → Int32 → PH → Option (Unit × PH)) (self_72 : Nat → Int32 → Int32 → Int32 → Int32 → Int32 → Int64 → Int32 → PH → Option (Unit × PH)) (s0 : Int32) (a0 : Nat) (x1 : Int32) (x2 : Int32) (x3 : Int32) (x4 : Int32) (x5 : Int32) (x6 : Int64) (x8 : Int32) (x9 : Int32) (h : PH) : Option (Unit × PH) :=
  ck ((hK h a0).1 = 11) <|
  bd (Mo_gives N a0 x2 x9 s0 x3 0 h) fun v2 h3 =>
  ck ((hK h3 a0).1 = 11) <|
  bd (Mo_isWordBy N a0 s0 x9 h3) fun v6 h7 =>
  if (bI v6) = 0 then
    Mo_step_b154 N self_24 self_37 self_48 self_72  (hR h3 a0 52) (hI h3 a0 41) (x4 + x9) 0 a0 x1 x2 x3 x4 x5 x6 x8 h7
  else
    Mo_step_b154 N self_24 self_37 self_48 self_72  (hR h3 a0 52) (hI h3 a0 41) (x4 + x9) 1 a0 x1 x2 x3 x4 x5 x6 x8 h7
set_option maxRecDepth 20000 in
theorem Mo_step_b111_ok (g : GT) (N : Nat) (D : Nat) (hD : 4 ≤ D) (self_24 : Nat → Int32 → Int32 → Int32 → PH → Option (Unit × PH)) (hself_24 : ∀ (a0 : Nat) (x1 : Int32) (x2 : Int32) (x3 : Int32) (h : PH) (v : Unit) (h' : PH), self_24 a0 x1 x2 x3 h = some (v, h') → Run g pMo_step D 24 [(0, va_rf (some a0)), (1, .int x1), (2, .int x2), (3, .int x3)] [] h (rV v) h') (self_37 : Nat → Int32 → Int32 → Int32 → Int32 → PH → Option (Unit × PH)) (hself_37 : ∀ (a0 : Nat) (x1 : Int32) (x2 : Int32) (x3 : Int32) (x4 : Int32) (h : PH) (v : Unit) (h' : PH), self_37 a0 x1 x2 x3 x4 h = some (v, h') → Run g pMo_step D 37 [(0, va_rf (some a0)), (1, .int x1), (2, .int x2), (3, .int x3), (4, .int x4)] [] h (rV v) h') (self_48 : Nat → Int32 → Int32 → Int32 → Int32 → Int32 → PH → Option (Unit × PH)) (hself_48 : ∀ (a0 : Nat) (x1 : Int32) (x2 : Int32) (x3 : Int32) (x4 : Int32) (x5 : Int32) (h : PH) (v : Unit) (h' : PH), self_48 a0 x1 x2 x3 x4 x5 h = some (v, h') → Run g pMo_step D 48 [(0, va_rf (some a0)), (1, .int x1), (2, .int x2), (3, .int x3), (4, .int x4), (5, .int x5)] [] h (rV v) h') (self_72 : Nat → Int32 → Int32 → Int32 → Int32 → Int32 → Int64 → Int32 → PH → Option (Unit × PH)) (hself_72 : ∀ (a0 : Nat) (x1 : Int32) (x2 : Int32) (x3 : Int32) (x4 : Int32) (x5 : Int32) (x6 : Int64) (x8 : Int32) (h : PH) (v : Unit) (h' : PH), self_72 a0 x1 x2 x3 x4 x5 x6 x8 h = some (v, h') → Run g pMo_step D 72 [(0, va_rf (some a0)), (1, .int x1), (2, .int x2), (3, .int x3), (4, .int x4), (5, .int x5), (6, .long x6), (8, .int x8)] [] h (rV v) h') : ∀ (s0 : Int32) (a0 : Nat) (x1 : Int32) (x2 : Int32) (x3 : Int32) (x4 : Int32) (x5 : Int32) (x6 : Int64) (x8 : Int32) (x9 : Int32) (h : PH) (v : Unit) (h' : PH), Mo_step_b111 N self_24 self_37 self_48 self_72 s0 a0 x1 x2 x3 x4 x5 x6 x8 x9 h = some (v, h') → Run g pMo_step D 111 [(0, va_rf (some a0)), (1, .int x1), (2, .int x2), (3, .int x3), (4, .int x4), (5, .int x5), (6, .long x6), (8, .int x8), (9, .int x9)] [.int s0] h (rV v) h' := by
  obtain ⟨D2, rfl⟩ : ∃ d, D = d + 1 := ⟨D - 1, by omega⟩
  intro s0 a0 x1 x2 x3 x4 x5 x6 x8 x9 h v h' hE
  unfold Mo_step_b111 at hE
  refine r_istore rfl (by decide) ?_
  refine r_aload_n (t := some a0) 0 rfl rfl rfl ?_
  refine r_iload_n 2 rfl rfl rfl ?_
  refine r_iload rfl rfl ?_
  refine r_iload rfl rfl ?_
  refine r_iload_n 3 rfl rfl rfl ?_
  refine r_iconst 0 rfl ci_0 ?_
  obtain ⟨hk1, hE⟩ := ckE hE
  obtain ⟨v2, h3, hq4, hE⟩ := bdE hE
  refine r_callV1 (rest := []) (hc := (Mo_gives_ok g N _ _ _ _ _ _ _ _ _ hq4 D2 (by omega))) rfl pm_Mo_gives lw_11_355 im_Mo_gives sl_Mo_gives rfl rfl rfl (rcOK hk1 rfl) (by decide) ?_
  refine r_pop rfl rfl ?_
  refine r_aload_n (t := some a0) 0 rfl rfl rfl ?_
  obtain ⟨hk5, hE⟩ := ckE hE
  refine r_getR rfl (fl_11_109 rfl) (Or.inr ⟨_, rfl⟩) rfl hk5 ?_
  refine r_aload_n (t := some a0) 0 rfl rfl rfl ?_
  refine r_getI rfl (fl_11_319 rfl) (Or.inl rfl) rfl hk5 ?_
  refine r_iload rfl rfl ?_
  refine r_iload rfl rfl ?_
  refine r_iadd rfl ?_
  refine r_aload_n (t := some a0) 0 rfl rfl rfl ?_
  refine r_iload rfl rfl ?_
  refine r_iload rfl rfl ?_
  obtain ⟨v6, h7, hq8, hE⟩ := bdE hE
  refine r_callV1 (rest := [.int (x4 + x9), .int (hI h3 a0 41), va_rf (hR h3 a0 52)]) (hc := (Mo_isWordBy_ok g N _ _ _ _ _ _ hq8 D2 (by omega))) rfl pm_Mo_isWordBy lw_11_359 im_Mo_isWordBy sl_Mo_isWordBy rfl rfl rfl (rcOK hk5 rfl) (by simp only [List.map_cons, List.map_nil, rf_cat, cat_i, cat_l, List.sum_cons, List.sum_nil]; decide) ?_
  refine r_if_eq (tgt := 153) rfl (by decide) (fun hc9 => ?_) (fun hc9 => ?_)
  · have hE := ifP hc9 hE
    refine r_iconst 0 rfl ci_0 ?_
    first | exact r_sb (Mo_step_b154_ok g N _ hD _ hself_24 _ hself_37 _ hself_48 _ hself_72  _ _ _ _ _ _ _ _ _ _ _ _ _ _ _ hE) ⟨rfl, rfl, rfl, rfl, rfl, rfl, rfl, rfl, trivial⟩ | exact r_sb (Mo_step_b154_ok g N _ hD _ hself_24 _ hself_37 _ hself_48 _ hself_72  _ _ _ _ _ _ _ _ _ _ _ _ _ _ _ hE) (by simp only [su1, su2, dr1_rf, dr1_in, dr1_lo, dr2_rf, dr2_in, dr2_lo]; exact ⟨rfl, rfl, rfl, rfl, rfl, rfl, rfl, rfl, trivial⟩)
  · have hE := ifN hc9 hE
    refine r_iconst 1 rfl ci_1 ?_
    refine r_goto (tgt := 154) rfl (by decide) ?_
    first | exact r_sb (Mo_step_b154_ok g N _ hD _ hself_24 _ hself_37 _ hself_48 _ hself_72  _ _ _ _ _ _ _ _ _ _ _ _ _ _ _ hE) ⟨rfl, rfl, rfl, rfl, rfl, rfl, rfl, rfl, trivial⟩ | exact r_sb (Mo_step_b154_ok g N _ hD _ hself_24 _ hself_37 _ hself_48 _ hself_72  _ _ _ _ _ _ _ _ _ _ _ _ _ _ _ hE) (by simp only [su1, su2, dr1_rf, dr1_in, dr1_lo, dr2_rf, dr2_in, dr2_lo]; exact ⟨rfl, rfl, rfl, rfl, rfl, rfl, rfl, rfl, trivial⟩)
def Mo_step_b179 (N : Nat) (self_24 : Nat → Int32 → Int32 → Int32 → PH → Option (Unit × PH)) (self_37 : Nat → Int32 → Int32 → Int32 → Int32 → PH → Option (Unit × PH)) (self_48 : Nat → Int32 → Int32 → Int32 → Int32 → Int32 → PH → Option (Unit × PH)) (a0 : Nat) (x1 : Int32) (x2 : Int32) (x3 : Int32) (x4 : Int32) (x5 : Int32) (h : PH) : Option (Unit × PH) :=
  self_48 a0 x1 x2 x3 x4 (x5 + 1) h
set_option maxRecDepth 20000 in
theorem Mo_step_b179_ok (g : GT) (N : Nat) (D : Nat) (hD : 4 ≤ D) (self_24 : Nat → Int32 → Int32 → Int32 → PH → Option (Unit × PH)) (hself_24 : ∀ (a0 : Nat) (x1 : Int32) (x2 : Int32) (x3 : Int32) (h : PH) (v : Unit) (h' : PH), self_24 a0 x1 x2 x3 h = some (v, h') → Run g pMo_step D 24 [(0, va_rf (some a0)), (1, .int x1), (2, .int x2), (3, .int x3)] [] h (rV v) h') (self_37 : Nat → Int32 → Int32 → Int32 → Int32 → PH → Option (Unit × PH)) (hself_37 : ∀ (a0 : Nat) (x1 : Int32) (x2 : Int32) (x3 : Int32) (x4 : Int32) (h : PH) (v : Unit) (h' : PH), self_37 a0 x1 x2 x3 x4 h = some (v, h') → Run g pMo_step D 37 [(0, va_rf (some a0)), (1, .int x1), (2, .int x2), (3, .int x3), (4, .int x4)] [] h (rV v) h') (self_48 : Nat → Int32 → Int32 → Int32 → Int32 → Int32 → PH → Option (Unit × PH)) (hself_48 : ∀ (a0 : Nat) (x1 : Int32) (x2 : Int32) (x3 : Int32) (x4 : Int32) (x5 : Int32) (h : PH) (v : Unit) (h' : PH), self_48 a0 x1 x2 x3 x4 x5 h = some (v, h') → Run g pMo_step D 48 [(0, va_rf (some a0)), (1, .int x1), (2, .int x2), (3, .int x3), (4, .int x4), (5, .int x5)] [] h (rV v) h') : ∀ (a0 : Nat) (x1 : Int32) (x2 : Int32) (x3 : Int32) (x4 : Int32) (x5 : Int32) (h : PH) (v : Unit) (h' : PH), Mo_step_b179 N self_24 self_37 self_48 a0 x1 x2 x3 x4 x5 h = some (v, h') → Run g pMo_step D 179 [(0, va_rf (some a0)), (1, .int x1), (2, .int x2), (3, .int x3), (4, .int x4), (5, .int x5)] [] h (rV v) h' := by
  obtain ⟨D2, rfl⟩ : ∃ d, D = d + 1 := ⟨D - 1, by omega⟩
  intro a0 x1 x2 x3 x4 x5 h v h' hE
  unfold Mo_step_b179 at hE
  refine r_iinc _ rfl rfl (congrArg _ ci_1) (by decide) ?_
  refine r_goto (tgt := 48) rfl (by decide) ?_
  first | exact r_sb (hself_48 _ _ _ _ _ _ _ _ _ hE) ⟨rfl, rfl, rfl, rfl, rfl, rfl, trivial⟩ | exact r_sb (hself_48 _ _ _ _ _ _ _ _ _ hE) (by simp only [su1, su2, dr1_rf, dr1_in, dr1_lo, dr2_rf, dr2_in, dr2_lo]; exact ⟨rfl, rfl, rfl, rfl, rfl, rfl, trivial⟩)
def Mo_step_b72 (N : Nat) (self_24 : Nat → Int32 → Int32 → Int32 → PH → Option (Unit × PH)) (self_37 : Nat → Int32 → Int32 → Int32 → Int32 → PH → Option (Unit × PH)) (self_48 : Nat → Int32 → Int32 → Int32 → Int32 → Int32 → PH → Option (Unit × PH)) : Nat → Nat → Int32 → Int32 → Int32 → Int32 → Int32 → Int64 → Int32 → PH → Option (Unit × PH)
  | 0 => fun _ _ _ _ _ _ _ _ _ => none
  | n + 1 => fun a0 x1 x2 x3 x4 x5 x6 x8 h =>
    if 4 ≤ x8 then
      Mo_step_b179 N self_24 self_37 self_48  a0 x1 x2 x3 x4 x5 h
    else
      if (lg_cmp x6 0) ≤ 0 then
        Mo_step_b179 N self_24 self_37 self_48  a0 x1 x2 x3 x4 x5 h
      else
        if (x8 + x5) = 0 then
          Mo_step_b111 N self_24 self_37 self_48 (Mo_step_b72 N self_24 self_37 self_48 n)  0 a0 x1 x2 x3 x4 x5 x6 x8 (x8 + x5) h
        else
          ck ((hK h a0).1 = 11) <|
          bd (Mo_habitGive N a0 x1 x2 x3 0 (x8 + x5) h) fun v5 h6 =>
          Mo_step_b111 N self_24 self_37 self_48 (Mo_step_b72 N self_24 self_37 self_48 n)  v5 a0 x1 x2 x3 x4 x5 x6 x8 (x8 + x5) h6
set_option maxRecDepth 20000 in
theorem Mo_step_b72_ok (g : GT) (N : Nat) (D : Nat) (hD : 4 ≤ D) (self_24 : Nat → Int32 → Int32 → Int32 → PH → Option (Unit × PH)) (hself_24 : ∀ (a0 : Nat) (x1 : Int32) (x2 : Int32) (x3 : Int32) (h : PH) (v : Unit) (h' : PH), self_24 a0 x1 x2 x3 h = some (v, h') → Run g pMo_step D 24 [(0, va_rf (some a0)), (1, .int x1), (2, .int x2), (3, .int x3)] [] h (rV v) h') (self_37 : Nat → Int32 → Int32 → Int32 → Int32 → PH → Option (Unit × PH)) (hself_37 : ∀ (a0 : Nat) (x1 : Int32) (x2 : Int32) (x3 : Int32) (x4 : Int32) (h : PH) (v : Unit) (h' : PH), self_37 a0 x1 x2 x3 x4 h = some (v, h') → Run g pMo_step D 37 [(0, va_rf (some a0)), (1, .int x1), (2, .int x2), (3, .int x3), (4, .int x4)] [] h (rV v) h') (self_48 : Nat → Int32 → Int32 → Int32 → Int32 → Int32 → PH → Option (Unit × PH)) (hself_48 : ∀ (a0 : Nat) (x1 : Int32) (x2 : Int32) (x3 : Int32) (x4 : Int32) (x5 : Int32) (h : PH) (v : Unit) (h' : PH), self_48 a0 x1 x2 x3 x4 x5 h = some (v, h') → Run g pMo_step D 48 [(0, va_rf (some a0)), (1, .int x1), (2, .int x2), (3, .int x3), (4, .int x4), (5, .int x5)] [] h (rV v) h') : ∀ (n : Nat) (a0 : Nat) (x1 : Int32) (x2 : Int32) (x3 : Int32) (x4 : Int32) (x5 : Int32) (x6 : Int64) (x8 : Int32) (h : PH) (v : Unit) (h' : PH), Mo_step_b72 N self_24 self_37 self_48 n a0 x1 x2 x3 x4 x5 x6 x8 h = some (v, h') → Run g pMo_step D 72 [(0, va_rf (some a0)), (1, .int x1), (2, .int x2), (3, .int x3), (4, .int x4), (5, .int x5), (6, .long x6), (8, .int x8)] [] h (rV v) h' := by
  obtain ⟨D2, rfl⟩ : ∃ d, D = d + 1 := ⟨D - 1, by omega⟩
  intro n
  induction n with
  | zero => exact fun _ _ _ _ _ _ _ _ _ _ _ hE => nomatch (show none = some _ from hE)
  | succ n ih =>
    intro a0 x1 x2 x3 x4 x5 x6 x8 h v h' hE
    unfold Mo_step_b72 at hE
    refine r_iload rfl rfl ?_
    refine r_iconst 4 rfl ci_4 ?_
    refine r_icmp_ge (tgt := 179) rfl (by decide) (fun hc1 => ?_) (fun hc1 => ?_)
    · have hE := ifP hc1 hE
      first | exact r_sb (Mo_step_b179_ok g N _ hD _ hself_24 _ hself_37 _ hself_48  _ _ _ _ _ _ _ _ _ hE) ⟨rfl, rfl, rfl, rfl, rfl, rfl, trivial⟩ | exact r_sb (Mo_step_b179_ok g N _ hD _ hself_24 _ hself_37 _ hself_48  _ _ _ _ _ _ _ _ _ hE) (by simp only [su1, su2, dr1_rf, dr1_in, dr1_lo, dr2_rf, dr2_in, dr2_lo]; exact ⟨rfl, rfl, rfl, rfl, rfl, rfl, trivial⟩)
    · have hE := ifN hc1 hE
      refine r_lload rfl rfl ?_
      refine r_lconst 0 rfl cl_0 ?_
      refine r_lcmp rfl ?_
      refine r_if_le (tgt := 179) rfl (by decide) (fun hc2 => ?_) (fun hc2 => ?_)
      · have hE := ifP hc2 hE
        first | exact r_sb (Mo_step_b179_ok g N _ hD _ hself_24 _ hself_37 _ hself_48  _ _ _ _ _ _ _ _ _ hE) ⟨rfl, rfl, rfl, rfl, rfl, rfl, trivial⟩ | exact r_sb (Mo_step_b179_ok g N _ hD _ hself_24 _ hself_37 _ hself_48  _ _ _ _ _ _ _ _ _ hE) (by simp only [su1, su2, dr1_rf, dr1_in, dr1_lo, dr2_rf, dr2_in, dr2_lo]; exact ⟨rfl, rfl, rfl, rfl, rfl, rfl, trivial⟩)
      · have hE := ifN hc2 hE
        refine r_iload rfl rfl ?_
        refine r_iload rfl rfl ?_
        refine r_iadd rfl ?_
        refine r_istore rfl (by decide) ?_
        refine r_iload rfl rfl ?_
        refine r_if_ne (tgt := 101) rfl (by decide) (fun hc3 => ?_) (fun hc3 => ?_)
        · have hE := ifP hc3 hE
          refine r_iconst 0 rfl ci_0 ?_
          refine r_goto (tgt := 111) rfl (by decide) ?_
          first | exact r_sb (Mo_step_b111_ok g N _ hD _ hself_24 _ hself_37 _ hself_48 _ ih  _ _ _ _ _ _ _ _ _ _ _ _ _ hE) ⟨rfl, rfl, rfl, rfl, rfl, rfl, rfl, rfl, rfl, trivial⟩ | exact r_sb (Mo_step_b111_ok g N _ hD _ hself_24 _ hself_37 _ hself_48 _ ih  _ _ _ _ _ _ _ _ _ _ _ _ _ hE) (by simp only [su1, su2, dr1_rf, dr1_in, dr1_lo, dr2_rf, dr2_in, dr2_lo]; exact ⟨rfl, rfl, rfl, rfl, rfl, rfl, rfl, rfl, rfl, trivial⟩)
        · have hE := ifN hc3 hE
          refine r_aload_n (t := some a0) 0 rfl rfl rfl ?_
          refine r_iload_n 1 rfl rfl rfl ?_
          refine r_iload_n 2 rfl rfl rfl ?_
          refine r_iload_n 3 rfl rfl rfl ?_
          refine r_iconst 0 rfl ci_0 ?_
          refine r_iload rfl rfl ?_
          obtain ⟨hk4, hE⟩ := ckE hE
          obtain ⟨v5, h6, hq7, hE⟩ := bdE hE
          refine r_callV1 (rest := []) (hc := (Mo_habitGive_ok g N _ _ _ _ _ _ _ _ _ hq7 D2 (by omega))) rfl pm_Mo_habitGive lw_11_434 im_Mo_habitGive sl_Mo_habitGive rfl rfl rfl (rcOK hk4 rfl) (by decide) ?_
          first | exact r_sb (Mo_step_b111_ok g N _ hD _ hself_24 _ hself_37 _ hself_48 _ ih  _ _ _ _ _ _ _ _ _ _ _ _ _ hE) ⟨rfl, rfl, rfl, rfl, rfl, rfl, rfl, rfl, rfl, trivial⟩ | exact r_sb (Mo_step_b111_ok g N _ hD _ hself_24 _ hself_37 _ hself_48 _ ih  _ _ _ _ _ _ _ _ _ _ _ _ _ hE) (by simp only [su1, su2, dr1_rf, dr1_in, dr1_lo, dr2_rf, dr2_in, dr2_lo]; exact ⟨rfl, rfl, rfl, rfl, rfl, rfl, rfl, rfl, rfl, trivial⟩)
def Mo_step_b48 (N : Nat) (self_24 : Nat → Int32 → Int32 → Int32 → PH → Option (Unit × PH)) (self_37 : Nat → Int32 → Int32 → Int32 → Int32 → PH → Option (Unit × PH)) : Nat → Nat → Int32 → Int32 → Int32 → Int32 → Int32 → PH → Option (Unit × PH)
  | 0 => fun _ _ _ _ _ _ _ => none
  | n + 1 => fun a0 x1 x2 x3 x4 x5 h =>
    if 2 ≤ x5 then
      self_37 a0 x1 x2 x3 (x4 + 1) h
    else
      ck ((hK h a0).1 = 11) <|
      bd (Mo_likelyAt N x3 x4 x5 h) fun v3 h4 =>
      ((hR h a0 51)).bind fun a_6 =>
      ck ((hK h4 a_6).1 = 23) <|
      ck (inb v3 (hK h4 a_6).2 = true) <|
      Mo_step_b72 N self_24 self_37 (Mo_step_b48 N self_24 self_37 n) N a0 x1 x2 x3 x4 x5 (hJ h4 a_6 (ix v3)) 0 h4
set_option maxRecDepth 20000 in
theorem Mo_step_b48_ok (g : GT) (N : Nat) (D : Nat) (hD : 4 ≤ D) (self_24 : Nat → Int32 → Int32 → Int32 → PH → Option (Unit × PH)) (hself_24 : ∀ (a0 : Nat) (x1 : Int32) (x2 : Int32) (x3 : Int32) (h : PH) (v : Unit) (h' : PH), self_24 a0 x1 x2 x3 h = some (v, h') → Run g pMo_step D 24 [(0, va_rf (some a0)), (1, .int x1), (2, .int x2), (3, .int x3)] [] h (rV v) h') (self_37 : Nat → Int32 → Int32 → Int32 → Int32 → PH → Option (Unit × PH)) (hself_37 : ∀ (a0 : Nat) (x1 : Int32) (x2 : Int32) (x3 : Int32) (x4 : Int32) (h : PH) (v : Unit) (h' : PH), self_37 a0 x1 x2 x3 x4 h = some (v, h') → Run g pMo_step D 37 [(0, va_rf (some a0)), (1, .int x1), (2, .int x2), (3, .int x3), (4, .int x4)] [] h (rV v) h') : ∀ (n : Nat) (a0 : Nat) (x1 : Int32) (x2 : Int32) (x3 : Int32) (x4 : Int32) (x5 : Int32) (h : PH) (v : Unit) (h' : PH), Mo_step_b48 N self_24 self_37 n a0 x1 x2 x3 x4 x5 h = some (v, h') → Run g pMo_step D 48 [(0, va_rf (some a0)), (1, .int x1), (2, .int x2), (3, .int x3), (4, .int x4), (5, .int x5)] [] h (rV v) h' := by
  obtain ⟨D2, rfl⟩ : ∃ d, D = d + 1 := ⟨D - 1, by omega⟩
  intro n
  induction n with
  | zero => exact fun _ _ _ _ _ _ _ _ _ hE => nomatch (show none = some _ from hE)
  | succ n ih =>
    intro a0 x1 x2 x3 x4 x5 h v h' hE
    unfold Mo_step_b48 at hE
    refine r_iload rfl rfl ?_
    refine r_iconst 2 rfl ci_2 ?_
    refine r_icmp_ge (tgt := 185) rfl (by decide) (fun hc1 => ?_) (fun hc1 => ?_)
    · have hE := ifP hc1 hE
      refine r_iinc _ rfl rfl (congrArg _ ci_1) (by decide) ?_
      refine r_goto (tgt := 37) rfl (by decide) ?_
      first | exact r_sb (hself_37 _ _ _ _ _ _ _ _ hE) ⟨rfl, rfl, rfl, rfl, rfl, trivial⟩ | exact r_sb (hself_37 _ _ _ _ _ _ _ _ hE) (by simp only [su1, su2, dr1_rf, dr1_in, dr1_lo, dr2_rf, dr2_in, dr2_lo]; exact ⟨rfl, rfl, rfl, rfl, rfl, trivial⟩)
    · have hE := ifN hc1 hE
      refine r_aload_n (t := some a0) 0 rfl rfl rfl ?_
      obtain ⟨hk2, hE⟩ := ckE hE
      refine r_getR rfl (fl_11_106 rfl) (Or.inr ⟨_, rfl⟩) rfl hk2 ?_
      refine r_iload_n 3 rfl rfl rfl ?_
      refine r_iload rfl rfl ?_
      refine r_iload rfl rfl ?_
      obtain ⟨v3, h4, hq5, hE⟩ := bdE hE
      refine r_callS1 (rest := [va_rf (hR h a0 51)]) (hc := (Mo_likelyAt_ok g N _ _ _ _ _ _ hq5 D2 (by omega))) rfl pm_Mo_likelyAt lw_11_470 st_Mo_likelyAt rfl rfl (by simp only [List.map_cons, List.map_nil, rf_cat, cat_i, cat_l, List.sum_cons, List.sum_nil]; decide) ?_
      obtain ⟨a_6, ha7, hE⟩ := bnE hE
      obtain ⟨hk8, hE⟩ := ckE hE
      obtain ⟨hi9, hE⟩ := ckE hE
      refine r_lald rfl ha7 hk8 hi9 ?_
      refine r_lstore rfl (by decide) ?_
      refine r_iconst 0 rfl ci_0 ?_
      refine r_istore rfl (by decide) ?_
      first | exact r_sb (Mo_step_b72_ok g N _ hD _ hself_24 _ hself_37 _ ih N _ _ _ _ _ _ _ _ _ _ _ hE) ⟨rfl, rfl, rfl, rfl, rfl, rfl, rfl, rfl, trivial⟩ | exact r_sb (Mo_step_b72_ok g N _ hD _ hself_24 _ hself_37 _ ih N _ _ _ _ _ _ _ _ _ _ _ hE) (by simp only [su1, su2, dr1_rf, dr1_in, dr1_lo, dr2_rf, dr2_in, dr2_lo]; exact ⟨rfl, rfl, rfl, rfl, rfl, rfl, rfl, rfl, trivial⟩)
def Mo_step_b37 (N : Nat) (self_24 : Nat → Int32 → Int32 → Int32 → PH → Option (Unit × PH)) : Nat → Nat → Int32 → Int32 → Int32 → Int32 → PH → Option (Unit × PH)
  | 0 => fun _ _ _ _ _ _ => none
  | n + 1 => fun a0 x1 x2 x3 x4 h =>
    if (4 * x2) < x4 then
      self_24 a0 x1 x2 (x3 + 1) h
    else
      Mo_step_b48 N self_24 (Mo_step_b37 N self_24 n) N a0 x1 x2 x3 x4 0 h
set_option maxRecDepth 20000 in
theorem Mo_step_b37_ok (g : GT) (N : Nat) (D : Nat) (hD : 4 ≤ D) (self_24 : Nat → Int32 → Int32 → Int32 → PH → Option (Unit × PH)) (hself_24 : ∀ (a0 : Nat) (x1 : Int32) (x2 : Int32) (x3 : Int32) (h : PH) (v : Unit) (h' : PH), self_24 a0 x1 x2 x3 h = some (v, h') → Run g pMo_step D 24 [(0, va_rf (some a0)), (1, .int x1), (2, .int x2), (3, .int x3)] [] h (rV v) h') : ∀ (n : Nat) (a0 : Nat) (x1 : Int32) (x2 : Int32) (x3 : Int32) (x4 : Int32) (h : PH) (v : Unit) (h' : PH), Mo_step_b37 N self_24 n a0 x1 x2 x3 x4 h = some (v, h') → Run g pMo_step D 37 [(0, va_rf (some a0)), (1, .int x1), (2, .int x2), (3, .int x3), (4, .int x4)] [] h (rV v) h' := by
  obtain ⟨D2, rfl⟩ : ∃ d, D = d + 1 := ⟨D - 1, by omega⟩
  intro n
  induction n with
  | zero => exact fun _ _ _ _ _ _ _ _ hE => nomatch (show none = some _ from hE)
  | succ n ih =>
    intro a0 x1 x2 x3 x4 h v h' hE
    unfold Mo_step_b37 at hE
    refine r_iload rfl rfl ?_
    refine r_iconst 4 rfl ci_4 ?_
    refine r_iload_n 2 rfl rfl rfl ?_
    refine r_imul rfl ?_
    refine r_icmp_gt (tgt := 191) rfl (by decide) (fun hc1 => ?_) (fun hc1 => ?_)
    · have hE := ifP hc1 hE
      refine r_iinc _ rfl rfl (congrArg _ ci_1) (by decide) ?_
      refine r_goto (tgt := 24) rfl (by decide) ?_
      first | exact r_sb (hself_24 _ _ _ _ _ _ _ hE) ⟨rfl, rfl, rfl, rfl, trivial⟩ | exact r_sb (hself_24 _ _ _ _ _ _ _ hE) (by simp only [su1, su2, dr1_rf, dr1_in, dr1_lo, dr2_rf, dr2_in, dr2_lo]; exact ⟨rfl, rfl, rfl, rfl, trivial⟩)
    · have hE := ifN hc1 hE
      refine r_iconst 0 rfl ci_0 ?_
      refine r_istore rfl (by decide) ?_
      first | exact r_sb (Mo_step_b48_ok g N _ hD _ hself_24 _ ih N _ _ _ _ _ _ _ _ _ hE) ⟨rfl, rfl, rfl, rfl, rfl, rfl, trivial⟩ | exact r_sb (Mo_step_b48_ok g N _ hD _ hself_24 _ ih N _ _ _ _ _ _ _ _ _ hE) (by simp only [su1, su2, dr1_rf, dr1_in, dr1_lo, dr2_rf, dr2_in, dr2_lo]; exact ⟨rfl, rfl, rfl, rfl, rfl, rfl, trivial⟩)
def Mo_step_b199 (N : Nat) : Nat → Nat → Int32 → PH → Option (Unit × PH)
  | 0 => fun _ _ _ => none
  | n + 1 => fun a0 x3 h =>
    if 23474 ≤ x3 then
      some ((), h)
    else
      ck ((hK h a0).1 = 11) <|
      ((hR h a0 52)).bind fun a_3 =>
      ck ((hK h a_3).1 = 23) <|
      ck (inb x3 (hK h a_3).2 = true) <|
      ck (¬ (10 : Int64) = 0) <|
      ((hR h a0 51)).bind fun a_8 =>
      ck ((hK h a_8).1 = 23) <|
      ck (inb x3 (hK h a_8).2 = true) <|
      lt0 (wJ h a_8 (ix x3) ((hJ h a_3 (ix x3)) / 10)) fun h12 =>
      (Mo_step_b199 N n) a0 (x3 + 1) h12
set_option maxRecDepth 20000 in
theorem Mo_step_b199_ok (g : GT) (N : Nat) (D : Nat) (hD : 4 ≤ D) : ∀ (n : Nat) (a0 : Nat) (x3 : Int32) (h : PH) (v : Unit) (h' : PH), Mo_step_b199 N n a0 x3 h = some (v, h') → Run g pMo_step D 199 [(0, va_rf (some a0)), (3, .int x3)] [] h (rV v) h' := by
  obtain ⟨D2, rfl⟩ : ∃ d, D = d + 1 := ⟨D - 1, by omega⟩
  intro n
  induction n with
  | zero => exact fun _ _ _ _ _ hE => nomatch (show none = some _ from hE)
  | succ n ih =>
    intro a0 x3 h v h' hE
    unfold Mo_step_b199 at hE
    refine r_iload_n 3 rfl rfl rfl ?_
    refine r_sipush 23474 rfl cs_23474 ?_
    refine r_icmp_ge (tgt := 228) rfl (by decide) (fun hc1 => ?_) (fun hc1 => ?_)
    · have hE := ifP hc1 hE
      cases hE
      exact r_ret rfl (Or.inr (Or.inr (Or.inr ⟨rfl, rfl, rfl, rfl⟩)))
    · have hE := ifN hc1 hE
      refine r_aload_n (t := some a0) 0 rfl rfl rfl ?_
      obtain ⟨hk2, hE⟩ := ckE hE
      refine r_getR rfl (fl_11_106 rfl) (Or.inr ⟨_, rfl⟩) rfl hk2 ?_
      refine r_iload_n 3 rfl rfl rfl ?_
      refine r_aload_n (t := some a0) 0 rfl rfl rfl ?_
      refine r_getR rfl (fl_11_109 rfl) (Or.inr ⟨_, rfl⟩) rfl hk2 ?_
      refine r_iload_n 3 rfl rfl rfl ?_
      obtain ⟨a_3, ha4, hE⟩ := bnE hE
      obtain ⟨hk5, hE⟩ := ckE hE
      obtain ⟨hi6, hE⟩ := ckE hE
      refine r_lald rfl ha4 hk5 hi6 ?_
      refine r_ldc2 rfl kc_11_351 ?_
      obtain ⟨hc7, hE⟩ := ckE hE
      refine r_ldiv rfl hc7 ?_
      obtain ⟨a_8, ha9, hE⟩ := bnE hE
      obtain ⟨hk10, hE⟩ := ckE hE
      obtain ⟨hi11, hE⟩ := ckE hE
      obtain ⟨h12, he13, hE⟩ := ltE hE
      refine r_last rfl ha9 hk10 hi11 he13 ?_
      refine r_iinc _ rfl rfl (congrArg _ ci_1) (by decide) ?_
      refine r_goto (tgt := 199) rfl (by decide) ?_
      first | exact r_sb (ih _ _ _ _ _ hE) ⟨rfl, rfl, trivial⟩ | exact r_sb (ih _ _ _ _ _ hE) (by simp only [su1, su2, dr1_rf, dr1_in, dr1_lo, dr2_rf, dr2_in, dr2_lo]; exact ⟨rfl, rfl, trivial⟩)
def Mo_step_b24 (N : Nat) : Nat → Nat → Int32 → Int32 → Int32 → PH → Option (Unit × PH)
  | 0 => fun _ _ _ _ _ => none
  | n + 1 => fun a0 x1 x2 x3 h =>
    ck ((hK h a0).1 = 11) <|
    ((hR h a0 10)).bind fun a_2 =>
    ck ((hK h a_2).1 = 20) <|
    ck (inb 1 (hK h a_2).2 = true) <|
    if (hI h a_2 (ix 1)) < x3 then
      Mo_step_b199 N N a0 0 h
    else
      Mo_step_b37 N (Mo_step_b24 N n) N a0 x1 x2 x3 0 h
set_option maxRecDepth 20000 in
theorem Mo_step_b24_ok (g : GT) (N : Nat) (D : Nat) (hD : 4 ≤ D) : ∀ (n : Nat) (a0 : Nat) (x1 : Int32) (x2 : Int32) (x3 : Int32) (h : PH) (v : Unit) (h' : PH), Mo_step_b24 N n a0 x1 x2 x3 h = some (v, h') → Run g pMo_step D 24 [(0, va_rf (some a0)), (1, .int x1), (2, .int x2), (3, .int x3)] [] h (rV v) h' := by
  obtain ⟨D2, rfl⟩ : ∃ d, D = d + 1 := ⟨D - 1, by omega⟩
  intro n
  induction n with
  | zero => exact fun _ _ _ _ _ _ _ hE => nomatch (show none = some _ from hE)
  | succ n ih =>
    intro a0 x1 x2 x3 h v h' hE
    unfold Mo_step_b24 at hE
    refine r_iload_n 3 rfl rfl rfl ?_
    refine r_aload_n (t := some a0) 0 rfl rfl rfl ?_
    obtain ⟨hk1, hE⟩ := ckE hE
    refine r_getR rfl (fl_11_13 rfl) (Or.inr ⟨_, rfl⟩) rfl hk1 ?_
    refine r_iconst 1 rfl ci_1 ?_
    obtain ⟨a_2, ha3, hE⟩ := bnE hE
    obtain ⟨hk4, hE⟩ := ckE hE
    obtain ⟨hi5, hE⟩ := ckE hE
    refine r_iald rfl ha3 hk4 hi5 ?_
    refine r_icmp_gt (tgt := 197) rfl (by decide) (fun hc6 => ?_) (fun hc6 => ?_)
    · have hE := ifP hc6 hE
      refine r_iconst 0 rfl ci_0 ?_
      refine r_istore_n 3 rfl rfl (by decide) ?_
      first | exact r_sb (Mo_step_b199_ok g N _ hD  N _ _ _ _ _ hE) ⟨rfl, rfl, trivial⟩ | exact r_sb (Mo_step_b199_ok g N _ hD  N _ _ _ _ _ hE) (by simp only [su1, su2, dr1_rf, dr1_in, dr1_lo, dr2_rf, dr2_in, dr2_lo]; exact ⟨rfl, rfl, trivial⟩)
    · have hE := ifN hc6 hE
      refine r_iconst 0 rfl ci_0 ?_
      refine r_istore rfl (by decide) ?_
      first | exact r_sb (Mo_step_b37_ok g N _ hD _ ih N _ _ _ _ _ _ _ _ hE) ⟨rfl, rfl, rfl, rfl, rfl, trivial⟩ | exact r_sb (Mo_step_b37_ok g N _ hD _ ih N _ _ _ _ _ _ _ _ hE) (by simp only [su1, su2, dr1_rf, dr1_in, dr1_lo, dr2_rf, dr2_in, dr2_lo]; exact ⟨rfl, rfl, rfl, rfl, rfl, trivial⟩)
def Mo_step_b2 (N : Nat) : Nat → Nat → Int32 → Int32 → Int32 → PH → Option (Unit × PH)
  | 0 => fun _ _ _ _ _ => none
  | n + 1 => fun a0 x1 x2 x3 h =>
    if 23474 ≤ x3 then
      Mo_step_b24 N N a0 x1 x2 0 h
    else
      ck ((hK h a0).1 = 11) <|
      ((hR h a0 52)).bind fun a_3 =>
      ck ((hK h a_3).1 = 23) <|
      ck (inb x3 (hK h a_3).2 = true) <|
      lt0 (wJ h a_3 (ix x3) 0) fun h7 =>
      (Mo_step_b2 N n) a0 x1 x2 (x3 + 1) h7
set_option maxRecDepth 20000 in
theorem Mo_step_b2_ok (g : GT) (N : Nat) (D : Nat) (hD : 4 ≤ D) : ∀ (n : Nat) (a0 : Nat) (x1 : Int32) (x2 : Int32) (x3 : Int32) (h : PH) (v : Unit) (h' : PH), Mo_step_b2 N n a0 x1 x2 x3 h = some (v, h') → Run g pMo_step D 2 [(0, va_rf (some a0)), (1, .int x1), (2, .int x2), (3, .int x3)] [] h (rV v) h' := by
  obtain ⟨D2, rfl⟩ : ∃ d, D = d + 1 := ⟨D - 1, by omega⟩
  intro n
  induction n with
  | zero => exact fun _ _ _ _ _ _ _ hE => nomatch (show none = some _ from hE)
  | succ n ih =>
    intro a0 x1 x2 x3 h v h' hE
    unfold Mo_step_b2 at hE
    refine r_iload_n 3 rfl rfl rfl ?_
    refine r_sipush 23474 rfl cs_23474 ?_
    refine r_icmp_ge (tgt := 22) rfl (by decide) (fun hc1 => ?_) (fun hc1 => ?_)
    · have hE := ifP hc1 hE
      refine r_iconst 0 rfl ci_0 ?_
      refine r_istore_n 3 rfl rfl (by decide) ?_
      first | exact r_sb (Mo_step_b24_ok g N _ hD  N _ _ _ _ _ _ _ hE) ⟨rfl, rfl, rfl, rfl, trivial⟩ | exact r_sb (Mo_step_b24_ok g N _ hD  N _ _ _ _ _ _ _ hE) (by simp only [su1, su2, dr1_rf, dr1_in, dr1_lo, dr2_rf, dr2_in, dr2_lo]; exact ⟨rfl, rfl, rfl, rfl, trivial⟩)
    · have hE := ifN hc1 hE
      refine r_aload_n (t := some a0) 0 rfl rfl rfl ?_
      obtain ⟨hk2, hE⟩ := ckE hE
      refine r_getR rfl (fl_11_109 rfl) (Or.inr ⟨_, rfl⟩) rfl hk2 ?_
      refine r_iload_n 3 rfl rfl rfl ?_
      refine r_lconst 0 rfl cl_0 ?_
      obtain ⟨a_3, ha4, hE⟩ := bnE hE
      obtain ⟨hk5, hE⟩ := ckE hE
      obtain ⟨hi6, hE⟩ := ckE hE
      obtain ⟨h7, he8, hE⟩ := ltE hE
      refine r_last rfl ha4 hk5 hi6 he8 ?_
      refine r_iinc _ rfl rfl (congrArg _ ci_1) (by decide) ?_
      refine r_goto (tgt := 2) rfl (by decide) ?_
      first | exact r_sb (ih _ _ _ _ _ _ _ hE) ⟨rfl, rfl, rfl, rfl, trivial⟩ | exact r_sb (ih _ _ _ _ _ _ _ hE) (by simp only [su1, su2, dr1_rf, dr1_in, dr1_lo, dr2_rf, dr2_in, dr2_lo]; exact ⟨rfl, rfl, rfl, rfl, trivial⟩)
def Mo_step (N : Nat) (a0 : Nat) (x1 : Int32) (x2 : Int32) (h : PH) : Option (Unit × PH) :=
  Mo_step_b2 N N a0 x1 x2 0 h
set_option maxRecDepth 20000 in
theorem Mo_step_ok (g : GT) (N : Nat) (a0 : Nat) (x1 : Int32) (x2 : Int32) (h : PH) (v : Unit) (h' : PH) (hE : Mo_step N a0 x1 x2 h = some (v, h')) (D : Nat) (hD : 4 ≤ D) : Calls g D pMo_step [va_rf (some a0), .int x1, .int x2] h (oV v) h' := by
  refine Calls.of cok_Mo_step ht_Mo_step pl_Mo_step (fun ad => by rw [lg_len, sL_cat]; simp only [List.map_cons, List.map_nil, rf_cat, cat_i, cat_l, List.sum_cons, List.sum_nil]; decide) ?_
  rw [show lv_args 0 [va_rf (some a0), .int x1, .int x2] = [(0, va_rf (some a0)), (1, .int x1), (2, .int x2)] from (by simp only [lv_args, rf_cat, cat_i, cat_l]; try rfl)]
  obtain ⟨D2, rfl⟩ : ∃ d, D = d + 1 := ⟨D - 1, by omega⟩
  unfold Mo_step at hE
  refine r_iconst 0 rfl ci_0 ?_
  refine r_istore_n 3 rfl rfl (by decide) ?_
  first | exact r_sb (Mo_step_b2_ok g N _ hD  N _ _ _ _ _ _ _ hE) ⟨rfl, rfl, rfl, rfl, trivial⟩ | exact r_sb (Mo_step_b2_ok g N _ hD  N _ _ _ _ _ _ _ hE) (by simp only [su1, su2, dr1_rf, dr1_in, dr1_lo, dr2_rf, dr2_in, dr2_lo]; exact ⟨rfl, rfl, rfl, rfl, trivial⟩)
def Mo_read_b187 (N : Nat) (self_127 : Nat → Int32 → Int32 → Int64 → Int64 → Int32 → Int32 → PH → Option (Int32 × PH)) (a0 : Nat) (x3 : Int32) (x4 : Int32) (x5 : Int64) (x7 : Int64) (x9 : Int32) (x10 : Int32) (h : PH) : Option (Int32 × PH) :=
  self_127 a0 x3 x4 x5 x7 x9 (x10 + 1) h
set_option maxRecDepth 20000 in
theorem Mo_read_b187_ok (g : GT) (N : Nat) (D : Nat) (hD : 5 ≤ D) (self_127 : Nat → Int32 → Int32 → Int64 → Int64 → Int32 → Int32 → PH → Option (Int32 × PH)) (hself_127 : ∀ (a0 : Nat) (x3 : Int32) (x4 : Int32) (x5 : Int64) (x7 : Int64) (x9 : Int32) (x10 : Int32) (h : PH) (v : Int32) (h' : PH), self_127 a0 x3 x4 x5 x7 x9 x10 h = some (v, h') → Run g pMo_read D 127 [(0, va_rf (some a0)), (3, .int x3), (4, .int x4), (5, .long x5), (7, .long x7), (9, .int x9), (10, .int x10)] [] h (rI v) h') : ∀ (a0 : Nat) (x3 : Int32) (x4 : Int32) (x5 : Int64) (x7 : Int64) (x9 : Int32) (x10 : Int32) (h : PH) (v : Int32) (h' : PH), Mo_read_b187 N self_127 a0 x3 x4 x5 x7 x9 x10 h = some (v, h') → Run g pMo_read D 187 [(0, va_rf (some a0)), (3, .int x3), (4, .int x4), (5, .long x5), (7, .long x7), (9, .int x9), (10, .int x10)] [] h (rI v) h' := by
  obtain ⟨D2, rfl⟩ : ∃ d, D = d + 1 := ⟨D - 1, by omega⟩
  intro a0 x3 x4 x5 x7 x9 x10 h v h' hE
  unfold Mo_read_b187 at hE
  refine r_iinc _ rfl rfl (congrArg _ ci_1) (by decide) ?_
  refine r_goto (tgt := 127) rfl (by decide) ?_
  first | exact r_sb (hself_127 _ _ _ _ _ _ _ _ _ _ hE) ⟨rfl, rfl, rfl, rfl, rfl, rfl, rfl, trivial⟩ | exact r_sb (hself_127 _ _ _ _ _ _ _ _ _ _ hE) (by simp only [su1, su2, dr1_rf, dr1_in, dr1_lo, dr2_rf, dr2_in, dr2_lo]; exact ⟨rfl, rfl, rfl, rfl, rfl, rfl, rfl, trivial⟩)
def Mo_read_b127 (N : Nat) : Nat → Nat → Int32 → Int32 → Int64 → Int64 → Int32 → Int32 → PH → Option (Int32 × PH)
  | 0 => fun _ _ _ _ _ _ _ _ => none
  | n + 1 => fun a0 x3 x4 x5 x7 x9 x10 h =>
    if 97 ≤ x10 then
      if x4 = 0 then
        some ((Int64.toInt32 x5), h)
      else
        some (x9, h)
    else
      ck ((hK h a0).1 = 11) <|
      bd (Mo_likelyAt N x3 x10 0 h) fun v4 h5 =>
      ((hR h a0 51)).bind fun a_7 =>
      ck ((hK h5 a_7).1 = 23) <|
      ck (inb v4 (hK h5 a_7).2 = true) <|
      ck ((hK h5 a0).1 = 11) <|
      bd (Mo_likelyAt N x3 x10 1 h5) fun v12 h13 =>
      ((hR h5 a0 51)).bind fun a_15 =>
      ck ((hK h13 a_15).1 = 23) <|
      ck (inb v12 (hK h13 a_15).2 = true) <|
      if 0 < (lg_cmp ((hJ h5 a_7 (ix v4)) + (hJ h13 a_15 (ix v12))) x7) then
        Mo_read_b187 N (Mo_read_b127 N n)  a0 x3 x4 (x5 + ((hJ h5 a_7 (ix v4)) + (hJ h13 a_15 (ix v12)))) ((hJ h5 a_7 (ix v4)) + (hJ h13 a_15 (ix v12))) x10 x10 h13
      else
        Mo_read_b187 N (Mo_read_b127 N n)  a0 x3 x4 (x5 + ((hJ h5 a_7 (ix v4)) + (hJ h13 a_15 (ix v12)))) x7 x9 x10 h13
set_option maxRecDepth 20000 in
theorem Mo_read_b127_ok (g : GT) (N : Nat) (D : Nat) (hD : 5 ≤ D) : ∀ (n : Nat) (a0 : Nat) (x3 : Int32) (x4 : Int32) (x5 : Int64) (x7 : Int64) (x9 : Int32) (x10 : Int32) (h : PH) (v : Int32) (h' : PH), Mo_read_b127 N n a0 x3 x4 x5 x7 x9 x10 h = some (v, h') → Run g pMo_read D 127 [(0, va_rf (some a0)), (3, .int x3), (4, .int x4), (5, .long x5), (7, .long x7), (9, .int x9), (10, .int x10)] [] h (rI v) h' := by
  obtain ⟨D2, rfl⟩ : ∃ d, D = d + 1 := ⟨D - 1, by omega⟩
  intro n
  induction n with
  | zero => exact fun _ _ _ _ _ _ _ _ _ _ hE => nomatch (show none = some _ from hE)
  | succ n ih =>
    intro a0 x3 x4 x5 x7 x9 x10 h v h' hE
    unfold Mo_read_b127 at hE
    refine r_iload rfl rfl ?_
    refine r_bipush 97 rfl cb_97 ?_
    refine r_icmp_ge (tgt := 193) rfl (by decide) (fun hc1 => ?_) (fun hc1 => ?_)
    · have hE := ifP hc1 hE
      refine r_iload rfl rfl ?_
      refine r_if_ne (tgt := 204) rfl (by decide) (fun hc2 => ?_) (fun hc2 => ?_)
      · have hE := ifP hc2 hE
        refine r_lload rfl rfl ?_
        refine r_l2i rfl ?_
        refine r_goto (tgt := 206) rfl (by decide) ?_
        cases hE
        exact r_ret rfl (Or.inl ⟨rfl, _, _, rfl, rfl, rfl, rfl⟩)
      · have hE := ifN hc2 hE
        refine r_iload rfl rfl ?_
        cases hE
        exact r_ret rfl (Or.inl ⟨rfl, _, _, rfl, rfl, rfl, rfl⟩)
    · have hE := ifN hc1 hE
      refine r_aload_n (t := some a0) 0 rfl rfl rfl ?_
      obtain ⟨hk3, hE⟩ := ckE hE
      refine r_getR rfl (fl_11_106 rfl) (Or.inr ⟨_, rfl⟩) rfl hk3 ?_
      refine r_iload_n 3 rfl rfl rfl ?_
      refine r_iload rfl rfl ?_
      refine r_iconst 0 rfl ci_0 ?_
      obtain ⟨v4, h5, hq6, hE⟩ := bdE hE
      refine r_callS1 (rest := [va_rf (hR h a0 51)]) (hc := (Mo_likelyAt_ok g N _ _ _ _ _ _ hq6 D2 (by omega))) rfl pm_Mo_likelyAt lw_11_470 st_Mo_likelyAt rfl rfl (by simp only [List.map_cons, List.map_nil, rf_cat, cat_i, cat_l, List.sum_cons, List.sum_nil]; decide) ?_
      obtain ⟨a_7, ha8, hE⟩ := bnE hE
      obtain ⟨hk9, hE⟩ := ckE hE
      obtain ⟨hi10, hE⟩ := ckE hE
      refine r_lald rfl ha8 hk9 hi10 ?_
      refine r_aload_n (t := some a0) 0 rfl rfl rfl ?_
      obtain ⟨hk11, hE⟩ := ckE hE
      refine r_getR rfl (fl_11_106 rfl) (Or.inr ⟨_, rfl⟩) rfl hk11 ?_
      refine r_iload_n 3 rfl rfl rfl ?_
      refine r_iload rfl rfl ?_
      refine r_iconst 1 rfl ci_1 ?_
      obtain ⟨v12, h13, hq14, hE⟩ := bdE hE
      refine r_callS1 (rest := [va_rf (hR h5 a0 51), .long (hJ h5 a_7 (ix v4))]) (hc := (Mo_likelyAt_ok g N _ _ _ _ _ _ hq14 D2 (by omega))) rfl pm_Mo_likelyAt lw_11_470 st_Mo_likelyAt rfl rfl (by simp only [List.map_cons, List.map_nil, rf_cat, cat_i, cat_l, List.sum_cons, List.sum_nil]; decide) ?_
      obtain ⟨a_15, ha16, hE⟩ := bnE hE
      obtain ⟨hk17, hE⟩ := ckE hE
      obtain ⟨hi18, hE⟩ := ckE hE
      refine r_lald rfl ha16 hk17 hi18 ?_
      refine r_ladd rfl ?_
      refine r_lstore rfl (by decide) ?_
      refine r_lload rfl rfl ?_
      refine r_lload rfl rfl ?_
      refine r_ladd rfl ?_
      refine r_lstore rfl (by decide) ?_
      refine r_lload rfl rfl ?_
      refine r_lload rfl rfl ?_
      refine r_lcmp rfl ?_
      refine r_if_gt (tgt := 179) rfl (by decide) (fun hc19 => ?_) (fun hc19 => ?_)
      · have hE := ifP hc19 hE
        refine r_lload rfl rfl ?_
        refine r_lstore rfl (by decide) ?_
        refine r_iload rfl rfl ?_
        refine r_istore rfl (by decide) ?_
        first | exact r_sb (Mo_read_b187_ok g N _ hD _ ih  _ _ _ _ _ _ _ _ _ _ hE) ⟨rfl, rfl, rfl, rfl, rfl, rfl, rfl, trivial⟩ | exact r_sb (Mo_read_b187_ok g N _ hD _ ih  _ _ _ _ _ _ _ _ _ _ hE) (by simp only [su1, su2, dr1_rf, dr1_in, dr1_lo, dr2_rf, dr2_in, dr2_lo]; exact ⟨rfl, rfl, rfl, rfl, rfl, rfl, rfl, trivial⟩)
      · have hE := ifN hc19 hE
        refine r_goto (tgt := 187) rfl (by decide) ?_
        first | exact r_sb (Mo_read_b187_ok g N _ hD _ ih  _ _ _ _ _ _ _ _ _ _ hE) ⟨rfl, rfl, rfl, rfl, rfl, rfl, rfl, trivial⟩ | exact r_sb (Mo_read_b187_ok g N _ hD _ ih  _ _ _ _ _ _ _ _ _ _ hE) (by simp only [su1, su2, dr1_rf, dr1_in, dr1_lo, dr2_rf, dr2_in, dr2_lo]; exact ⟨rfl, rfl, rfl, rfl, rfl, rfl, rfl, trivial⟩)
def Mo_read_b96 (N : Nat) : Nat → Nat → Int32 → Int32 → Int32 → Int32 → Int32 → PH → Option (Int32 × PH)
  | 0 => fun _ _ _ _ _ _ _ => none
  | n + 1 => fun a0 x1 x2 x3 x4 x5 h =>
    if x2 ≤ x5 then
      Mo_read_b127 N N a0 x3 x4 0 0 (-1) 0 h
    else
      ck ((hK h a0).1 = 11) <|
      bd (Mo_step N a0 x1 x5 h) fun v3 h4 =>
      (Mo_read_b96 N n) a0 x1 x2 x3 x4 (x5 + 1) h4
set_option maxRecDepth 20000 in
theorem Mo_read_b96_ok (g : GT) (N : Nat) (D : Nat) (hD : 5 ≤ D) : ∀ (n : Nat) (a0 : Nat) (x1 : Int32) (x2 : Int32) (x3 : Int32) (x4 : Int32) (x5 : Int32) (h : PH) (v : Int32) (h' : PH), Mo_read_b96 N n a0 x1 x2 x3 x4 x5 h = some (v, h') → Run g pMo_read D 96 [(0, va_rf (some a0)), (1, .int x1), (2, .int x2), (3, .int x3), (4, .int x4), (5, .int x5)] [] h (rI v) h' := by
  obtain ⟨D2, rfl⟩ : ∃ d, D = d + 1 := ⟨D - 1, by omega⟩
  intro n
  induction n with
  | zero => exact fun _ _ _ _ _ _ _ _ _ hE => nomatch (show none = some _ from hE)
  | succ n ih =>
    intro a0 x1 x2 x3 x4 x5 h v h' hE
    unfold Mo_read_b96 at hE
    refine r_iload rfl rfl ?_
    refine r_iload_n 2 rfl rfl rfl ?_
    refine r_icmp_ge (tgt := 115) rfl (by decide) (fun hc1 => ?_) (fun hc1 => ?_)
    · have hE := ifP hc1 hE
      refine r_lconst 0 rfl cl_0 ?_
      refine r_lstore rfl (by decide) ?_
      refine r_lconst 0 rfl cl_0 ?_
      refine r_lstore rfl (by decide) ?_
      refine r_iconst (-1) rfl ci_m1 ?_
      refine r_istore rfl (by decide) ?_
      refine r_iconst 0 rfl ci_0 ?_
      refine r_istore rfl (by decide) ?_
      first | exact r_sb (Mo_read_b127_ok g N _ hD  N _ _ _ _ _ _ _ _ _ _ hE) ⟨rfl, rfl, rfl, rfl, rfl, rfl, rfl, trivial⟩ | exact r_sb (Mo_read_b127_ok g N _ hD  N _ _ _ _ _ _ _ _ _ _ hE) (by simp only [su1, su2, dr1_rf, dr1_in, dr1_lo, dr2_rf, dr2_in, dr2_lo]; exact ⟨rfl, rfl, rfl, rfl, rfl, rfl, rfl, trivial⟩)
    · have hE := ifN hc1 hE
      refine r_aload_n (t := some a0) 0 rfl rfl rfl ?_
      refine r_iload_n 1 rfl rfl rfl ?_
      refine r_iload rfl rfl ?_
      obtain ⟨hk2, hE⟩ := ckE hE
      obtain ⟨v3, h4, hq5, hE⟩ := bdE hE
      refine r_callV0 (rest := []) (hc := (Mo_step_ok g N _ _ _ _ _ _ hq5 D2 (by omega))) rfl pm_Mo_step lw_11_473 im_Mo_step sl_Mo_step rfl rfl rfl (rcOK hk2 rfl) (by decide) ?_
      refine r_iinc _ rfl rfl (congrArg _ ci_1) (by decide) ?_
      refine r_goto (tgt := 96) rfl (by decide) ?_
      first | exact r_sb (ih _ _ _ _ _ _ _ _ _ hE) ⟨rfl, rfl, rfl, rfl, rfl, rfl, trivial⟩ | exact r_sb (ih _ _ _ _ _ _ _ _ _ hE) (by simp only [su1, su2, dr1_rf, dr1_in, dr1_lo, dr2_rf, dr2_in, dr2_lo]; exact ⟨rfl, rfl, rfl, rfl, rfl, rfl, trivial⟩)
def Mo_read_b52 (N : Nat) : Nat → Nat → Int32 → Int32 → Int32 → Int32 → Int32 → PH → Option (Int32 × PH)
  | 0 => fun _ _ _ _ _ _ _ => none
  | n + 1 => fun a0 x1 x2 x3 x4 x5 h =>
    if 23474 ≤ x5 then
      ck ((hK h a0).1 = 11) <|
      ((hR h a0 10)).bind fun a_3 =>
      ck ((hK h a_3).1 = 20) <|
      ck (inb 1 (hK h a_3).2 = true) <|
      bd (Mo_likelyAt N (hI h a_3 (ix 1)) 0 0 h) fun v7 h8 =>
      ((hR h a0 51)).bind fun a_10 =>
      ck ((hK h8 a_10).1 = 23) <|
      ck (inb v7 (hK h8 a_10).2 = true) <|
      lt0 (wJ h8 a_10 (ix v7) 1000000) fun h14 =>
      Mo_read_b96 N N a0 x1 x2 x3 x4 0 h14
    else
      ck ((hK h a0).1 = 11) <|
      ((hR h a0 51)).bind fun a_17 =>
      ck ((hK h a_17).1 = 23) <|
      ck (inb x5 (hK h a_17).2 = true) <|
      lt0 (wJ h a_17 (ix x5) 0) fun h21 =>
      (Mo_read_b52 N n) a0 x1 x2 x3 x4 (x5 + 1) h21
set_option maxRecDepth 20000 in
theorem Mo_read_b52_ok (g : GT) (N : Nat) (D : Nat) (hD : 5 ≤ D) : ∀ (n : Nat) (a0 : Nat) (x1 : Int32) (x2 : Int32) (x3 : Int32) (x4 : Int32) (x5 : Int32) (h : PH) (v : Int32) (h' : PH), Mo_read_b52 N n a0 x1 x2 x3 x4 x5 h = some (v, h') → Run g pMo_read D 52 [(0, va_rf (some a0)), (1, .int x1), (2, .int x2), (3, .int x3), (4, .int x4), (5, .int x5)] [] h (rI v) h' := by
  obtain ⟨D2, rfl⟩ : ∃ d, D = d + 1 := ⟨D - 1, by omega⟩
  intro n
  induction n with
  | zero => exact fun _ _ _ _ _ _ _ _ _ hE => nomatch (show none = some _ from hE)
  | succ n ih =>
    intro a0 x1 x2 x3 x4 x5 h v h' hE
    unfold Mo_read_b52 at hE
    refine r_iload rfl rfl ?_
    refine r_sipush 23474 rfl cs_23474 ?_
    refine r_icmp_ge (tgt := 74) rfl (by decide) (fun hc1 => ?_) (fun hc1 => ?_)
    · have hE := ifP hc1 hE
      refine r_aload_n (t := some a0) 0 rfl rfl rfl ?_
      obtain ⟨hk2, hE⟩ := ckE hE
      refine r_getR rfl (fl_11_106 rfl) (Or.inr ⟨_, rfl⟩) rfl hk2 ?_
      refine r_aload_n (t := some a0) 0 rfl rfl rfl ?_
      refine r_getR rfl (fl_11_13 rfl) (Or.inr ⟨_, rfl⟩) rfl hk2 ?_
      refine r_iconst 1 rfl ci_1 ?_
      obtain ⟨a_3, ha4, hE⟩ := bnE hE
      obtain ⟨hk5, hE⟩ := ckE hE
      obtain ⟨hi6, hE⟩ := ckE hE
      refine r_iald rfl ha4 hk5 hi6 ?_
      refine r_iconst 0 rfl ci_0 ?_
      refine r_iconst 0 rfl ci_0 ?_
      obtain ⟨v7, h8, hq9, hE⟩ := bdE hE
      refine r_callS1 (rest := [va_rf (hR h a0 51)]) (hc := (Mo_likelyAt_ok g N _ _ _ _ _ _ hq9 D2 (by omega))) rfl pm_Mo_likelyAt lw_11_470 st_Mo_likelyAt rfl rfl (by simp only [List.map_cons, List.map_nil, rf_cat, cat_i, cat_l, List.sum_cons, List.sum_nil]; decide) ?_
      refine r_ldc2 rfl kc_11_353 ?_
      obtain ⟨a_10, ha11, hE⟩ := bnE hE
      obtain ⟨hk12, hE⟩ := ckE hE
      obtain ⟨hi13, hE⟩ := ckE hE
      obtain ⟨h14, he15, hE⟩ := ltE hE
      refine r_last rfl ha11 hk12 hi13 he15 ?_
      refine r_iconst 0 rfl ci_0 ?_
      refine r_istore rfl (by decide) ?_
      first | exact r_sb (Mo_read_b96_ok g N _ hD  N _ _ _ _ _ _ _ _ _ hE) ⟨rfl, rfl, rfl, rfl, rfl, rfl, trivial⟩ | exact r_sb (Mo_read_b96_ok g N _ hD  N _ _ _ _ _ _ _ _ _ hE) (by simp only [su1, su2, dr1_rf, dr1_in, dr1_lo, dr2_rf, dr2_in, dr2_lo]; exact ⟨rfl, rfl, rfl, rfl, rfl, rfl, trivial⟩)
    · have hE := ifN hc1 hE
      refine r_aload_n (t := some a0) 0 rfl rfl rfl ?_
      obtain ⟨hk16, hE⟩ := ckE hE
      refine r_getR rfl (fl_11_106 rfl) (Or.inr ⟨_, rfl⟩) rfl hk16 ?_
      refine r_iload rfl rfl ?_
      refine r_lconst 0 rfl cl_0 ?_
      obtain ⟨a_17, ha18, hE⟩ := bnE hE
      obtain ⟨hk19, hE⟩ := ckE hE
      obtain ⟨hi20, hE⟩ := ckE hE
      obtain ⟨h21, he22, hE⟩ := ltE hE
      refine r_last rfl ha18 hk19 hi20 he22 ?_
      refine r_iinc _ rfl rfl (congrArg _ ci_1) (by decide) ?_
      refine r_goto (tgt := 52) rfl (by decide) ?_
      first | exact r_sb (ih _ _ _ _ _ _ _ _ _ hE) ⟨rfl, rfl, rfl, rfl, rfl, rfl, trivial⟩ | exact r_sb (ih _ _ _ _ _ _ _ _ _ hE) (by simp only [su1, su2, dr1_rf, dr1_in, dr1_lo, dr2_rf, dr2_in, dr2_lo]; exact ⟨rfl, rfl, rfl, rfl, rfl, rfl, trivial⟩)
def Mo_read (N : Nat) (a0 : Nat) (x1 : Int32) (x2 : Int32) (x3 : Int32) (x4 : Int32) (h : PH) : Option (Int32 × PH) :=
  ck ((hK h a0).1 = 11) <|
  lt0 (wI h a0 0 0) fun h2 =>
  bd (Mo_isHabit N a0 x1 h2) fun v4 h5 =>
  if (bI v4) = 0 then
    some ((-1), h5)
  else
    ck ((hK h5 a0).1 = 11) <|
    ((hR h5 a0 10)).bind fun a_9 =>
    ck ((hK h5 a_9).1 = 20) <|
    ck (inb 0 (hK h5 a_9).2 = true) <|
    bd (Mo_within N x2 0 (hI h5 a_9 (ix 0)) h5) fun v13 h14 =>
    if (bI v13) = 0 then
      some ((-1), h14)
    else
      bd (Mo_within N x3 0 120 h14) fun v17 h18 =>
      if (bI v17) = 0 then
        some ((-1), h18)
      else
        bd (Mo_within N x4 0 1 h18) fun v21 h22 =>
        if (bI v21) = 0 then
          some ((-1), h22)
        else
          Mo_read_b52 N N a0 x1 x2 x3 x4 0 h22
set_option maxRecDepth 20000 in
theorem Mo_read_ok (g : GT) (N : Nat) (a0 : Nat) (x1 : Int32) (x2 : Int32) (x3 : Int32) (x4 : Int32) (h : PH) (v : Int32) (h' : PH) (hE : Mo_read N a0 x1 x2 x3 x4 h = some (v, h')) (D : Nat) (hD : 5 ≤ D) : Calls g D pMo_read [va_rf (some a0), .int x1, .int x2, .int x3, .int x4] h (oI v) h' := by
  refine Calls.of cok_Mo_read ht_Mo_read pl_Mo_read (fun ad => by rw [lg_len, sL_cat]; simp only [List.map_cons, List.map_nil, rf_cat, cat_i, cat_l, List.sum_cons, List.sum_nil]; decide) ?_
  rw [show lv_args 0 [va_rf (some a0), .int x1, .int x2, .int x3, .int x4] = [(0, va_rf (some a0)), (1, .int x1), (2, .int x2), (3, .int x3), (4, .int x4)] from (by simp only [lv_args, rf_cat, cat_i, cat_l]; try rfl)]
  obtain ⟨D2, rfl⟩ : ∃ d, D = d + 1 := ⟨D - 1, by omega⟩
  unfold Mo_read at hE
  refine r_aload_n (t := some a0) 0 rfl rfl rfl ?_
  refine r_iconst 0 rfl ci_0 ?_
  obtain ⟨hk1, hE⟩ := ckE hE
  obtain ⟨h2, he3, hE⟩ := ltE hE
  refine r_putI rfl (fl_11_119 rfl) finF rfl hk1 he3 ?_
  refine r_aload_n (t := some a0) 0 rfl rfl rfl ?_
  refine r_iload_n 1 rfl rfl rfl ?_
  obtain ⟨v4, h5, hq6, hE⟩ := bdE hE
  refine r_callV1 (rest := []) (hc := (Mo_isHabit_ok g N _ _ _ _ _ hq6 D2 (by omega))) rfl pm_Mo_isHabit lw_11_441 im_Mo_isHabit sl_Mo_isHabit rfl rfl rfl (rcOK (kwI he3 hk1) rfl) (by decide) ?_
  refine r_if_eq (tgt := 47) rfl (by decide) (fun hc7 => ?_) (fun hc7 => ?_)
  · have hE := ifP hc7 hE
    refine r_iconst (-1) rfl ci_m1 ?_
    cases hE
    exact r_ret rfl (Or.inl ⟨rfl, _, _, rfl, rfl, rfl, rfl⟩)
  · have hE := ifN hc7 hE
    refine r_iload_n 2 rfl rfl rfl ?_
    refine r_iconst 0 rfl ci_0 ?_
    refine r_aload_n (t := some a0) 0 rfl rfl rfl ?_
    obtain ⟨hk8, hE⟩ := ckE hE
    refine r_getR rfl (fl_11_13 rfl) (Or.inr ⟨_, rfl⟩) rfl hk8 ?_
    refine r_iconst 0 rfl ci_0 ?_
    obtain ⟨a_9, ha10, hE⟩ := bnE hE
    obtain ⟨hk11, hE⟩ := ckE hE
    obtain ⟨hi12, hE⟩ := ckE hE
    refine r_iald rfl ha10 hk11 hi12 ?_
    obtain ⟨v13, h14, hq15, hE⟩ := bdE hE
    refine r_callS1 (rest := []) (hc := (Mo_within_ok g N _ _ _ _ _ _ hq15 D2 (by omega))) rfl pm_Mo_within lw_11_247 st_Mo_within rfl rfl (by decide) ?_
    refine r_if_eq (tgt := 47) rfl (by decide) (fun hc16 => ?_) (fun hc16 => ?_)
    · have hE := ifP hc16 hE
      refine r_iconst (-1) rfl ci_m1 ?_
      cases hE
      exact r_ret rfl (Or.inl ⟨rfl, _, _, rfl, rfl, rfl, rfl⟩)
    · have hE := ifN hc16 hE
      refine r_iload_n 3 rfl rfl rfl ?_
      refine r_iconst 0 rfl ci_0 ?_
      refine r_bipush 120 rfl cb_120 ?_
      obtain ⟨v17, h18, hq19, hE⟩ := bdE hE
      refine r_callS1 (rest := []) (hc := (Mo_within_ok g N _ _ _ _ _ _ hq19 D2 (by omega))) rfl pm_Mo_within lw_11_247 st_Mo_within rfl rfl (by decide) ?_
      refine r_if_eq (tgt := 47) rfl (by decide) (fun hc20 => ?_) (fun hc20 => ?_)
      · have hE := ifP hc20 hE
        refine r_iconst (-1) rfl ci_m1 ?_
        cases hE
        exact r_ret rfl (Or.inl ⟨rfl, _, _, rfl, rfl, rfl, rfl⟩)
      · have hE := ifN hc20 hE
        refine r_iload rfl rfl ?_
        refine r_iconst 0 rfl ci_0 ?_
        refine r_iconst 1 rfl ci_1 ?_
        obtain ⟨v21, h22, hq23, hE⟩ := bdE hE
        refine r_callS1 (rest := []) (hc := (Mo_within_ok g N _ _ _ _ _ _ hq23 D2 (by omega))) rfl pm_Mo_within lw_11_247 st_Mo_within rfl rfl (by decide) ?_
        refine r_if_ne (tgt := 49) rfl (by decide) (fun hc24 => ?_) (fun hc24 => ?_)
        · have hE := ifP hc24 hE
          refine r_iconst (-1) rfl ci_m1 ?_
          cases hE
          exact r_ret rfl (Or.inl ⟨rfl, _, _, rfl, rfl, rfl, rfl⟩)
        · have hE := ifN hc24 hE
          refine r_iconst 0 rfl ci_0 ?_
          refine r_istore rfl (by decide) ?_
          first | exact r_sb (Mo_read_b52_ok g N _ hD  N _ _ _ _ _ _ _ _ _ hE) ⟨rfl, rfl, rfl, rfl, rfl, rfl, trivial⟩ | exact r_sb (Mo_read_b52_ok g N _ hD  N _ _ _ _ _ _ _ _ _ hE) (by simp only [su1, su2, dr1_rf, dr1_in, dr1_lo, dr2_rf, dr2_in, dr2_lo]; exact ⟨rfl, rfl, rfl, rfl, rfl, rfl, trivial⟩)
def Mo_sheets_b71 (N : Nat) (self_36 : Nat → Int32 → Int32 → Int64 → Int64 → Int32 → PH → Option (Int32 × PH)) (s0 : Int64) (s1 : Int64) (a0 : Nat) (x1 : Int32) (x2 : Int32) (x5 : Int64) (x7 : Int32) (h : PH) : Option (Int32 × PH) :=
  self_36 a0 x1 x2 (s0 * s1) (x5 * 10) (x7 + 1) h
set_option maxRecDepth 20000 in
theorem Mo_sheets_b71_ok (g : GT) (N : Nat) (D : Nat) (hD : 1 ≤ D) (self_36 : Nat → Int32 → Int32 → Int64 → Int64 → Int32 → PH → Option (Int32 × PH)) (hself_36 : ∀ (a0 : Nat) (x1 : Int32) (x2 : Int32) (x3 : Int64) (x5 : Int64) (x7 : Int32) (h : PH) (v : Int32) (h' : PH), self_36 a0 x1 x2 x3 x5 x7 h = some (v, h') → Run g pMo_sheets D 36 [(0, va_rf (some a0)), (1, .int x1), (2, .int x2), (3, .long x3), (5, .long x5), (7, .int x7)] [] h (rI v) h') : ∀ (s0 : Int64) (s1 : Int64) (a0 : Nat) (x1 : Int32) (x2 : Int32) (x5 : Int64) (x7 : Int32) (h : PH) (v : Int32) (h' : PH), Mo_sheets_b71 N self_36 s0 s1 a0 x1 x2 x5 x7 h = some (v, h') → Run g pMo_sheets D 71 [(0, va_rf (some a0)), (1, .int x1), (2, .int x2), (5, .long x5), (7, .int x7)] [.long s1, .long s0] h (rI v) h' := by
  obtain ⟨D2, rfl⟩ : ∃ d, D = d + 1 := ⟨D - 1, by omega⟩
  intro s0 s1 a0 x1 x2 x5 x7 h v h' hE
  unfold Mo_sheets_b71 at hE
  refine r_lmul rfl ?_
  refine r_lstore_n 3 rfl rfl (by decide) ?_
  refine r_lload rfl rfl ?_
  refine r_ldc2 rfl kc_11_351 ?_
  refine r_lmul rfl ?_
  refine r_lstore rfl (by decide) ?_
  refine r_iinc _ rfl rfl (congrArg _ ci_1) (by decide) ?_
  refine r_goto (tgt := 36) rfl (by decide) ?_
  first | exact r_sb (hself_36 _ _ _ _ _ _ _ _ _ hE) ⟨rfl, rfl, rfl, rfl, rfl, rfl, trivial⟩ | exact r_sb (hself_36 _ _ _ _ _ _ _ _ _ hE) (by simp only [su1, su2, dr1_rf, dr1_in, dr1_lo, dr2_rf, dr2_in, dr2_lo]; exact ⟨rfl, rfl, rfl, rfl, rfl, rfl, trivial⟩)
def Mo_sheets_b93 (N : Nat) : Nat → Int32 → Int32 → Int64 → Int64 → Int64 → Int32 → PH → Option (Int32 × PH)
  | 0 => fun _ _ _ _ _ _ _ => none
  | n + 1 => fun x1 x2 x3 x5 x7 x9 h =>
    if x2 ≤ x9 then
      ck (¬ x5 = 0) <|
      some ((Int64.toInt32 ((x3 * x7) / x5)), h)
    else
      ck (¬ (Int32.toInt64 (x9 + 1)) = 0) <|
      (Mo_sheets_b93 N n) x1 x2 x3 x5 ((x7 * (Int32.toInt64 (x1 - x9))) / (Int32.toInt64 (x9 + 1))) (x9 + 1) h
set_option maxRecDepth 20000 in
theorem Mo_sheets_b93_ok (g : GT) (N : Nat) (D : Nat) (hD : 1 ≤ D) : ∀ (n : Nat) (x1 : Int32) (x2 : Int32) (x3 : Int64) (x5 : Int64) (x7 : Int64) (x9 : Int32) (h : PH) (v : Int32) (h' : PH), Mo_sheets_b93 N n x1 x2 x3 x5 x7 x9 h = some (v, h') → Run g pMo_sheets D 93 [(1, .int x1), (2, .int x2), (3, .long x3), (5, .long x5), (7, .long x7), (9, .int x9)] [] h (rI v) h' := by
  obtain ⟨D2, rfl⟩ : ∃ d, D = d + 1 := ⟨D - 1, by omega⟩
  intro n
  induction n with
  | zero => exact fun _ _ _ _ _ _ _ _ _ hE => nomatch (show none = some _ from hE)
  | succ n ih =>
    intro x1 x2 x3 x5 x7 x9 h v h' hE
    unfold Mo_sheets_b93 at hE
    refine r_iload rfl rfl ?_
    refine r_iload_n 2 rfl rfl rfl ?_
    refine r_icmp_ge (tgt := 121) rfl (by decide) (fun hc1 => ?_) (fun hc1 => ?_)
    · have hE := ifP hc1 hE
      refine r_lload_n 3 rfl rfl rfl ?_
      refine r_lload rfl rfl ?_
      refine r_lmul rfl ?_
      refine r_lload rfl rfl ?_
      obtain ⟨hc2, hE⟩ := ckE hE
      refine r_ldiv rfl hc2 ?_
      refine r_l2i rfl ?_
      cases hE
      exact r_ret rfl (Or.inl ⟨rfl, _, _, rfl, rfl, rfl, rfl⟩)
    · have hE := ifN hc1 hE
      refine r_lload rfl rfl ?_
      refine r_iload_n 1 rfl rfl rfl ?_
      refine r_iload rfl rfl ?_
      refine r_isub rfl ?_
      refine r_i2l rfl ?_
      refine r_lmul rfl ?_
      refine r_iload rfl rfl ?_
      refine r_iconst 1 rfl ci_1 ?_
      refine r_iadd rfl ?_
      refine r_i2l rfl ?_
      obtain ⟨hc3, hE⟩ := ckE hE
      refine r_ldiv rfl hc3 ?_
      refine r_lstore rfl (by decide) ?_
      refine r_iinc _ rfl rfl (congrArg _ ci_1) (by decide) ?_
      refine r_goto (tgt := 93) rfl (by decide) ?_
      first | exact r_sb (ih _ _ _ _ _ _ _ _ _ hE) ⟨rfl, rfl, rfl, rfl, rfl, rfl, trivial⟩ | exact r_sb (ih _ _ _ _ _ _ _ _ _ hE) (by simp only [su1, su2, dr1_rf, dr1_in, dr1_lo, dr2_rf, dr2_in, dr2_lo]; exact ⟨rfl, rfl, rfl, rfl, rfl, rfl, trivial⟩)
def Mo_sheets_b36 (N : Nat) : Nat → Nat → Int32 → Int32 → Int64 → Int64 → Int32 → PH → Option (Int32 × PH)
  | 0 => fun _ _ _ _ _ _ _ => none
  | n + 1 => fun a0 x1 x2 x3 x5 x7 h =>
    if x1 ≤ x7 then
      Mo_sheets_b93 N N x1 x2 x3 x5 1 0 h
    else
      if x2 ≤ x7 then
        ck ((hK h a0).1 = 11) <|
        ((hR h a0 10)).bind fun a_4 =>
        ck ((hK h a_4).1 = 20) <|
        ck (inb 14 (hK h a_4).2 = true) <|
        Mo_sheets_b71 N (Mo_sheets_b36 N n)  x3 (Int32.toInt64 (10 - (hI h a_4 (ix 14)))) a0 x1 x2 x5 x7 h
      else
        ck ((hK h a0).1 = 11) <|
        ((hR h a0 10)).bind fun a_9 =>
        ck ((hK h a_9).1 = 20) <|
        ck (inb 14 (hK h a_9).2 = true) <|
        Mo_sheets_b71 N (Mo_sheets_b36 N n)  x3 (Int32.toInt64 (hI h a_9 (ix 14))) a0 x1 x2 x5 x7 h
set_option maxRecDepth 20000 in
theorem Mo_sheets_b36_ok (g : GT) (N : Nat) (D : Nat) (hD : 1 ≤ D) : ∀ (n : Nat) (a0 : Nat) (x1 : Int32) (x2 : Int32) (x3 : Int64) (x5 : Int64) (x7 : Int32) (h : PH) (v : Int32) (h' : PH), Mo_sheets_b36 N n a0 x1 x2 x3 x5 x7 h = some (v, h') → Run g pMo_sheets D 36 [(0, va_rf (some a0)), (1, .int x1), (2, .int x2), (3, .long x3), (5, .long x5), (7, .int x7)] [] h (rI v) h' := by
  obtain ⟨D2, rfl⟩ : ∃ d, D = d + 1 := ⟨D - 1, by omega⟩
  intro n
  induction n with
  | zero => exact fun _ _ _ _ _ _ _ _ _ hE => nomatch (show none = some _ from hE)
  | succ n ih =>
    intro a0 x1 x2 x3 x5 x7 h v h' hE
    unfold Mo_sheets_b36 at hE
    refine r_iload rfl rfl ?_
    refine r_iload_n 1 rfl rfl rfl ?_
    refine r_icmp_ge (tgt := 87) rfl (by decide) (fun hc1 => ?_) (fun hc1 => ?_)
    · have hE := ifP hc1 hE
      refine r_lconst 1 rfl cl_1 ?_
      refine r_lstore rfl (by decide) ?_
      refine r_iconst 0 rfl ci_0 ?_
      refine r_istore rfl (by decide) ?_
      first | exact r_sb (Mo_sheets_b93_ok g N _ hD  N _ _ _ _ _ _ _ _ _ hE) ⟨rfl, rfl, rfl, rfl, rfl, rfl, trivial⟩ | exact r_sb (Mo_sheets_b93_ok g N _ hD  N _ _ _ _ _ _ _ _ _ hE) (by simp only [su1, su2, dr1_rf, dr1_in, dr1_lo, dr2_rf, dr2_in, dr2_lo]; exact ⟨rfl, rfl, rfl, rfl, rfl, rfl, trivial⟩)
    · have hE := ifN hc1 hE
      refine r_lload_n 3 rfl rfl rfl ?_
      refine r_iload rfl rfl ?_
      refine r_iload_n 2 rfl rfl rfl ?_
      refine r_icmp_ge (tgt := 60) rfl (by decide) (fun hc2 => ?_) (fun hc2 => ?_)
      · have hE := ifP hc2 hE
        refine r_bipush 10 rfl cb_10 ?_
        refine r_aload_n (t := some a0) 0 rfl rfl rfl ?_
        obtain ⟨hk3, hE⟩ := ckE hE
        refine r_getR rfl (fl_11_13 rfl) (Or.inr ⟨_, rfl⟩) rfl hk3 ?_
        refine r_bipush 14 rfl cb_14 ?_
        obtain ⟨a_4, ha5, hE⟩ := bnE hE
        obtain ⟨hk6, hE⟩ := ckE hE
        obtain ⟨hi7, hE⟩ := ckE hE
        refine r_iald rfl ha5 hk6 hi7 ?_
        refine r_isub rfl ?_
        refine r_i2l rfl ?_
        first | exact r_sb (Mo_sheets_b71_ok g N _ hD _ ih  _ _ _ _ _ _ _ _ _ _ hE) ⟨rfl, rfl, rfl, rfl, rfl, trivial⟩ | exact r_sb (Mo_sheets_b71_ok g N _ hD _ ih  _ _ _ _ _ _ _ _ _ _ hE) (by simp only [su1, su2, dr1_rf, dr1_in, dr1_lo, dr2_rf, dr2_in, dr2_lo]; exact ⟨rfl, rfl, rfl, rfl, rfl, trivial⟩)
      · have hE := ifN hc2 hE
        refine r_aload_n (t := some a0) 0 rfl rfl rfl ?_
        obtain ⟨hk8, hE⟩ := ckE hE
        refine r_getR rfl (fl_11_13 rfl) (Or.inr ⟨_, rfl⟩) rfl hk8 ?_
        refine r_bipush 14 rfl cb_14 ?_
        obtain ⟨a_9, ha10, hE⟩ := bnE hE
        obtain ⟨hk11, hE⟩ := ckE hE
        obtain ⟨hi12, hE⟩ := ckE hE
        refine r_iald rfl ha10 hk11 hi12 ?_
        refine r_i2l rfl ?_
        refine r_goto (tgt := 71) rfl (by decide) ?_
        first | exact r_sb (Mo_sheets_b71_ok g N _ hD _ ih  _ _ _ _ _ _ _ _ _ _ hE) ⟨rfl, rfl, rfl, rfl, rfl, trivial⟩ | exact r_sb (Mo_sheets_b71_ok g N _ hD _ ih  _ _ _ _ _ _ _ _ _ _ hE) (by simp only [su1, su2, dr1_rf, dr1_in, dr1_lo, dr2_rf, dr2_in, dr2_lo]; exact ⟨rfl, rfl, rfl, rfl, rfl, trivial⟩)
def Mo_sheets (N : Nat) (a0 : Nat) (x1 : Int32) (x2 : Int32) (h : PH) : Option (Int32 × PH) :=
  ck ((hK h a0).1 = 11) <|
  lt0 (wI h a0 0 0) fun h2 =>
  bd (Mo_within N x1 0 8 h2) fun v4 h5 =>
  if (bI v4) = 0 then
    some ((-1), h5)
  else
    bd (Mo_within N x2 0 x1 h5) fun v8 h9 =>
    if (bI v8) = 0 then
      some ((-1), h9)
    else
      Mo_sheets_b36 N N a0 x1 x2 1000000 1 0 h9
set_option maxRecDepth 20000 in
theorem Mo_sheets_ok (g : GT) (N : Nat) (a0 : Nat) (x1 : Int32) (x2 : Int32) (h : PH) (v : Int32) (h' : PH) (hE : Mo_sheets N a0 x1 x2 h = some (v, h')) (D : Nat) (hD : 1 ≤ D) : Calls g D pMo_sheets [va_rf (some a0), .int x1, .int x2] h (oI v) h' := by
  refine Calls.of cok_Mo_sheets ht_Mo_sheets pl_Mo_sheets (fun ad => by rw [lg_len, sL_cat]; simp only [List.map_cons, List.map_nil, rf_cat, cat_i, cat_l, List.sum_cons, List.sum_nil]; decide) ?_
  rw [show lv_args 0 [va_rf (some a0), .int x1, .int x2] = [(0, va_rf (some a0)), (1, .int x1), (2, .int x2)] from (by simp only [lv_args, rf_cat, cat_i, cat_l]; try rfl)]
  obtain ⟨D2, rfl⟩ : ∃ d, D = d + 1 := ⟨D - 1, by omega⟩
  unfold Mo_sheets at hE
  refine r_aload_n (t := some a0) 0 rfl rfl rfl ?_
  refine r_iconst 0 rfl ci_0 ?_
  obtain ⟨hk1, hE⟩ := ckE hE
  obtain ⟨h2, he3, hE⟩ := ltE hE
  refine r_putI rfl (fl_11_119 rfl) finF rfl hk1 he3 ?_
  refine r_iload_n 1 rfl rfl rfl ?_
  refine r_iconst 0 rfl ci_0 ?_
  refine r_bipush 8 rfl cb_8 ?_
  obtain ⟨v4, h5, hq6, hE⟩ := bdE hE
  refine r_callS1 (rest := []) (hc := (Mo_within_ok g N _ _ _ _ _ _ hq6 D2 (by omega))) rfl pm_Mo_within lw_11_247 st_Mo_within rfl rfl (by decide) ?_
  refine r_if_eq (tgt := 24) rfl (by decide) (fun hc7 => ?_) (fun hc7 => ?_)
  · have hE := ifP hc7 hE
    refine r_iconst (-1) rfl ci_m1 ?_
    cases hE
    exact r_ret rfl (Or.inl ⟨rfl, _, _, rfl, rfl, rfl, rfl⟩)
  · have hE := ifN hc7 hE
    refine r_iload_n 2 rfl rfl rfl ?_
    refine r_iconst 0 rfl ci_0 ?_
    refine r_iload_n 1 rfl rfl rfl ?_
    obtain ⟨v8, h9, hq10, hE⟩ := bdE hE
    refine r_callS1 (rest := []) (hc := (Mo_within_ok g N _ _ _ _ _ _ hq10 D2 (by omega))) rfl pm_Mo_within lw_11_247 st_Mo_within rfl rfl (by decide) ?_
    refine r_if_ne (tgt := 26) rfl (by decide) (fun hc11 => ?_) (fun hc11 => ?_)
    · have hE := ifP hc11 hE
      refine r_iconst (-1) rfl ci_m1 ?_
      cases hE
      exact r_ret rfl (Or.inl ⟨rfl, _, _, rfl, rfl, rfl, rfl⟩)
    · have hE := ifN hc11 hE
      refine r_ldc2 rfl kc_11_353 ?_
      refine r_lstore_n 3 rfl rfl (by decide) ?_
      refine r_lconst 1 rfl cl_1 ?_
      refine r_lstore rfl (by decide) ?_
      refine r_iconst 0 rfl ci_0 ?_
      refine r_istore rfl (by decide) ?_
      first | exact r_sb (Mo_sheets_b36_ok g N _ hD  N _ _ _ _ _ _ _ _ _ hE) ⟨rfl, rfl, rfl, rfl, rfl, rfl, trivial⟩ | exact r_sb (Mo_sheets_b36_ok g N _ hD  N _ _ _ _ _ _ _ _ _ hE) (by simp only [su1, su2, dr1_rf, dr1_in, dr1_lo, dr2_rf, dr2_in, dr2_lo]; exact ⟨rfl, rfl, rfl, rfl, rfl, rfl, trivial⟩)
def Mo_draws (N : Nat) (a0 : Nat) (x1 : Int32) (h : PH) : Option (Int32 × PH) :=
  ck ((hK h a0).1 = 11) <|
  ck (¬ (2147483648 : Int64) = 0) <|
  lt0 (wJ h a0 53 ((((hJ h a0 53) * 1103515245) + 12345) - (((hJ h a0 53) * 1103515245) + 12345) / 2147483648 * 2147483648)) fun h3 =>
  ck (¬ (65536 : Int64) = 0) <|
  ck (¬ (Int32.toInt64 x1) = 0) <|
  some ((Int64.toInt32 (((hJ h3 a0 53) / 65536) - ((hJ h3 a0 53) / 65536) / (Int32.toInt64 x1) * (Int32.toInt64 x1))), h3)
set_option maxRecDepth 20000 in
theorem Mo_draws_ok (g : GT) (N : Nat) (a0 : Nat) (x1 : Int32) (h : PH) (v : Int32) (h' : PH) (hE : Mo_draws N a0 x1 h = some (v, h')) (D : Nat) (hD : 0 ≤ D) : Calls g D pMo_draws [va_rf (some a0), .int x1] h (oI v) h' := by
  refine Calls.of cok_Mo_draws ht_Mo_draws pl_Mo_draws (fun ad => by rw [lg_len, sL_cat]; simp only [List.map_cons, List.map_nil, rf_cat, cat_i, cat_l, List.sum_cons, List.sum_nil]; decide) ?_
  rw [show lv_args 0 [va_rf (some a0), .int x1] = [(0, va_rf (some a0)), (1, .int x1)] from (by simp only [lv_args, rf_cat, cat_i, cat_l]; try rfl)]
  unfold Mo_draws at hE
  refine r_aload_n (t := some a0) 0 rfl rfl rfl ?_
  refine r_aload_n (t := some a0) 0 rfl rfl rfl ?_
  obtain ⟨hk1, hE⟩ := ckE hE
  refine r_getJ rfl (fl_11_476 rfl) rfl hk1 ?_
  refine r_ldc2 rfl kc_11_479 ?_
  refine r_lmul rfl ?_
  refine r_ldc2 rfl kc_11_481 ?_
  refine r_ladd rfl ?_
  refine r_ldc2 rfl kc_11_483 ?_
  obtain ⟨hc2, hE⟩ := ckE hE
  refine r_lrem rfl hc2 ?_
  obtain ⟨h3, he4, hE⟩ := ltE hE
  refine r_putJ rfl (fl_11_476 rfl) finF rfl hk1 he4 ?_
  refine r_aload_n (t := some a0) 0 rfl rfl rfl ?_
  refine r_getJ rfl (fl_11_476 rfl) rfl (kwJ he4 hk1) ?_
  refine r_ldc2 rfl kc_11_485 ?_
  obtain ⟨hc5, hE⟩ := ckE hE
  refine r_ldiv rfl hc5 ?_
  refine r_iload_n 1 rfl rfl rfl ?_
  refine r_i2l rfl ?_
  obtain ⟨hc6, hE⟩ := ckE hE
  refine r_lrem rfl hc6 ?_
  refine r_l2i rfl ?_
  cases hE
  exact r_ret rfl (Or.inl ⟨rfl, _, _, rfl, rfl, rfl, rfl⟩)
def Mo_drawnMany_b9 (N : Nat) : Nat → Nat → Int32 → Int32 → PH → Option (Int32 × PH)
  | 0 => fun _ _ _ _ => none
  | n + 1 => fun a0 x1 x2 h =>
    ck ((hK h a0).1 = 11) <|
    ((hR h a0 35)).bind fun a_2 =>
    ck ((hK h a_2).1 = 20) <|
    ck (inb 0 (hK h a_2).2 = true) <|
    ((hR h a0 11)).bind fun a_6 =>
    ck ((hK h a_6).1 = 20) <|
    ck (inb ((4 * (hI h a_2 (ix 0))) + x2) (hK h a_6).2 = true) <|
    if x1 < (hI h a_6 (ix ((4 * (hI h a_2 (ix 0))) + x2))) then
      some (x2, h)
    else
      ck (inb 0 (hK h a_2).2 = true) <|
      ck (inb ((4 * (hI h a_2 (ix 0))) + x2) (hK h a_6).2 = true) <|
      (Mo_drawnMany_b9 N n) a0 (x1 - (hI h a_6 (ix ((4 * (hI h a_2 (ix 0))) + x2)))) (x2 + 1) h
set_option maxRecDepth 20000 in
theorem Mo_drawnMany_b9_ok (g : GT) (N : Nat) (D : Nat) (hD : 1 ≤ D) : ∀ (n : Nat) (a0 : Nat) (x1 : Int32) (x2 : Int32) (h : PH) (v : Int32) (h' : PH), Mo_drawnMany_b9 N n a0 x1 x2 h = some (v, h') → Run g pMo_drawnMany D 9 [(0, va_rf (some a0)), (1, .int x1), (2, .int x2)] [] h (rI v) h' := by
  obtain ⟨D2, rfl⟩ : ∃ d, D = d + 1 := ⟨D - 1, by omega⟩
  intro n
  induction n with
  | zero => exact fun _ _ _ _ _ _ hE => nomatch (show none = some _ from hE)
  | succ n ih =>
    intro a0 x1 x2 h v h' hE
    unfold Mo_drawnMany_b9 at hE
    refine r_iload_n 1 rfl rfl rfl ?_
    refine r_aload_n (t := some a0) 0 rfl rfl rfl ?_
    obtain ⟨hk1, hE⟩ := ckE hE
    refine r_getR rfl (fl_11_16 rfl) (Or.inr ⟨_, rfl⟩) rfl hk1 ?_
    refine r_iconst 4 rfl ci_4 ?_
    refine r_aload_n (t := some a0) 0 rfl rfl rfl ?_
    refine r_getR rfl (fl_11_81 rfl) (Or.inr ⟨_, rfl⟩) rfl hk1 ?_
    refine r_iconst 0 rfl ci_0 ?_
    obtain ⟨a_2, ha3, hE⟩ := bnE hE
    obtain ⟨hk4, hE⟩ := ckE hE
    obtain ⟨hi5, hE⟩ := ckE hE
    refine r_iald rfl ha3 hk4 hi5 ?_
    refine r_imul rfl ?_
    refine r_iload_n 2 rfl rfl rfl ?_
    refine r_iadd rfl ?_
    obtain ⟨a_6, ha7, hE⟩ := bnE hE
    obtain ⟨hk8, hE⟩ := ckE hE
    obtain ⟨hi9, hE⟩ := ckE hE
    refine r_iald rfl ha7 hk8 hi9 ?_
    refine r_icmp_lt (tgt := 52) rfl (by decide) (fun hc10 => ?_) (fun hc10 => ?_)
    · have hE := ifP hc10 hE
      refine r_iload_n 2 rfl rfl rfl ?_
      cases hE
      exact r_ret rfl (Or.inl ⟨rfl, _, _, rfl, rfl, rfl, rfl⟩)
    · have hE := ifN hc10 hE
      refine r_iload_n 1 rfl rfl rfl ?_
      refine r_aload_n (t := some a0) 0 rfl rfl rfl ?_
      refine r_getR rfl (fl_11_16 rfl) (Or.inr ⟨_, rfl⟩) rfl hk1 ?_
      refine r_iconst 4 rfl ci_4 ?_
      refine r_aload_n (t := some a0) 0 rfl rfl rfl ?_
      refine r_getR rfl (fl_11_81 rfl) (Or.inr ⟨_, rfl⟩) rfl hk1 ?_
      refine r_iconst 0 rfl ci_0 ?_
      obtain ⟨hi11, hE⟩ := ckE hE
      refine r_iald rfl ha3 hk4 hi11 ?_
      refine r_imul rfl ?_
      refine r_iload_n 2 rfl rfl rfl ?_
      refine r_iadd rfl ?_
      obtain ⟨hi12, hE⟩ := ckE hE
      refine r_iald rfl ha7 hk8 hi12 ?_
      refine r_isub rfl ?_
      refine r_istore_n 1 rfl rfl (by decide) ?_
      refine r_iinc _ rfl rfl (congrArg _ ci_1) (by decide) ?_
      refine r_goto (tgt := 9) rfl (by decide) ?_
      first | exact r_sb (ih _ _ _ _ _ _ hE) ⟨rfl, rfl, rfl, trivial⟩ | exact r_sb (ih _ _ _ _ _ _ hE) (by simp only [su1, su2, dr1_rf, dr1_in, dr1_lo, dr2_rf, dr2_in, dr2_lo]; exact ⟨rfl, rfl, rfl, trivial⟩)
def Mo_drawnMany (N : Nat) (a0 : Nat) (h : PH) : Option (Int32 × PH) :=
  ck ((hK h a0).1 = 11) <|
  bd (Mo_draws N a0 10 h) fun v2 h3 =>
  Mo_drawnMany_b9 N N a0 v2 0 h3
set_option maxRecDepth 20000 in
theorem Mo_drawnMany_ok (g : GT) (N : Nat) (a0 : Nat) (h : PH) (v : Int32) (h' : PH) (hE : Mo_drawnMany N a0 h = some (v, h')) (D : Nat) (hD : 1 ≤ D) : Calls g D pMo_drawnMany [va_rf (some a0)] h (oI v) h' := by
  refine Calls.of cok_Mo_drawnMany ht_Mo_drawnMany pl_Mo_drawnMany (fun ad => by rw [lg_len, sL_cat]; simp only [List.map_cons, List.map_nil, rf_cat, cat_i, cat_l, List.sum_cons, List.sum_nil]; decide) ?_
  rw [show lv_args 0 [va_rf (some a0)] = [(0, va_rf (some a0))] from (by simp only [lv_args, rf_cat, cat_i, cat_l]; try rfl)]
  obtain ⟨D2, rfl⟩ : ∃ d, D = d + 1 := ⟨D - 1, by omega⟩
  unfold Mo_drawnMany at hE
  refine r_aload_n (t := some a0) 0 rfl rfl rfl ?_
  refine r_bipush 10 rfl cb_10 ?_
  obtain ⟨hk1, hE⟩ := ckE hE
  obtain ⟨v2, h3, hq4, hE⟩ := bdE hE
  refine r_callV1 (rest := []) (hc := (Mo_draws_ok g N _ _ _ _ _ hq4 D2 (by omega))) rfl pm_Mo_draws lw_11_487 im_Mo_draws sl_Mo_draws rfl rfl rfl (rcOK hk1 rfl) (by decide) ?_
  refine r_istore_n 1 rfl rfl (by decide) ?_
  refine r_iconst 0 rfl ci_0 ?_
  refine r_istore_n 2 rfl rfl (by decide) ?_
  first | exact r_sb (Mo_drawnMany_b9_ok g N _ hD  N _ _ _ _ _ _ hE) ⟨rfl, rfl, rfl, trivial⟩ | exact r_sb (Mo_drawnMany_b9_ok g N _ hD  N _ _ _ _ _ _ hE) (by simp only [su1, su2, dr1_rf, dr1_in, dr1_lo, dr2_rf, dr2_in, dr2_lo]; exact ⟨rfl, rfl, rfl, trivial⟩)
def Mo_years_b153 (N : Nat) (self_77 : Nat → Int32 → Int32 → Int32 → Int32 → Int32 → Int32 → Int32 → PH → Option (Int32 × PH)) (self_87 : Nat → Int32 → Int32 → Int32 → Int32 → Int32 → Int32 → Int32 → PH → Option (Int32 × PH)) (a0 : Nat) (x2 : Int32) (x3 : Int32) (x4 : Int32) (x5 : Int32) (x6 : Int32) (x7 : Int32) (x8 : Int32) (h : PH) : Option (Int32 × PH) :=
  ck ((hK h a0).1 = 11) <|
  bd (Mo_passes N a0 h) fun v2 h3 =>
  self_87 a0 x2 x3 x4 x5 x6 x7 x8 h3
set_option maxRecDepth 20000 in
theorem Mo_years_b153_ok (g : GT) (N : Nat) (D : Nat) (hD : 4 ≤ D) (self_77 : Nat → Int32 → Int32 → Int32 → Int32 → Int32 → Int32 → Int32 → PH → Option (Int32 × PH)) (hself_77 : ∀ (a0 : Nat) (x2 : Int32) (x3 : Int32) (x4 : Int32) (x5 : Int32) (x6 : Int32) (x7 : Int32) (x8 : Int32) (h : PH) (v : Int32) (h' : PH), self_77 a0 x2 x3 x4 x5 x6 x7 x8 h = some (v, h') → Run g pMo_years D 77 [(0, va_rf (some a0)), (2, .int x2), (3, .int x3), (4, .int x4), (5, .int x5), (6, .int x6), (7, .int x7), (8, .int x8)] [] h (rI v) h') (self_87 : Nat → Int32 → Int32 → Int32 → Int32 → Int32 → Int32 → Int32 → PH → Option (Int32 × PH)) (hself_87 : ∀ (a0 : Nat) (x2 : Int32) (x3 : Int32) (x4 : Int32) (x5 : Int32) (x6 : Int32) (x7 : Int32) (x8 : Int32) (h : PH) (v : Int32) (h' : PH), self_87 a0 x2 x3 x4 x5 x6 x7 x8 h = some (v, h') → Run g pMo_years D 87 [(0, va_rf (some a0)), (2, .int x2), (3, .int x3), (4, .int x4), (5, .int x5), (6, .int x6), (7, .int x7), (8, .int x8)] [] h (rI v) h') : ∀ (a0 : Nat) (x2 : Int32) (x3 : Int32) (x4 : Int32) (x5 : Int32) (x6 : Int32) (x7 : Int32) (x8 : Int32) (h : PH) (v : Int32) (h' : PH), Mo_years_b153 N self_77 self_87 a0 x2 x3 x4 x5 x6 x7 x8 h = some (v, h') → Run g pMo_years D 153 [(0, va_rf (some a0)), (2, .int x2), (3, .int x3), (4, .int x4), (5, .int x5), (6, .int x6), (7, .int x7), (8, .int x8)] [] h (rI v) h' := by
  obtain ⟨D2, rfl⟩ : ∃ d, D = d + 1 := ⟨D - 1, by omega⟩
  intro a0 x2 x3 x4 x5 x6 x7 x8 h v h' hE
  unfold Mo_years_b153 at hE
  refine r_aload_n (t := some a0) 0 rfl rfl rfl ?_
  obtain ⟨hk1, hE⟩ := ckE hE
  obtain ⟨v2, h3, hq4, hE⟩ := bdE hE
  refine r_callV0 (rest := []) (hc := (Mo_passes_ok g N _ _ _ _ hq4 D2 (by omega))) rfl pm_Mo_passes lw_11_377 im_Mo_passes sl_Mo_passes rfl rfl rfl (rcOK hk1 rfl) (by decide) ?_
  refine r_goto (tgt := 87) rfl (by decide) ?_
  first | exact r_sb (hself_87 _ _ _ _ _ _ _ _ _ _ _ hE) ⟨rfl, rfl, rfl, rfl, rfl, rfl, rfl, rfl, trivial⟩ | exact r_sb (hself_87 _ _ _ _ _ _ _ _ _ _ _ hE) (by simp only [su1, su2, dr1_rf, dr1_in, dr1_lo, dr2_rf, dr2_in, dr2_lo]; exact ⟨rfl, rfl, rfl, rfl, rfl, rfl, rfl, rfl, trivial⟩)
def Mo_years_b87 (N : Nat) (self_77 : Nat → Int32 → Int32 → Int32 → Int32 → Int32 → Int32 → Int32 → PH → Option (Int32 × PH)) : Nat → Nat → Int32 → Int32 → Int32 → Int32 → Int32 → Int32 → Int32 → PH → Option (Int32 × PH)
  | 0 => fun _ _ _ _ _ _ _ _ _ => none
  | n + 1 => fun a0 x2 x3 x4 x5 x6 x7 x8 h =>
    ck ((hK h a0).1 = 11) <|
    bd (Mo_isOver N a0 h) fun v2 h3 =>
    if (bI v2) = 0 then
      ck ((hK h3 a0).1 = 11) <|
      bd (Mo_drawnMany N a0 h3) fun v7 h8 =>
      ck ((hK h8 a0).1 = 11) <|
      ((hR h8 a0 35)).bind fun a_11 =>
      ck ((hK h8 a_11).1 = 20) <|
      ck (inb 7 (hK h8 a_11).2 = true) <|
      bd (Mo_comes N a0 (v7 + (hI h8 a_11 (ix 7))) h8) fun v15 h16 =>
      ck ((hK h16 a0).1 = 11) <|
      ((hR h16 a0 35)).bind fun a_19 =>
      ck ((hK h16 a_19).1 = 20) <|
      ck (inb 3 (hK h16 a_19).2 = true) <|
      if (hI h16 a_19 (ix 3)) ≤ 0 then
        Mo_years_b153 N self_77 (Mo_years_b87 N self_77 n)  a0 x2 x3 x4 x5 x6 x7 x8 h16
      else
        ck (inb 0 (hK h16 a_19).2 = true) <|
        ck (inb 1 (hK h16 a_19).2 = true) <|
        ck (inb 2 (hK h16 a_19).2 = true) <|
        ck (inb 3 (hK h16 a_19).2 = true) <|
        bd (Mo_habitGive N a0 x3 (hI h16 a_19 (ix 0)) (hI h16 a_19 (ix 1)) (hI h16 a_19 (ix 2)) (hI h16 a_19 (ix 3)) h16) fun v28 h29 =>
        ck ((hK h29 a0).1 = 11) <|
        bd (Mo_handsOut N a0 v28 h29) fun v32 h33 =>
        Mo_years_b153 N self_77 (Mo_years_b87 N self_77 n)  a0 x2 x3 x4 x5 x6 x7 x8 h33
    else
      ck ((hK h3 a0).1 = 11) <|
      ((hR h3 a0 35)).bind fun a_36 =>
      ck ((hK h3 a_36).1 = 20) <|
      ck (inb 11 (hK h3 a_36).2 = true) <|
      ck (inb 1 (hK h3 a_36).2 = true) <|
      ck (inb 10 (hK h3 a_36).2 = true) <|
      self_77 a0 x2 x3 x4 (x5 + (hI h3 a_36 (ix 11))) (x6 + (hI h3 a_36 (ix 1))) (x7 + (hI h3 a_36 (ix 10))) (x8 + 1) h3
set_option maxRecDepth 20000 in
theorem Mo_years_b87_ok (g : GT) (N : Nat) (D : Nat) (hD : 4 ≤ D) (self_77 : Nat → Int32 → Int32 → Int32 → Int32 → Int32 → Int32 → Int32 → PH → Option (Int32 × PH)) (hself_77 : ∀ (a0 : Nat) (x2 : Int32) (x3 : Int32) (x4 : Int32) (x5 : Int32) (x6 : Int32) (x7 : Int32) (x8 : Int32) (h : PH) (v : Int32) (h' : PH), self_77 a0 x2 x3 x4 x5 x6 x7 x8 h = some (v, h') → Run g pMo_years D 77 [(0, va_rf (some a0)), (2, .int x2), (3, .int x3), (4, .int x4), (5, .int x5), (6, .int x6), (7, .int x7), (8, .int x8)] [] h (rI v) h') : ∀ (n : Nat) (a0 : Nat) (x2 : Int32) (x3 : Int32) (x4 : Int32) (x5 : Int32) (x6 : Int32) (x7 : Int32) (x8 : Int32) (h : PH) (v : Int32) (h' : PH), Mo_years_b87 N self_77 n a0 x2 x3 x4 x5 x6 x7 x8 h = some (v, h') → Run g pMo_years D 87 [(0, va_rf (some a0)), (2, .int x2), (3, .int x3), (4, .int x4), (5, .int x5), (6, .int x6), (7, .int x7), (8, .int x8)] [] h (rI v) h' := by
  obtain ⟨D2, rfl⟩ : ∃ d, D = d + 1 := ⟨D - 1, by omega⟩
  intro n
  induction n with
  | zero => exact fun _ _ _ _ _ _ _ _ _ _ _ hE => nomatch (show none = some _ from hE)
  | succ n ih =>
    intro a0 x2 x3 x4 x5 x6 x7 x8 h v h' hE
    unfold Mo_years_b87 at hE
    refine r_aload_n (t := some a0) 0 rfl rfl rfl ?_
    obtain ⟨hk1, hE⟩ := ckE hE
    obtain ⟨v2, h3, hq4, hE⟩ := bdE hE
    refine r_callV1 (rest := []) (hc := (Mo_isOver_ok g N _ _ _ _ hq4 D2 (by omega))) rfl pm_Mo_isOver lw_11_344 im_Mo_isOver sl_Mo_isOver rfl rfl rfl (rcOK hk1 rfl) (by decide) ?_
    refine r_if_ne (tgt := 160) rfl (by decide) (fun hc5 => ?_) (fun hc5 => ?_)
    · have hE := ifP hc5 hE
      refine r_aload_n (t := some a0) 0 rfl rfl rfl ?_
      refine r_aload_n (t := some a0) 0 rfl rfl rfl ?_
      obtain ⟨hk6, hE⟩ := ckE hE
      obtain ⟨v7, h8, hq9, hE⟩ := bdE hE
      refine r_callV1 (rest := [va_rf (some a0)]) (hc := (Mo_drawnMany_ok g N _ _ _ _ hq9 D2 (by omega))) rfl pm_Mo_drawnMany lw_11_490 im_Mo_drawnMany sl_Mo_drawnMany rfl rfl rfl (rcOK hk6 rfl) (by simp only [List.map_cons, List.map_nil, rf_cat, cat_i, cat_l, List.sum_cons, List.sum_nil]; decide) ?_
      refine r_aload_n (t := some a0) 0 rfl rfl rfl ?_
      obtain ⟨hk10, hE⟩ := ckE hE
      refine r_getR rfl (fl_11_81 rfl) (Or.inr ⟨_, rfl⟩) rfl hk10 ?_
      refine r_bipush 7 rfl cb_7 ?_
      obtain ⟨a_11, ha12, hE⟩ := bnE hE
      obtain ⟨hk13, hE⟩ := ckE hE
      obtain ⟨hi14, hE⟩ := ckE hE
      refine r_iald rfl ha12 hk13 hi14 ?_
      refine r_iadd rfl ?_
      obtain ⟨v15, h16, hq17, hE⟩ := bdE hE
      refine r_callV0 (rest := []) (hc := (Mo_comes_ok g N _ _ _ _ _ hq17 D2 (by omega))) rfl pm_Mo_comes lw_11_374 im_Mo_comes sl_Mo_comes rfl rfl rfl (rcOK hk10 rfl) (by decide) ?_
      refine r_aload_n (t := some a0) 0 rfl rfl rfl ?_
      obtain ⟨hk18, hE⟩ := ckE hE
      refine r_getR rfl (fl_11_81 rfl) (Or.inr ⟨_, rfl⟩) rfl hk18 ?_
      refine r_iconst 3 rfl ci_3 ?_
      obtain ⟨a_19, ha20, hE⟩ := bnE hE
      obtain ⟨hk21, hE⟩ := ckE hE
      obtain ⟨hi22, hE⟩ := ckE hE
      refine r_iald rfl ha20 hk21 hi22 ?_
      refine r_if_le (tgt := 153) rfl (by decide) (fun hc23 => ?_) (fun hc23 => ?_)
      · have hE := ifP hc23 hE
        first | exact r_sb (Mo_years_b153_ok g N _ hD _ hself_77 _ ih  _ _ _ _ _ _ _ _ _ _ _ hE) ⟨rfl, rfl, rfl, rfl, rfl, rfl, rfl, rfl, trivial⟩ | exact r_sb (Mo_years_b153_ok g N _ hD _ hself_77 _ ih  _ _ _ _ _ _ _ _ _ _ _ hE) (by simp only [su1, su2, dr1_rf, dr1_in, dr1_lo, dr2_rf, dr2_in, dr2_lo]; exact ⟨rfl, rfl, rfl, rfl, rfl, rfl, rfl, rfl, trivial⟩)
      · have hE := ifN hc23 hE
        refine r_aload_n (t := some a0) 0 rfl rfl rfl ?_
        refine r_aload_n (t := some a0) 0 rfl rfl rfl ?_
        refine r_iload_n 3 rfl rfl rfl ?_
        refine r_aload_n (t := some a0) 0 rfl rfl rfl ?_
        refine r_getR rfl (fl_11_81 rfl) (Or.inr ⟨_, rfl⟩) rfl hk18 ?_
        refine r_iconst 0 rfl ci_0 ?_
        obtain ⟨hi24, hE⟩ := ckE hE
        refine r_iald rfl ha20 hk21 hi24 ?_
        refine r_aload_n (t := some a0) 0 rfl rfl rfl ?_
        refine r_getR rfl (fl_11_81 rfl) (Or.inr ⟨_, rfl⟩) rfl hk18 ?_
        refine r_iconst 1 rfl ci_1 ?_
        obtain ⟨hi25, hE⟩ := ckE hE
        refine r_iald rfl ha20 hk21 hi25 ?_
        refine r_aload_n (t := some a0) 0 rfl rfl rfl ?_
        refine r_getR rfl (fl_11_81 rfl) (Or.inr ⟨_, rfl⟩) rfl hk18 ?_
        refine r_iconst 2 rfl ci_2 ?_
        obtain ⟨hi26, hE⟩ := ckE hE
        refine r_iald rfl ha20 hk21 hi26 ?_
        refine r_aload_n (t := some a0) 0 rfl rfl rfl ?_
        refine r_getR rfl (fl_11_81 rfl) (Or.inr ⟨_, rfl⟩) rfl hk18 ?_
        refine r_iconst 3 rfl ci_3 ?_
        obtain ⟨hi27, hE⟩ := ckE hE
        refine r_iald rfl ha20 hk21 hi27 ?_
        obtain ⟨v28, h29, hq30, hE⟩ := bdE hE
        refine r_callV1 (rest := [va_rf (some a0)]) (hc := (Mo_habitGive_ok g N _ _ _ _ _ _ _ _ _ hq30 D2 (by omega))) rfl pm_Mo_habitGive lw_11_434 im_Mo_habitGive sl_Mo_habitGive rfl rfl rfl (rcOK hk18 rfl) (by simp only [List.map_cons, List.map_nil, rf_cat, cat_i, cat_l, List.sum_cons, List.sum_nil]; decide) ?_
        obtain ⟨hk31, hE⟩ := ckE hE
        obtain ⟨v32, h33, hq34, hE⟩ := bdE hE
        refine r_callV1 (rest := []) (hc := (Mo_handsOut_ok g N _ _ _ _ _ hq34 D2 (by omega))) rfl pm_Mo_handsOut lw_11_365 im_Mo_handsOut sl_Mo_handsOut rfl rfl rfl (rcOK hk31 rfl) (by decide) ?_
        refine r_pop rfl rfl ?_
        first | exact r_sb (Mo_years_b153_ok g N _ hD _ hself_77 _ ih  _ _ _ _ _ _ _ _ _ _ _ hE) ⟨rfl, rfl, rfl, rfl, rfl, rfl, rfl, rfl, trivial⟩ | exact r_sb (Mo_years_b153_ok g N _ hD _ hself_77 _ ih  _ _ _ _ _ _ _ _ _ _ _ hE) (by simp only [su1, su2, dr1_rf, dr1_in, dr1_lo, dr2_rf, dr2_in, dr2_lo]; exact ⟨rfl, rfl, rfl, rfl, rfl, rfl, rfl, rfl, trivial⟩)
    · have hE := ifN hc5 hE
      refine r_iload rfl rfl ?_
      refine r_aload_n (t := some a0) 0 rfl rfl rfl ?_
      obtain ⟨hk35, hE⟩ := ckE hE
      refine r_getR rfl (fl_11_81 rfl) (Or.inr ⟨_, rfl⟩) rfl hk35 ?_
      refine r_bipush 11 rfl cb_11 ?_
      obtain ⟨a_36, ha37, hE⟩ := bnE hE
      obtain ⟨hk38, hE⟩ := ckE hE
      obtain ⟨hi39, hE⟩ := ckE hE
      refine r_iald rfl ha37 hk38 hi39 ?_
      refine r_iadd rfl ?_
      refine r_istore rfl (by decide) ?_
      refine r_iload rfl rfl ?_
      refine r_aload_n (t := some a0) 0 rfl rfl rfl ?_
      refine r_getR rfl (fl_11_81 rfl) (Or.inr ⟨_, rfl⟩) rfl hk35 ?_
      refine r_iconst 1 rfl ci_1 ?_
      obtain ⟨hi40, hE⟩ := ckE hE
      refine r_iald rfl ha37 hk38 hi40 ?_
      refine r_iadd rfl ?_
      refine r_istore rfl (by decide) ?_
      refine r_iload rfl rfl ?_
      refine r_aload_n (t := some a0) 0 rfl rfl rfl ?_
      refine r_getR rfl (fl_11_81 rfl) (Or.inr ⟨_, rfl⟩) rfl hk35 ?_
      refine r_bipush 10 rfl cb_10 ?_
      obtain ⟨hi41, hE⟩ := ckE hE
      refine r_iald rfl ha37 hk38 hi41 ?_
      refine r_iadd rfl ?_
      refine r_istore rfl (by decide) ?_
      refine r_iinc _ rfl rfl (congrArg _ ci_1) (by decide) ?_
      refine r_goto (tgt := 77) rfl (by decide) ?_
      first | exact r_sb (hself_77 _ _ _ _ _ _ _ _ _ _ _ hE) ⟨rfl, rfl, rfl, rfl, rfl, rfl, rfl, rfl, trivial⟩ | exact r_sb (hself_77 _ _ _ _ _ _ _ _ _ _ _ hE) (by simp only [su1, su2, dr1_rf, dr1_in, dr1_lo, dr2_rf, dr2_in, dr2_lo]; exact ⟨rfl, rfl, rfl, rfl, rfl, rfl, rfl, rfl, trivial⟩)
def Mo_years_b77 (N : Nat) : Nat → Nat → Int32 → Int32 → Int32 → Int32 → Int32 → Int32 → Int32 → PH → Option (Int32 × PH)
  | 0 => fun _ _ _ _ _ _ _ _ _ => none
  | n + 1 => fun a0 x2 x3 x4 x5 x6 x7 x8 h =>
    if x2 ≤ x8 then
      ck ((hK h a0).1 = 11) <|
      bd (Mo_copies N (hR h a0 36) 0 (hR h a0 35) 0 h) fun v3 h4 =>
      if x4 = 0 then
        some ((mxI 0 x5), h4)
      else
        if x4 = 1 then
          some (x6, h4)
        else
          some (x7, h4)
    else
      ck ((hK h a0).1 = 11) <|
      bd (Mo_fresh N a0 h) fun v9 h10 =>
      Mo_years_b87 N (Mo_years_b77 N n) N a0 x2 x3 x4 x5 x6 x7 x8 h10
set_option maxRecDepth 20000 in
theorem Mo_years_b77_ok (g : GT) (N : Nat) (D : Nat) (hD : 4 ≤ D) : ∀ (n : Nat) (a0 : Nat) (x2 : Int32) (x3 : Int32) (x4 : Int32) (x5 : Int32) (x6 : Int32) (x7 : Int32) (x8 : Int32) (h : PH) (v : Int32) (h' : PH), Mo_years_b77 N n a0 x2 x3 x4 x5 x6 x7 x8 h = some (v, h') → Run g pMo_years D 77 [(0, va_rf (some a0)), (2, .int x2), (3, .int x3), (4, .int x4), (5, .int x5), (6, .int x6), (7, .int x7), (8, .int x8)] [] h (rI v) h' := by
  obtain ⟨D2, rfl⟩ : ∃ d, D = d + 1 := ⟨D - 1, by omega⟩
  intro n
  induction n with
  | zero => exact fun _ _ _ _ _ _ _ _ _ _ _ hE => nomatch (show none = some _ from hE)
  | succ n ih =>
    intro a0 x2 x3 x4 x5 x6 x7 x8 h v h' hE
    unfold Mo_years_b77 at hE
    refine r_iload rfl rfl ?_
    refine r_iload_n 2 rfl rfl rfl ?_
    refine r_icmp_ge (tgt := 201) rfl (by decide) (fun hc1 => ?_) (fun hc1 => ?_)
    · have hE := ifP hc1 hE
      refine r_aload_n (t := some a0) 0 rfl rfl rfl ?_
      obtain ⟨hk2, hE⟩ := ckE hE
      refine r_getR rfl (fl_11_84 rfl) (Or.inr ⟨_, rfl⟩) rfl hk2 ?_
      refine r_iconst 0 rfl ci_0 ?_
      refine r_aload_n (t := some a0) 0 rfl rfl rfl ?_
      refine r_getR rfl (fl_11_81 rfl) (Or.inr ⟨_, rfl⟩) rfl hk2 ?_
      refine r_iconst 0 rfl ci_0 ?_
      obtain ⟨v3, h4, hq5, hE⟩ := bdE hE
      refine r_callS0 (rest := []) (hc := (Mo_copies_ok g N _ _ _ _ _ _ _ hq5 D2 (by omega))) rfl pm_Mo_copies lw_11_340 st_Mo_copies rfl rfl (by decide) ?_
      refine r_iload rfl rfl ?_
      refine r_if_ne (tgt := 228) rfl (by decide) (fun hc6 => ?_) (fun hc6 => ?_)
      · have hE := ifP hc6 hE
        refine r_iconst 0 rfl ci_0 ?_
        refine r_iload rfl rfl ?_
        refine r_mmax rfl (gt8 51 rfl rfl) mm_max1 mm_2 mm_max3 (by decide) ?_
        refine r_goto (tgt := 241) rfl (by decide) ?_
        cases hE
        exact r_ret rfl (Or.inl ⟨rfl, _, _, rfl, rfl, rfl, rfl⟩)
      · have hE := ifN hc6 hE
        refine r_iload rfl rfl ?_
        refine r_iconst 1 rfl ci_1 ?_
        refine r_icmp_ne (tgt := 239) rfl (by decide) (fun hc7 => ?_) (fun hc7 => ?_)
        · have hE := ifP hc7 hE
          refine r_iload rfl rfl ?_
          refine r_goto (tgt := 241) rfl (by decide) ?_
          cases hE
          exact r_ret rfl (Or.inl ⟨rfl, _, _, rfl, rfl, rfl, rfl⟩)
        · have hE := ifN hc7 hE
          refine r_iload rfl rfl ?_
          cases hE
          exact r_ret rfl (Or.inl ⟨rfl, _, _, rfl, rfl, rfl, rfl⟩)
    · have hE := ifN hc1 hE
      refine r_aload_n (t := some a0) 0 rfl rfl rfl ?_
      obtain ⟨hk8, hE⟩ := ckE hE
      obtain ⟨v9, h10, hq11, hE⟩ := bdE hE
      refine r_callV0 (rest := []) (hc := (Mo_fresh_ok g N _ _ _ _ hq11 D2 (by omega))) rfl pm_Mo_fresh lw_11_116 im_Mo_fresh sl_Mo_fresh rfl rfl rfl (rcOK hk8 rfl) (by decide) ?_
      first | exact r_sb (Mo_years_b87_ok g N _ hD _ ih N _ _ _ _ _ _ _ _ _ _ _ hE) ⟨rfl, rfl, rfl, rfl, rfl, rfl, rfl, rfl, trivial⟩ | exact r_sb (Mo_years_b87_ok g N _ hD _ ih N _ _ _ _ _ _ _ _ _ _ _ hE) (by simp only [su1, su2, dr1_rf, dr1_in, dr1_lo, dr2_rf, dr2_in, dr2_lo]; exact ⟨rfl, rfl, rfl, rfl, rfl, rfl, rfl, rfl, trivial⟩)
def Mo_years (N : Nat) (a0 : Nat) (x1 : Int32) (x2 : Int32) (x3 : Int32) (x4 : Int32) (h : PH) : Option (Int32 × PH) :=
  ck ((hK h a0).1 = 11) <|
  lt0 (wI h a0 0 0) fun h2 =>
  bd (Mo_within N x1 0 9999 h2) fun v4 h5 =>
  if (bI v4) = 0 then
    some ((-1), h5)
  else
    bd (Mo_within N x2 1 20 h5) fun v8 h9 =>
    if (bI v8) = 0 then
      some ((-1), h9)
    else
      ck ((hK h9 a0).1 = 11) <|
      bd (Mo_isHabit N a0 x3 h9) fun v13 h14 =>
      if (bI v13) = 0 then
        some ((-1), h14)
      else
        bd (Mo_within N x4 0 2 h14) fun v17 h18 =>
        if (bI v17) = 0 then
          some ((-1), h18)
        else
          ck ((hK h18 a0).1 = 11) <|
          lt0 (wJ h18 a0 53 (Int32.toInt64 x1)) fun h22 =>
          bd (Mo_copies N (hR h22 a0 35) 0 (hR h22 a0 36) 0 h22) fun v24 h25 =>
          Mo_years_b77 N N a0 x2 x3 x4 0 0 0 0 h25
set_option maxRecDepth 20000 in
theorem Mo_years_ok (g : GT) (N : Nat) (a0 : Nat) (x1 : Int32) (x2 : Int32) (x3 : Int32) (x4 : Int32) (h : PH) (v : Int32) (h' : PH) (hE : Mo_years N a0 x1 x2 x3 x4 h = some (v, h')) (D : Nat) (hD : 4 ≤ D) : Calls g D pMo_years [va_rf (some a0), .int x1, .int x2, .int x3, .int x4] h (oI v) h' := by
  refine Calls.of cok_Mo_years ht_Mo_years pl_Mo_years (fun ad => by rw [lg_len, sL_cat]; simp only [List.map_cons, List.map_nil, rf_cat, cat_i, cat_l, List.sum_cons, List.sum_nil]; decide) ?_
  rw [show lv_args 0 [va_rf (some a0), .int x1, .int x2, .int x3, .int x4] = [(0, va_rf (some a0)), (1, .int x1), (2, .int x2), (3, .int x3), (4, .int x4)] from (by simp only [lv_args, rf_cat, cat_i, cat_l]; try rfl)]
  obtain ⟨D2, rfl⟩ : ∃ d, D = d + 1 := ⟨D - 1, by omega⟩
  unfold Mo_years at hE
  refine r_aload_n (t := some a0) 0 rfl rfl rfl ?_
  refine r_iconst 0 rfl ci_0 ?_
  obtain ⟨hk1, hE⟩ := ckE hE
  obtain ⟨h2, he3, hE⟩ := ltE hE
  refine r_putI rfl (fl_11_119 rfl) finF rfl hk1 he3 ?_
  refine r_iload_n 1 rfl rfl rfl ?_
  refine r_iconst 0 rfl ci_0 ?_
  refine r_sipush 9999 rfl cs_9999 ?_
  obtain ⟨v4, h5, hq6, hE⟩ := bdE hE
  refine r_callS1 (rest := []) (hc := (Mo_within_ok g N _ _ _ _ _ _ hq6 D2 (by omega))) rfl pm_Mo_within lw_11_247 st_Mo_within rfl rfl (by decide) ?_
  refine r_if_eq (tgt := 44) rfl (by decide) (fun hc7 => ?_) (fun hc7 => ?_)
  · have hE := ifP hc7 hE
    refine r_iconst (-1) rfl ci_m1 ?_
    cases hE
    exact r_ret rfl (Or.inl ⟨rfl, _, _, rfl, rfl, rfl, rfl⟩)
  · have hE := ifN hc7 hE
    refine r_iload_n 2 rfl rfl rfl ?_
    refine r_iconst 1 rfl ci_1 ?_
    refine r_bipush 20 rfl cb_20 ?_
    obtain ⟨v8, h9, hq10, hE⟩ := bdE hE
    refine r_callS1 (rest := []) (hc := (Mo_within_ok g N _ _ _ _ _ _ hq10 D2 (by omega))) rfl pm_Mo_within lw_11_247 st_Mo_within rfl rfl (by decide) ?_
    refine r_if_eq (tgt := 44) rfl (by decide) (fun hc11 => ?_) (fun hc11 => ?_)
    · have hE := ifP hc11 hE
      refine r_iconst (-1) rfl ci_m1 ?_
      cases hE
      exact r_ret rfl (Or.inl ⟨rfl, _, _, rfl, rfl, rfl, rfl⟩)
    · have hE := ifN hc11 hE
      refine r_aload_n (t := some a0) 0 rfl rfl rfl ?_
      refine r_iload_n 3 rfl rfl rfl ?_
      obtain ⟨hk12, hE⟩ := ckE hE
      obtain ⟨v13, h14, hq15, hE⟩ := bdE hE
      refine r_callV1 (rest := []) (hc := (Mo_isHabit_ok g N _ _ _ _ _ hq15 D2 (by omega))) rfl pm_Mo_isHabit lw_11_441 im_Mo_isHabit sl_Mo_isHabit rfl rfl rfl (rcOK hk12 rfl) (by decide) ?_
      refine r_if_eq (tgt := 44) rfl (by decide) (fun hc16 => ?_) (fun hc16 => ?_)
      · have hE := ifP hc16 hE
        refine r_iconst (-1) rfl ci_m1 ?_
        cases hE
        exact r_ret rfl (Or.inl ⟨rfl, _, _, rfl, rfl, rfl, rfl⟩)
      · have hE := ifN hc16 hE
        refine r_iload rfl rfl ?_
        refine r_iconst 0 rfl ci_0 ?_
        refine r_iconst 2 rfl ci_2 ?_
        obtain ⟨v17, h18, hq19, hE⟩ := bdE hE
        refine r_callS1 (rest := []) (hc := (Mo_within_ok g N _ _ _ _ _ _ hq19 D2 (by omega))) rfl pm_Mo_within lw_11_247 st_Mo_within rfl rfl (by decide) ?_
        refine r_if_ne (tgt := 46) rfl (by decide) (fun hc20 => ?_) (fun hc20 => ?_)
        · have hE := ifP hc20 hE
          refine r_iconst (-1) rfl ci_m1 ?_
          cases hE
          exact r_ret rfl (Or.inl ⟨rfl, _, _, rfl, rfl, rfl, rfl⟩)
        · have hE := ifN hc20 hE
          refine r_aload_n (t := some a0) 0 rfl rfl rfl ?_
          refine r_iload_n 1 rfl rfl rfl ?_
          refine r_i2l rfl ?_
          obtain ⟨hk21, hE⟩ := ckE hE
          obtain ⟨h22, he23, hE⟩ := ltE hE
          refine r_putJ rfl (fl_11_476 rfl) finF rfl hk21 he23 ?_
          refine r_aload_n (t := some a0) 0 rfl rfl rfl ?_
          refine r_getR rfl (fl_11_81 rfl) (Or.inr ⟨_, rfl⟩) rfl (kwJ he23 hk21) ?_
          refine r_iconst 0 rfl ci_0 ?_
          refine r_aload_n (t := some a0) 0 rfl rfl rfl ?_
          refine r_getR rfl (fl_11_84 rfl) (Or.inr ⟨_, rfl⟩) rfl (kwJ he23 hk21) ?_
          refine r_iconst 0 rfl ci_0 ?_
          obtain ⟨v24, h25, hq26, hE⟩ := bdE hE
          refine r_callS0 (rest := []) (hc := (Mo_copies_ok g N _ _ _ _ _ _ _ hq26 D2 (by omega))) rfl pm_Mo_copies lw_11_340 st_Mo_copies rfl rfl (by decide) ?_
          refine r_iconst 0 rfl ci_0 ?_
          refine r_istore rfl (by decide) ?_
          refine r_iconst 0 rfl ci_0 ?_
          refine r_istore rfl (by decide) ?_
          refine r_iconst 0 rfl ci_0 ?_
          refine r_istore rfl (by decide) ?_
          refine r_iconst 0 rfl ci_0 ?_
          refine r_istore rfl (by decide) ?_
          first | exact r_sb (Mo_years_b77_ok g N _ hD  N _ _ _ _ _ _ _ _ _ _ _ hE) ⟨rfl, rfl, rfl, rfl, rfl, rfl, rfl, rfl, trivial⟩ | exact r_sb (Mo_years_b77_ok g N _ hD  N _ _ _ _ _ _ _ _ _ _ _ hE) (by simp only [su1, su2, dr1_rf, dr1_in, dr1_lo, dr2_rf, dr2_in, dr2_lo]; exact ⟨rfl, rfl, rfl, rfl, rfl, rfl, rfl, rfl, trivial⟩)
def Mo_mark_b29 (N : Nat) (a0 : Nat) (x1 : Int32) (x2 : Int32) (h : PH) : Option (Bool × PH) :=
  ck ((hK h a0).1 = 11) <|
  ((hR h a0 39)).bind fun a_2 =>
  ck ((hK h a_2).1 = 21) <|
  ck (inb x1 (hK h a_2).2 = true) <|
  lt0 (wZ h a_2 (ix x1) (tb 1)) fun h6 =>
  if x2 = 0 then
    bd (Mo_copies N (hR h6 a0 35) 0 (hR h6 a0 37) (14 * x1) h6) fun v9 h10 =>
    ck ((hK h10 a0).1 = 11) <|
    bd (Mo_laysLines N a0 0 (1 + x1) h10) fun v13 h14 =>
    some (true, h14)
  else
    bd (Mo_copies N (hR h6 a0 37) (14 * x1) (hR h6 a0 35) 0 h6) fun v16 h17 =>
    ck ((hK h17 a0).1 = 11) <|
    bd (Mo_laysLines N a0 (1 + x1) 0 h17) fun v20 h21 =>
    ck ((hK h21 a0).1 = 11) <|
    lt0 (wI h21 a0 40 0) fun h24 =>
    some (true, h24)
set_option maxRecDepth 20000 in
theorem Mo_mark_b29_ok (g : GT) (N : Nat) (D : Nat) (hD : 1 ≤ D) : ∀ (a0 : Nat) (x1 : Int32) (x2 : Int32) (h : PH) (v : Bool) (h' : PH), Mo_mark_b29 N a0 x1 x2 h = some (v, h') → Run g pMo_mark D 29 [(0, va_rf (some a0)), (1, .int x1), (2, .int x2)] [] h (rZ v) h' := by
  obtain ⟨D2, rfl⟩ : ∃ d, D = d + 1 := ⟨D - 1, by omega⟩
  intro a0 x1 x2 h v h' hE
  unfold Mo_mark_b29 at hE
  refine r_aload_n (t := some a0) 0 rfl rfl rfl ?_
  obtain ⟨hk1, hE⟩ := ckE hE
  refine r_getR rfl (fl_11_93 rfl) (Or.inr ⟨_, rfl⟩) rfl hk1 ?_
  refine r_iload_n 1 rfl rfl rfl ?_
  refine r_iconst 1 rfl ci_1 ?_
  obtain ⟨a_2, ha3, hE⟩ := bnE hE
  obtain ⟨hk4, hE⟩ := ckE hE
  obtain ⟨hi5, hE⟩ := ckE hE
  obtain ⟨h6, he7, hE⟩ := ltE hE
  refine r_zast rfl ha3 hk4 hi5 rfl he7 ?_
  refine r_iload_n 2 rfl rfl rfl ?_
  refine r_if_eq (tgt := 71) rfl (by decide) (fun hc8 => ?_) (fun hc8 => ?_)
  · have hE := ifP hc8 hE
    refine r_aload_n (t := some a0) 0 rfl rfl rfl ?_
    refine r_getR rfl (fl_11_81 rfl) (Or.inr ⟨_, rfl⟩) rfl (kwZ he7 hk1) ?_
    refine r_iconst 0 rfl ci_0 ?_
    refine r_aload_n (t := some a0) 0 rfl rfl rfl ?_
    refine r_getR rfl (fl_11_87 rfl) (Or.inr ⟨_, rfl⟩) rfl (kwZ he7 hk1) ?_
    refine r_bipush 14 rfl cb_14 ?_
    refine r_iload_n 1 rfl rfl rfl ?_
    refine r_imul rfl ?_
    obtain ⟨v9, h10, hq11, hE⟩ := bdE hE
    refine r_callS0 (rest := []) (hc := (Mo_copies_ok g N _ _ _ _ _ _ _ hq11 D2 (by omega))) rfl pm_Mo_copies lw_11_340 st_Mo_copies rfl rfl (by decide) ?_
    refine r_aload_n (t := some a0) 0 rfl rfl rfl ?_
    refine r_iconst 0 rfl ci_0 ?_
    refine r_iconst 1 rfl ci_1 ?_
    refine r_iload_n 1 rfl rfl rfl ?_
    refine r_iadd rfl ?_
    obtain ⟨hk12, hE⟩ := ckE hE
    obtain ⟨v13, h14, hq15, hE⟩ := bdE hE
    refine r_callV0 (rest := []) (hc := (Mo_laysLines_ok g N _ _ _ _ _ _ hq15 D2 (by omega))) rfl pm_Mo_laysLines lw_11_315 im_Mo_laysLines sl_Mo_laysLines rfl rfl rfl (rcOK hk12 rfl) (by decide) ?_
    refine r_iconst 1 rfl ci_1 ?_
    cases hE
    exact r_ret rfl (Or.inl ⟨rfl, _, _, rfl, rfl, rfl, rfl⟩)
  · have hE := ifN hc8 hE
    refine r_aload_n (t := some a0) 0 rfl rfl rfl ?_
    refine r_getR rfl (fl_11_87 rfl) (Or.inr ⟨_, rfl⟩) rfl (kwZ he7 hk1) ?_
    refine r_bipush 14 rfl cb_14 ?_
    refine r_iload_n 1 rfl rfl rfl ?_
    refine r_imul rfl ?_
    refine r_aload_n (t := some a0) 0 rfl rfl rfl ?_
    refine r_getR rfl (fl_11_81 rfl) (Or.inr ⟨_, rfl⟩) rfl (kwZ he7 hk1) ?_
    refine r_iconst 0 rfl ci_0 ?_
    obtain ⟨v16, h17, hq18, hE⟩ := bdE hE
    refine r_callS0 (rest := []) (hc := (Mo_copies_ok g N _ _ _ _ _ _ _ hq18 D2 (by omega))) rfl pm_Mo_copies lw_11_340 st_Mo_copies rfl rfl (by decide) ?_
    refine r_aload_n (t := some a0) 0 rfl rfl rfl ?_
    refine r_iconst 1 rfl ci_1 ?_
    refine r_iload_n 1 rfl rfl rfl ?_
    refine r_iadd rfl ?_
    refine r_iconst 0 rfl ci_0 ?_
    obtain ⟨hk19, hE⟩ := ckE hE
    obtain ⟨v20, h21, hq22, hE⟩ := bdE hE
    refine r_callV0 (rest := []) (hc := (Mo_laysLines_ok g N _ _ _ _ _ _ hq22 D2 (by omega))) rfl pm_Mo_laysLines lw_11_315 im_Mo_laysLines sl_Mo_laysLines rfl rfl rfl (rcOK hk19 rfl) (by decide) ?_
    refine r_aload_n (t := some a0) 0 rfl rfl rfl ?_
    refine r_iconst 0 rfl ci_0 ?_
    obtain ⟨hk23, hE⟩ := ckE hE
    obtain ⟨h24, he25, hE⟩ := ltE hE
    refine r_putI rfl (fl_11_309 rfl) finF rfl hk23 he25 ?_
    refine r_iconst 1 rfl ci_1 ?_
    cases hE
    exact r_ret rfl (Or.inl ⟨rfl, _, _, rfl, rfl, rfl, rfl⟩)
def Mo_mark (N : Nat) (a0 : Nat) (x1 : Int32) (x2 : Int32) (h : PH) : Option (Bool × PH) :=
  ck ((hK h a0).1 = 11) <|
  lt0 (wI h a0 0 0) fun h2 =>
  bd (Mo_within N x1 0 3 h2) fun v4 h5 =>
  if (bI v4) = 0 then
    some (false, h5)
  else
    if x2 = 0 then
      Mo_mark_b29 N  a0 x1 x2 h5
    else
      ck ((hK h5 a0).1 = 11) <|
      ((hR h5 a0 39)).bind fun a_10 =>
      ck ((hK h5 a_10).1 = 21) <|
      ck (inb x1 (hK h5 a_10).2 = true) <|
      if (bI (hZ h5 a_10 (ix x1))) = 0 then
        some (false, h5)
      else
        Mo_mark_b29 N  a0 x1 x2 h5
set_option maxRecDepth 20000 in
theorem Mo_mark_ok (g : GT) (N : Nat) (a0 : Nat) (x1 : Int32) (x2 : Int32) (h : PH) (v : Bool) (h' : PH) (hE : Mo_mark N a0 x1 x2 h = some (v, h')) (D : Nat) (hD : 1 ≤ D) : Calls g D pMo_mark [va_rf (some a0), .int x1, .int x2] h (oZ v) h' := by
  refine Calls.of cok_Mo_mark ht_Mo_mark pl_Mo_mark (fun ad => by rw [lg_len, sL_cat]; simp only [List.map_cons, List.map_nil, rf_cat, cat_i, cat_l, List.sum_cons, List.sum_nil]; decide) ?_
  rw [show lv_args 0 [va_rf (some a0), .int x1, .int x2] = [(0, va_rf (some a0)), (1, .int x1), (2, .int x2)] from (by simp only [lv_args, rf_cat, cat_i, cat_l]; try rfl)]
  obtain ⟨D2, rfl⟩ : ∃ d, D = d + 1 := ⟨D - 1, by omega⟩
  unfold Mo_mark at hE
  refine r_aload_n (t := some a0) 0 rfl rfl rfl ?_
  refine r_iconst 0 rfl ci_0 ?_
  obtain ⟨hk1, hE⟩ := ckE hE
  obtain ⟨h2, he3, hE⟩ := ltE hE
  refine r_putI rfl (fl_11_119 rfl) finF rfl hk1 he3 ?_
  refine r_iload_n 1 rfl rfl rfl ?_
  refine r_iconst 0 rfl ci_0 ?_
  refine r_iconst 3 rfl ci_3 ?_
  obtain ⟨v4, h5, hq6, hE⟩ := bdE hE
  refine r_callS1 (rest := []) (hc := (Mo_within_ok g N _ _ _ _ _ _ hq6 D2 (by omega))) rfl pm_Mo_within lw_11_247 st_Mo_within rfl rfl (by decide) ?_
  refine r_if_eq (tgt := 27) rfl (by decide) (fun hc7 => ?_) (fun hc7 => ?_)
  · have hE := ifP hc7 hE
    refine r_iconst 0 rfl ci_0 ?_
    cases hE
    exact r_ret rfl (Or.inl ⟨rfl, _, _, rfl, rfl, rfl, rfl⟩)
  · have hE := ifN hc7 hE
    refine r_iload_n 2 rfl rfl rfl ?_
    refine r_if_eq (tgt := 29) rfl (by decide) (fun hc8 => ?_) (fun hc8 => ?_)
    · have hE := ifP hc8 hE
      first | exact r_sb (Mo_mark_b29_ok g N _ hD   _ _ _ _ _ _ hE) ⟨rfl, rfl, rfl, trivial⟩ | exact r_sb (Mo_mark_b29_ok g N _ hD   _ _ _ _ _ _ hE) (by simp only [su1, su2, dr1_rf, dr1_in, dr1_lo, dr2_rf, dr2_in, dr2_lo]; exact ⟨rfl, rfl, rfl, trivial⟩)
    · have hE := ifN hc8 hE
      refine r_aload_n (t := some a0) 0 rfl rfl rfl ?_
      obtain ⟨hk9, hE⟩ := ckE hE
      refine r_getR rfl (fl_11_93 rfl) (Or.inr ⟨_, rfl⟩) rfl hk9 ?_
      refine r_iload_n 1 rfl rfl rfl ?_
      obtain ⟨a_10, ha11, hE⟩ := bnE hE
      obtain ⟨hk12, hE⟩ := ckE hE
      obtain ⟨hi13, hE⟩ := ckE hE
      refine r_zald rfl ha11 hk12 hi13 ?_
      refine r_if_ne (tgt := 29) rfl (by decide) (fun hc14 => ?_) (fun hc14 => ?_)
      · have hE := ifP hc14 hE
        refine r_iconst 0 rfl ci_0 ?_
        cases hE
        exact r_ret rfl (Or.inl ⟨rfl, _, _, rfl, rfl, rfl, rfl⟩)
      · have hE := ifN hc14 hE
        first | exact r_sb (Mo_mark_b29_ok g N _ hD   _ _ _ _ _ _ hE) ⟨rfl, rfl, rfl, trivial⟩ | exact r_sb (Mo_mark_b29_ok g N _ hD   _ _ _ _ _ _ hE) (by simp only [su1, su2, dr1_rf, dr1_in, dr1_lo, dr2_rf, dr2_in, dr2_lo]; exact ⟨rfl, rfl, rfl, trivial⟩)
def Mo_score (N : Nat) (a0 : Nat) (h : PH) : Option (Int32 × PH) :=
  ck ((hK h a0).1 = 11) <|
  lt0 (wI h a0 0 0) fun h2 =>
  ((hR h2 a0 35)).bind fun a_4 =>
  ck ((hK h2 a_4).1 = 20) <|
  ck (inb 11 (hK h2 a_4).2 = true) <|
  some ((hI h2 a_4 (ix 11)), h2)
set_option maxRecDepth 20000 in
theorem Mo_score_ok (g : GT) (N : Nat) (a0 : Nat) (h : PH) (v : Int32) (h' : PH) (hE : Mo_score N a0 h = some (v, h')) (D : Nat) (hD : 0 ≤ D) : Calls g D pMo_score [va_rf (some a0)] h (oI v) h' := by
  refine Calls.of cok_Mo_score ht_Mo_score pl_Mo_score (fun ad => by rw [lg_len, sL_cat]; simp only [List.map_cons, List.map_nil, rf_cat, cat_i, cat_l, List.sum_cons, List.sum_nil]; decide) ?_
  rw [show lv_args 0 [va_rf (some a0)] = [(0, va_rf (some a0))] from (by simp only [lv_args, rf_cat, cat_i, cat_l]; try rfl)]
  unfold Mo_score at hE
  refine r_aload_n (t := some a0) 0 rfl rfl rfl ?_
  refine r_iconst 0 rfl ci_0 ?_
  obtain ⟨hk1, hE⟩ := ckE hE
  obtain ⟨h2, he3, hE⟩ := ltE hE
  refine r_putI rfl (fl_11_119 rfl) finF rfl hk1 he3 ?_
  refine r_aload_n (t := some a0) 0 rfl rfl rfl ?_
  refine r_getR rfl (fl_11_81 rfl) (Or.inr ⟨_, rfl⟩) rfl (kwI he3 hk1) ?_
  refine r_bipush 11 rfl cb_11 ?_
  obtain ⟨a_4, ha5, hE⟩ := bnE hE
  obtain ⟨hk6, hE⟩ := ckE hE
  obtain ⟨hi7, hE⟩ := ckE hE
  refine r_iald rfl ha5 hk6 hi7 ?_
  cases hE
  exact r_ret rfl (Or.inl ⟨rfl, _, _, rfl, rfl, rfl, rfl⟩)
def Mo_count (N : Nat) (a0 : Nat) (x1 : Int32) (h : PH) : Option (Int32 × PH) :=
  ck ((hK h a0).1 = 11) <|
  lt0 (wI h a0 0 0) fun h2 =>
  bd (Mo_within N x1 0 14 h2) fun v4 h5 =>
  if (bI v4) = 0 then
    some ((-1), h5)
  else
    if 2 ≤ x1 then
      if 6 ≤ x1 then
        if x1 = 6 then
          ck ((hK h5 a0).1 = 11) <|
          ((hR h5 a0 35)).bind fun a_12 =>
          ck ((hK h5 a_12).1 = 20) <|
          ck (inb 6 (hK h5 a_12).2 = true) <|
          some ((1 - (hI h5 a_12 (ix 6))), h5)
        else
          if 9 ≤ x1 then
            if 11 ≤ x1 then
              if x1 = 11 then
                ck ((hK h5 a0).1 = 11) <|
                ((hR h5 a0 32)).bind fun a_20 =>
                ck ((hK h5 a_20).1 = 20) <|
                ck (inb 0 (hK h5 a_20).2 = true) <|
                some ((hI h5 a_20 (ix 0)), h5)
              else
                if x1 = 12 then
                  ck ((hK h5 a0).1 = 11) <|
                  some ((hI h5 a0 40), h5)
                else
                  if x1 = 13 then
                    ck ((hK h5 a0).1 = 11) <|
                    some ((hI h5 a0 1), h5)
                  else
                    ck ((hK h5 a0).1 = 11) <|
                    ((hR h5 a0 35)).bind fun a_29 =>
                    ck ((hK h5 a_29).1 = 20) <|
                    ck (inb 5 (hK h5 a_29).2 = true) <|
                    some ((hI h5 a_29 (ix 5)), h5)
            else
              ck ((hK h5 a0).1 = 11) <|
              ((hR h5 a0 35)).bind fun a_34 =>
              ck ((hK h5 a_34).1 = 20) <|
              ck (inb x1 (hK h5 a_34).2 = true) <|
              some ((hI h5 a_34 (ix x1)), h5)
          else
            if x1 = 7 then
              ck ((hK h5 a0).1 = 11) <|
              ((hR h5 a0 35)).bind fun a_40 =>
              ck ((hK h5 a_40).1 = 20) <|
              ck (inb 7 (hK h5 a_40).2 = true) <|
              some ((hI h5 a_40 (ix 7)), h5)
            else
              ck ((hK h5 a0).1 = 11) <|
              ((hR h5 a0 10)).bind fun a_45 =>
              ck ((hK h5 a_45).1 = 20) <|
              ck (inb 15 (hK h5 a_45).2 = true) <|
              some ((hI h5 a_45 (ix 15)), h5)
      else
        ck ((hK h5 a0).1 = 11) <|
        ((hR h5 a0 35)).bind fun a_50 =>
        ck ((hK h5 a_50).1 = 20) <|
        ck (inb (x1 - 1) (hK h5 a_50).2 = true) <|
        some ((hI h5 a_50 (ix (x1 - 1))), h5)
    else
      if x1 = 0 then
        ck ((hK h5 a0).1 = 11) <|
        ((hR h5 a0 10)).bind fun a_56 =>
        ck ((hK h5 a_56).1 = 20) <|
        ck (inb 0 (hK h5 a_56).2 = true) <|
        some ((hI h5 a_56 (ix 0)), h5)
      else
        ck ((hK h5 a0).1 = 11) <|
        ((hR h5 a0 35)).bind fun a_61 =>
        ck ((hK h5 a_61).1 = 20) <|
        ck (inb 0 (hK h5 a_61).2 = true) <|
        some ((hI h5 a_61 (ix 0)), h5)
set_option maxRecDepth 20000 in
theorem Mo_count_ok (g : GT) (N : Nat) (a0 : Nat) (x1 : Int32) (h : PH) (v : Int32) (h' : PH) (hE : Mo_count N a0 x1 h = some (v, h')) (D : Nat) (hD : 1 ≤ D) : Calls g D pMo_count [va_rf (some a0), .int x1] h (oI v) h' := by
  refine Calls.of cok_Mo_count ht_Mo_count pl_Mo_count (fun ad => by rw [lg_len, sL_cat]; simp only [List.map_cons, List.map_nil, rf_cat, cat_i, cat_l, List.sum_cons, List.sum_nil]; decide) ?_
  rw [show lv_args 0 [va_rf (some a0), .int x1] = [(0, va_rf (some a0)), (1, .int x1)] from (by simp only [lv_args, rf_cat, cat_i, cat_l]; try rfl)]
  obtain ⟨D2, rfl⟩ : ∃ d, D = d + 1 := ⟨D - 1, by omega⟩
  unfold Mo_count at hE
  refine r_aload_n (t := some a0) 0 rfl rfl rfl ?_
  refine r_iconst 0 rfl ci_0 ?_
  obtain ⟨hk1, hE⟩ := ckE hE
  obtain ⟨h2, he3, hE⟩ := ltE hE
  refine r_putI rfl (fl_11_119 rfl) finF rfl hk1 he3 ?_
  refine r_iload_n 1 rfl rfl rfl ?_
  refine r_iconst 0 rfl ci_0 ?_
  refine r_bipush 14 rfl cb_14 ?_
  obtain ⟨v4, h5, hq6, hE⟩ := bdE hE
  refine r_callS1 (rest := []) (hc := (Mo_within_ok g N _ _ _ _ _ _ hq6 D2 (by omega))) rfl pm_Mo_within lw_11_247 st_Mo_within rfl rfl (by decide) ?_
  refine r_if_ne (tgt := 17) rfl (by decide) (fun hc7 => ?_) (fun hc7 => ?_)
  · have hE := ifP hc7 hE
    refine r_iconst (-1) rfl ci_m1 ?_
    cases hE
    exact r_ret rfl (Or.inl ⟨rfl, _, _, rfl, rfl, rfl, rfl⟩)
  · have hE := ifN hc7 hE
    refine r_iload_n 1 rfl rfl rfl ?_
    refine r_iconst 2 rfl ci_2 ?_
    refine r_icmp_ge (tgt := 42) rfl (by decide) (fun hc8 => ?_) (fun hc8 => ?_)
    · have hE := ifP hc8 hE
      refine r_iload_n 1 rfl rfl rfl ?_
      refine r_bipush 6 rfl cb_6 ?_
      refine r_icmp_ge (tgt := 57) rfl (by decide) (fun hc9 => ?_) (fun hc9 => ?_)
      · have hE := ifP hc9 hE
        refine r_iload_n 1 rfl rfl rfl ?_
        refine r_bipush 6 rfl cb_6 ?_
        refine r_icmp_ne (tgt := 73) rfl (by decide) (fun hc10 => ?_) (fun hc10 => ?_)
        · have hE := ifP hc10 hE
          refine r_iconst 1 rfl ci_1 ?_
          refine r_aload_n (t := some a0) 0 rfl rfl rfl ?_
          obtain ⟨hk11, hE⟩ := ckE hE
          refine r_getR rfl (fl_11_81 rfl) (Or.inr ⟨_, rfl⟩) rfl hk11 ?_
          refine r_bipush 6 rfl cb_6 ?_
          obtain ⟨a_12, ha13, hE⟩ := bnE hE
          obtain ⟨hk14, hE⟩ := ckE hE
          obtain ⟨hi15, hE⟩ := ckE hE
          refine r_iald rfl ha13 hk14 hi15 ?_
          refine r_isub rfl ?_
          cases hE
          exact r_ret rfl (Or.inl ⟨rfl, _, _, rfl, rfl, rfl, rfl⟩)
        · have hE := ifN hc10 hE
          refine r_iload_n 1 rfl rfl rfl ?_
          refine r_bipush 9 rfl cb_9 ?_
          refine r_icmp_ge (tgt := 103) rfl (by decide) (fun hc16 => ?_) (fun hc16 => ?_)
          · have hE := ifP hc16 hE
            refine r_iload_n 1 rfl rfl rfl ?_
            refine r_bipush 11 rfl cb_11 ?_
            refine r_icmp_ge (tgt := 116) rfl (by decide) (fun hc17 => ?_) (fun hc17 => ?_)
            · have hE := ifP hc17 hE
              refine r_iload_n 1 rfl rfl rfl ?_
              refine r_bipush 11 rfl cb_11 ?_
              refine r_icmp_ne (tgt := 131) rfl (by decide) (fun hc18 => ?_) (fun hc18 => ?_)
              · have hE := ifP hc18 hE
                refine r_aload_n (t := some a0) 0 rfl rfl rfl ?_
                obtain ⟨hk19, hE⟩ := ckE hE
                refine r_getR rfl (fl_11_72 rfl) (Or.inr ⟨_, rfl⟩) rfl hk19 ?_
                refine r_iconst 0 rfl ci_0 ?_
                obtain ⟨a_20, ha21, hE⟩ := bnE hE
                obtain ⟨hk22, hE⟩ := ckE hE
                obtain ⟨hi23, hE⟩ := ckE hE
                refine r_iald rfl ha21 hk22 hi23 ?_
                refine r_goto (tgt := 163) rfl (by decide) ?_
                cases hE
                exact r_ret rfl (Or.inl ⟨rfl, _, _, rfl, rfl, rfl, rfl⟩)
              · have hE := ifN hc18 hE
                refine r_iload_n 1 rfl rfl rfl ?_
                refine r_bipush 12 rfl cb_12 ?_
                refine r_icmp_ne (tgt := 144) rfl (by decide) (fun hc24 => ?_) (fun hc24 => ?_)
                · have hE := ifP hc24 hE
                  refine r_aload_n (t := some a0) 0 rfl rfl rfl ?_
                  obtain ⟨hk25, hE⟩ := ckE hE
                  refine r_getI rfl (fl_11_309 rfl) (Or.inl rfl) rfl hk25 ?_
                  refine r_goto (tgt := 163) rfl (by decide) ?_
                  cases hE
                  exact r_ret rfl (Or.inl ⟨rfl, _, _, rfl, rfl, rfl, rfl⟩)
                · have hE := ifN hc24 hE
                  refine r_iload_n 1 rfl rfl rfl ?_
                  refine r_bipush 13 rfl cb_13 ?_
                  refine r_icmp_ne (tgt := 157) rfl (by decide) (fun hc26 => ?_) (fun hc26 => ?_)
                  · have hE := ifP hc26 hE
                    refine r_aload_n (t := some a0) 0 rfl rfl rfl ?_
                    obtain ⟨hk27, hE⟩ := ckE hE
                    refine r_getI rfl (fl_11_125 rfl) (Or.inl rfl) rfl hk27 ?_
                    refine r_goto (tgt := 163) rfl (by decide) ?_
                    cases hE
                    exact r_ret rfl (Or.inl ⟨rfl, _, _, rfl, rfl, rfl, rfl⟩)
                  · have hE := ifN hc26 hE
                    refine r_aload_n (t := some a0) 0 rfl rfl rfl ?_
                    obtain ⟨hk28, hE⟩ := ckE hE
                    refine r_getR rfl (fl_11_81 rfl) (Or.inr ⟨_, rfl⟩) rfl hk28 ?_
                    refine r_iconst 5 rfl ci_5 ?_
                    obtain ⟨a_29, ha30, hE⟩ := bnE hE
                    obtain ⟨hk31, hE⟩ := ckE hE
                    obtain ⟨hi32, hE⟩ := ckE hE
                    refine r_iald rfl ha30 hk31 hi32 ?_
                    cases hE
                    exact r_ret rfl (Or.inl ⟨rfl, _, _, rfl, rfl, rfl, rfl⟩)
            · have hE := ifN hc17 hE
              refine r_aload_n (t := some a0) 0 rfl rfl rfl ?_
              obtain ⟨hk33, hE⟩ := ckE hE
              refine r_getR rfl (fl_11_81 rfl) (Or.inr ⟨_, rfl⟩) rfl hk33 ?_
              refine r_iload_n 1 rfl rfl rfl ?_
              obtain ⟨a_34, ha35, hE⟩ := bnE hE
              obtain ⟨hk36, hE⟩ := ckE hE
              obtain ⟨hi37, hE⟩ := ckE hE
              refine r_iald rfl ha35 hk36 hi37 ?_
              cases hE
              exact r_ret rfl (Or.inl ⟨rfl, _, _, rfl, rfl, rfl, rfl⟩)
          · have hE := ifN hc16 hE
            refine r_iload_n 1 rfl rfl rfl ?_
            refine r_bipush 7 rfl cb_7 ?_
            refine r_icmp_ne (tgt := 95) rfl (by decide) (fun hc38 => ?_) (fun hc38 => ?_)
            · have hE := ifP hc38 hE
              refine r_aload_n (t := some a0) 0 rfl rfl rfl ?_
              obtain ⟨hk39, hE⟩ := ckE hE
              refine r_getR rfl (fl_11_81 rfl) (Or.inr ⟨_, rfl⟩) rfl hk39 ?_
              refine r_bipush 7 rfl cb_7 ?_
              obtain ⟨a_40, ha41, hE⟩ := bnE hE
              obtain ⟨hk42, hE⟩ := ckE hE
              obtain ⟨hi43, hE⟩ := ckE hE
              refine r_iald rfl ha41 hk42 hi43 ?_
              refine r_goto (tgt := 102) rfl (by decide) ?_
              cases hE
              exact r_ret rfl (Or.inl ⟨rfl, _, _, rfl, rfl, rfl, rfl⟩)
            · have hE := ifN hc38 hE
              refine r_aload_n (t := some a0) 0 rfl rfl rfl ?_
              obtain ⟨hk44, hE⟩ := ckE hE
              refine r_getR rfl (fl_11_13 rfl) (Or.inr ⟨_, rfl⟩) rfl hk44 ?_
              refine r_bipush 15 rfl cb_15 ?_
              obtain ⟨a_45, ha46, hE⟩ := bnE hE
              obtain ⟨hk47, hE⟩ := ckE hE
              obtain ⟨hi48, hE⟩ := ckE hE
              refine r_iald rfl ha46 hk47 hi48 ?_
              cases hE
              exact r_ret rfl (Or.inl ⟨rfl, _, _, rfl, rfl, rfl, rfl⟩)
      · have hE := ifN hc9 hE
        refine r_aload_n (t := some a0) 0 rfl rfl rfl ?_
        obtain ⟨hk49, hE⟩ := ckE hE
        refine r_getR rfl (fl_11_81 rfl) (Or.inr ⟨_, rfl⟩) rfl hk49 ?_
        refine r_iload_n 1 rfl rfl rfl ?_
        refine r_iconst 1 rfl ci_1 ?_
        refine r_isub rfl ?_
        obtain ⟨a_50, ha51, hE⟩ := bnE hE
        obtain ⟨hk52, hE⟩ := ckE hE
        obtain ⟨hi53, hE⟩ := ckE hE
        refine r_iald rfl ha51 hk52 hi53 ?_
        cases hE
        exact r_ret rfl (Or.inl ⟨rfl, _, _, rfl, rfl, rfl, rfl⟩)
    · have hE := ifN hc8 hE
      refine r_iload_n 1 rfl rfl rfl ?_
      refine r_if_ne (tgt := 35) rfl (by decide) (fun hc54 => ?_) (fun hc54 => ?_)
      · have hE := ifP hc54 hE
        refine r_aload_n (t := some a0) 0 rfl rfl rfl ?_
        obtain ⟨hk55, hE⟩ := ckE hE
        refine r_getR rfl (fl_11_13 rfl) (Or.inr ⟨_, rfl⟩) rfl hk55 ?_
        refine r_iconst 0 rfl ci_0 ?_
        obtain ⟨a_56, ha57, hE⟩ := bnE hE
        obtain ⟨hk58, hE⟩ := ckE hE
        obtain ⟨hi59, hE⟩ := ckE hE
        refine r_iald rfl ha57 hk58 hi59 ?_
        refine r_goto (tgt := 41) rfl (by decide) ?_
        cases hE
        exact r_ret rfl (Or.inl ⟨rfl, _, _, rfl, rfl, rfl, rfl⟩)
      · have hE := ifN hc54 hE
        refine r_aload_n (t := some a0) 0 rfl rfl rfl ?_
        obtain ⟨hk60, hE⟩ := ckE hE
        refine r_getR rfl (fl_11_81 rfl) (Or.inr ⟨_, rfl⟩) rfl hk60 ?_
        refine r_iconst 0 rfl ci_0 ?_
        obtain ⟨a_61, ha62, hE⟩ := bnE hE
        obtain ⟨hk63, hE⟩ := ckE hE
        obtain ⟨hi64, hE⟩ := ckE hE
        refine r_iald rfl ha62 hk63 hi64 ?_
        cases hE
        exact r_ret rfl (Or.inl ⟨rfl, _, _, rfl, rfl, rfl, rfl⟩)
