/-! THE PURE PROOFS, 96: the start: cells made; the small constructors. -/
/-- cells are made where their kinds were foretold -/
def FrGr (S : Nat → Prop) (k s : Nat) (h h2 : PH) : Prop := (hN h2 = hN h + k ∧ hS h2 = hS h + s ∧ hE h2 = hE h) ∧ hK h2 = hK h ∧ ∀ b, ¬ S b → hI h2 b = hI h b ∧ hJ h2 b = hJ h b ∧ hZ h2 b = hZ h b ∧ hR h2 b = hR h b
theorem FrGr.rf {S : Nat → Prop} {h : PH} : FrGr S 0 0 h h := ⟨⟨rfl, rfl, rfl⟩, rfl, fun _ _ => ⟨rfl, rfl, rfl, rfl⟩⟩
theorem FrGr.tr {S : Nat → Prop} {k s k2 s2 : Nat} {h h1 h2 : PH} (a : FrGr S k s h h1) (b : FrGr S k2 s2 h1 h2) : FrGr S (k + k2) (s + s2) h h2 := ⟨⟨by rw [b.1.1, a.1.1]; omega, by rw [b.1.2.1, a.1.2.1]; omega, by rw [b.1.2.2, a.1.2.2]⟩, b.2.1.trans a.2.1, fun c hc => ⟨(b.2.2 c hc).1.trans (a.2.2 c hc).1, (b.2.2 c hc).2.1.trans (a.2.2 c hc).2.1, (b.2.2 c hc).2.2.1.trans (a.2.2 c hc).2.2.1, (b.2.2 c hc).2.2.2.trans (a.2.2 c hc).2.2.2⟩⟩
theorem FrGr.up {S T : Nat → Prop} {k s : Nat} {h h2 : PH} (a : FrGr S k s h h2) (u : ∀ b, S b → T b) : FrGr T k s h h2 := ⟨a.1, a.2.1, fun c hc => a.2.2 c (fun z => hc (u c z))⟩
theorem FrS.gr {S : Nat → Prop} {h h2 : PH} (f : FrS S h h2) : FrGr S 0 0 h h2 := ⟨⟨by unfold hN; rw [f.1]; rfl, by unfold hS; rw [f.1]; rfl, by unfold hE; rw [f.1]⟩, f.2.1, fun b hb => ⟨(f.2.2.2 b hb).1, (f.2.2.2 b hb).2.1, (f.2.2.2 b hb).2.2, by rw [f.2.2.1]⟩⟩
theorem FrGr.nw {S : Nat → Prop} {k s : Nat} {h0 h : PH} {kd : Nat × Nat} {m : Nat} (f : FrGr S k s h0 h) (e : hK h0 (hN h0 + k) = kd) (sn : S (hN h0 + k)) : FrGr S (k + 1) (s + m) h0 (nw h kd m) := by
  refine ⟨⟨by rw [hN_nw, f.1.1]; omega, by rw [hS_nw, f.1.2.1]; omega, by rw [hE_nw, f.1.2.2]⟩, ?_, fun b hb => ?_⟩
  · funext b
    rw [hK_nw, f.1.1, f.2.1]
    by_cases c : b = hN h0 + k
    · rw [if_pos c, c, e]
    · rw [if_neg c]
  · have nb : b ≠ hN h := fun z => hb (by rw [z, f.1.1]; exact sn)
    have l := f.2.2 b hb
    refine ⟨?_, ?_, ?_, ?_⟩
    · rw [← l.1]; funext j; rw [hI_nw, if_neg nb]
    · rw [← l.2.1]; funext j; rw [hJ_nw, if_neg nb]
    · rw [← l.2.2.1]; funext j; rw [hZ_nw, if_neg nb]
    · rw [← l.2.2.2]; funext j; rw [hR_nw, if_neg nb]
theorem FrGr.wI {S : Nat → Prop} {k s : Nat} {h0 h : PH} {a i : Nat} {v : Int32} (f : FrGr S k s h0 h) (sa : S a) : FrGr S k s h0 (wI h a i v) := f.tr (FrS.gr (FrS.rf.aI sa))
theorem FrGr.wJ {S : Nat → Prop} {k s : Nat} {h0 h : PH} {a i : Nat} {v : Int64} (f : FrGr S k s h0 h) (sa : S a) : FrGr S k s h0 (wJ h a i v) := f.tr (FrS.gr (FrS.rf.aJ sa))
theorem FrGr.wZ {S : Nat → Prop} {k s : Nat} {h0 h : PH} {a i : Nat} {v : Bool} (f : FrGr S k s h0 h) (sa : S a) : FrGr S k s h0 (wZ h a i v) := f.tr (FrS.gr (FrS.rf.aZ sa))
theorem FrGr.wR {S : Nat → Prop} {k s : Nat} {h0 h : PH} {a i : Nat} {v : Option Nat} (f : FrGr S k s h0 h) (sa : S a) : FrGr S k s h0 (wR h a i v) := by
  refine ⟨f.1, f.2.1, fun b hb => ⟨(f.2.2 b hb).1, (f.2.2 b hb).2.1, (f.2.2 b hb).2.2.1, ?_⟩⟩
  rw [← (f.2.2 b hb).2.2.2]
  funext j
  rw [hR_wR, if_neg (fun z => hb (by rw [z.1]; exact sa))]
section
variable {N a : Nat} {h : PH}
theorem niInit (ka : hK h a = (3, 0)) : Wp (Ni_init N a h) (fun _ h2 => FrGr (fun b => b = a) 0 0 h h2) := by
  unfold Ni_init
  refine Wp_ck (by rw [ka]) (Wp_lt (Wp_lt (Wp_lt (Wp_lt (Wp_lt (Wp_lt (Wp_lt (Wp_lt (Wp_lt (Wp_lt (Wp_lt (Wp_lt (Wp_lt (Wp_lt (Wp_ret ?_)))))))))))))))
  refine FrGr.wZ (FrGr.wZ (FrGr.wZ (FrGr.wZ (FrGr.wZ (FrGr.wZ (FrGr.wI (FrGr.wI (FrGr.wI (FrGr.wI (FrGr.wI (FrGr.wI (FrGr.wI (FrGr.wI FrGr.rf ?_) ?_) ?_) ?_) ?_) ?_) ?_) ?_) ?_) ?_) ?_) ?_) ?_) ?_ <;> rfl
theorem scInit {n : Nat} (en : hN h = n) (an : a < n) (ka : hK h a = (6, 0)) (k0 : hK h n = (20, 60)) (k1 : hK h (n + 1) = (20, 60)) : Wp (Sc_init N a h) (fun _ h2 => FrGr (fun b => b = a ∨ b = n ∨ b = n + 1) 2 120 h h2 ∧ hR h2 a 0 = some n ∧ hR h2 a 1 = some (n + 1)) := by
  subst en
  unfold Sc_init
  rw [show ix 60 = 60 from by decide]
  refine Wp_ck (by decide) (Wp_lt ?_)
  have f1 : FrGr (fun b => b = a ∨ b = hN h ∨ b = hN h + 1) 1 60 h (nw h (20, 60) 60) := FrGr.rf.nw k0 (Or.inr (Or.inl rfl))
  refine Wp_ck (by rw [f1.2.1, ka]) (Wp_lt (Wp_ck (by decide) (Wp_lt ?_)))
  have f2 := (f1.wR (a := a) (i := 0) (v := some (hN h)) (Or.inl rfl)).nw (kd := (20, 60)) (m := 60) k1 (Or.inr (Or.inr rfl))
  refine Wp_ck (by rw [f2.2.1, ka]) (Wp_lt (Wp_lt (Wp_ret ⟨((f2.wR (Or.inl rfl)).wI (Or.inl rfl)), ?_, ?_⟩)))
  · rw [hR_wI, hR_wR, if_neg (by omega), hR_nw, if_neg (by rw [hN_wR, hN_nw]; omega), hR_wR, if_pos ⟨rfl, rfl⟩]
  · rw [hR_wI, hR_wR, if_pos ⟨rfl, rfl⟩, hN_wR, hN_nw]
theorem vaInit {n : Nat} {x1 : Option Nat} {w m : Int} (en : hN h = n) (an : a < n) (ka : hK h a = (9, 0)) (k0 : hK h n = (20, 5)) (k1 : hK h (n + 1) = (20, 0)) (hw : w = 0 ∨ w = 1) (hm : m = 0 ∨ m = 1) : Wp (Va_init N a x1 (iv w) (iv m) h) (fun _ h2 => FrGr (fun b => b = a ∨ b = n ∨ b = n + 1) 2 5 h h2 ∧ hR h2 a 3 = some n ∧ hR h2 a 4 = some (n + 1) ∧ hR h2 a 0 = x1 ∧ hZ h2 a 1 = decide (w = 1) ∧ hZ h2 a 2 = decide (m = 1)) := by
  subst en
  unfold Va_init
  rw [show ix 5 = 5 from by decide, show ix 0 = 0 from by decide]
  refine Wp_ck (by decide) (Wp_lt ?_)
  have f1 : FrGr (fun b => b = a ∨ b = hN h ∨ b = hN h + 1) 1 5 h (nw h (20, 5) 5) := FrGr.rf.nw k0 (Or.inr (Or.inl rfl))
  refine Wp_ck (by rw [f1.2.1, ka]) (Wp_lt (Wp_ck (by decide) (Wp_lt ?_)))
  have f2 := (f1.wR (a := a) (i := 3) (v := some (hN h)) (Or.inl rfl)).nw (kd := (20, 0)) (m := 0) k1 (Or.inr (Or.inr rfl))
  refine Wp_ck (by rw [f2.2.1, ka]) (Wp_lt (Wp_lt (Wp_lt (Wp_ck (tb_w hw).2 (Wp_lt (Wp_ck (tb_w hm).2 (Wp_lt (Wp_ret ⟨((((f2.wR (Or.inl rfl)).wI (Or.inl rfl)).wR (Or.inl rfl)).wZ (Or.inl rfl)).wZ (Or.inl rfl), ?_, ?_, ?_, ?_, ?_⟩))))))))
  · rw [hR_wZ, hR_wZ, hR_wR, if_neg (by omega), hR_wI, hR_wR, if_neg (by omega), hR_nw, if_neg (by rw [hN_wR, hN_nw]; omega), hR_wR, if_pos ⟨rfl, rfl⟩]
  · rw [hR_wZ, hR_wZ, hR_wR, if_neg (by omega), hR_wI, hR_wR, if_pos ⟨rfl, rfl⟩, hN_wR, hN_nw]
  · rw [hR_wZ, hR_wZ, hR_wR, if_pos ⟨rfl, rfl⟩]
  · rw [hZ_wZ, if_neg (by omega), hZ_wZ, if_pos ⟨rfl, rfl⟩]; exact (tb_w hw).1
  · rw [hZ_wZ, if_pos ⟨rfl, rfl⟩]; exact (tb_w hm).1
theorem maInit {n : Nat} (en : hN h = n) (an : a < n) (ka : hK h a = (1, 0)) (k0 : hK h n = (3, 0)) (k1 : hK h (n + 1) = (6, 0)) (k2 : hK h (n + 2) = (20, 60)) (k3 : hK h (n + 3) = (20, 60)) : Wp (Ma_init N a h) (fun _ h2 => FrGr (fun b => b = a ∨ (n ≤ b ∧ b ≤ n + 3)) 4 137 h h2 ∧ hR h2 a 0 = some n ∧ hR h2 a 1 = some (n + 1) ∧ hR h2 (n + 1) 0 = some (n + 2) ∧ hR h2 (n + 1) 1 = some (n + 3)) := by
  subst en
  unfold Ma_init
  refine Wp_lt ?_
  have f1 : FrGr (fun b => b = a ∨ (hN h ≤ b ∧ b ≤ hN h + 3)) 1 14 h (nw h (3, 0) 14) := FrGr.rf.nw k0 (by omega)
  refine Wp_ck (by rw [f1.2.1, k0]) (Wp_bd2 (niInit (by rw [f1.2.1, k0])) ?_)
  rintro - h2 g2
  have f2 := f1.tr (g2.up (T := fun b => b = a ∨ (hN h ≤ b ∧ b ≤ hN h + 3)) (fun b z => by omega))
  have f3 := (f2.wR (a := a) (i := 0) (v := some (hN h)) (Or.inl rfl)).nw (kd := (6, 0)) (m := 3) k1 (by omega)
  refine Wp_ck (by rw [f2.2.1, ka]) (Wp_lt (Wp_lt ?_))
  have e4 : hN (wR h2 a 0 (some (hN h))) = hN h + 1 := by rw [hN_wR, f2.1.1]
  rw [e4]
  have r3 : hR (nw (wR h2 a 0 (some (hN h))) (6, 0) 3) a 0 = some (hN h) := by rw [hR_nw, if_neg (by rw [e4]; omega), hR_wR, if_pos ⟨rfl, rfl⟩]
  generalize nw (wR h2 a 0 (some (hN h))) (6, 0) 3 = h4 at f3 r3 ⊢
  refine Wp_ck (by rw [f3.2.1, k1]) (Wp_bd2 (scInit (n := hN h + 2) (by rw [f3.1.1]) (by omega) (by rw [f3.2.1, k1]) (by rw [f3.2.1, k2]) (by rw [f3.2.1, k3])) ?_)
  rintro - h5 ⟨f5, r5, r6⟩
  have f6 := f3.tr (f5.up (T := fun b => b = a ∨ (hN h ≤ b ∧ b ≤ hN h + 3)) (fun b z => by omega))
  refine Wp_ck (by rw [f6.2.1, ka]) (Wp_lt (Wp_lt (Wp_ret ⟨(f6.wR (Or.inl rfl)).wZ (Or.inl rfl), ?_, ?_, ?_, ?_⟩)))
  · rw [hR_wZ, hR_wR, if_neg (by omega), (f5.2.2 a (by omega)).2.2.2]; exact r3
  · rw [hR_wZ, hR_wR, if_pos ⟨rfl, rfl⟩]
  · rw [hR_wZ, hR_wR, if_neg (by omega)]; exact r5
  · rw [hR_wZ, hR_wR, if_neg (by omega)]; exact r6
end
