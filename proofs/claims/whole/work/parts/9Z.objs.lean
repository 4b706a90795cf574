/-! THE PURE PROOFS, 9A3: the start: one thing of the class is made and hung at cell 6. -/
def PtO (l : List ((Nat × Nat) × Nat)) (h : PH) : Prop := ∀ q ∈ l, hR h q.1.1 q.1.2 = some q.2
theorem PtO.wR {l : List ((Nat × Nat) × Nat)} {h : PH} {f : Nat} {v : Option Nat} (x : PtO l h) (n6 : ∀ q ∈ l, q.1.1 ≠ 6) : PtO l (wR h 6 f v) := fun q hq => by rw [hR_wR, if_neg (fun z => n6 q hq z.1)]; exact x q hq
theorem PtO.gr {l : List ((Nat × Nat) × Nat)} {S : Nat → Prop} {k s : Nat} {h h2 : PH} (x : PtO l h) (f : FrGr S k s h h2) (n : ∀ q ∈ l, ¬ S q.1.1) : PtO l h2 := fun q hq => by rw [(f.2.2 _ (n q hq)).2.2.2]; exact x q hq
section
variable {K : Nat × Nat} {M f n m t : Nat} {h0 h : PH} {L : List (Nat × Nat)} {LR : List ((Nat × Nat) × Nat)} {C F : PH → Option (Unit × PH)} {Q : Unit → PH → Prop} {V : (Nat → Nat → Int32) → (Nat → Nat → Int64) → (Nat → Nat → Bool) → Prop}
def P6 (L : List (Nat × Nat)) (h : PH) : Prop := ∀ q ∈ L, hR h 6 q.1 = some q.2
def Mk1 (h0 h : PH) (n : Nat) (h1 : PH) : Prop := hK h1 = hK h0 ∧ hN h1 = n + 1 ∧ (∀ b, b < n → hI h1 b = hI h b ∧ hJ h1 b = hJ h b ∧ hZ h1 b = hZ h b ∧ hR h1 b = hR h b) ∧ (∀ j, hI h1 n j = 0)
theorem mk1 (eK : hK h = hK h0) (eN : hN h = n) (kd : hK h0 n = K) : Mk1 h0 h n (nw h K M) ∧ FrGr (fun b => n ≤ b) 1 M h (nw h K M) := by
  have fr := (FrGr.rf (S := fun b => n ≤ b) (h := h)).nw (kd := K) (m := M) (by rw [eN, eK]; exact kd) (by show n ≤ hN h + 0; omega)
  have fr2 : FrGr (fun b => n ≤ b) 1 M h (nw h K M) := by
    have e := fr
    rw [Nat.zero_add, Nat.zero_add] at e
    exact e
  exact ⟨⟨fr2.2.1.trans eK, by rw [hN_nw, eN], fun b hb => fr2.2.2 b (by omega), fun j => by rw [hI_nw, if_pos eN.symm]⟩, fr2⟩
/-- what stands when it is made and hung -/
def Hung (h0 h : PH) (n f m t : Nat) (L : List (Nat × Nat)) (LR : List ((Nat × Nat) × Nat)) (V : (Nat → Nat → Int32) → (Nat → Nat → Int64) → (Nat → Nat → Bool) → Prop) (h6 : PH) : Prop := hK h6 = hK h0 ∧ hN h6 = n + 1 + m ∧ P6 ((f, n) :: L) h6 ∧ PtO LR h6 ∧ V (hI h6) (hJ h6) (hZ h6) ∧ FrGr (fun b => b = 6 ∨ n ≤ b) (1 + m) t h h6
theorem hung {h1 h5 : PH} {t1 : Nat} (n6 : 6 < n) (P : P6 L h) (nf : ∀ q ∈ L, q.1 ≠ f) (lr : ∀ q ∈ LR, q.1.1 ≠ 6) (a : Mk1 h0 h n h1) (b : FrGr (fun b => n ≤ b) 1 M h h1) (c : FrGr (fun b => n ≤ b) m t1 h1 h5) (p : PtO LR h5) (v : V (hI h5) (hJ h5) (hZ h5)) : Hung h0 h n f m (M + t1) L LR V (wR h5 6 f (some n)) := by
  have d := b.tr c
  refine ⟨by rw [hK_wR]; exact c.2.1.trans a.1, by rw [hN_wR, c.1.1, a.2.1], fun q hq => ?_, p.wR lr, v, (d.up (fun b z => Or.inr z)).wR (Or.inl rfl)⟩
  rcases List.mem_cons.mp hq with rfl | hq
  · rw [hR_wR, if_pos ⟨rfl, rfl⟩]
  · rw [hR_wR, if_neg (fun z => nf q hq z.2), (d.2.2 6 (by omega)).2.2.2]
    exact P q hq
theorem obj {t1 : Nat} (eK : hK h = hK h0) (eN : hN h = n) (P : P6 L h) (n6 : 6 < n) (k6' : hK h0 6 = (10, 0)) (kd : hK h0 n = K) (nf : ∀ q ∈ L, q.1 ≠ f) (lr : ∀ q ∈ LR, q.1.1 ≠ 6) (hC : ∀ h1, Mk1 h0 h n h1 → Wp (C h1) (fun _ h5 => FrGr (fun b => n ≤ b) m t1 h1 h5 ∧ PtO LR h5 ∧ V (hI h5) (hJ h5) (hZ h5))) (go : ∀ h6, Hung h0 h n f m (M + t1) L LR V h6 → Wp (F h6) Q) : Wp (lt0 (nw h K M) fun h1 => ck ((hK h1 n).1 = K.1) <| bd (C h1) fun _ h5 => ck ((hK h5 6).1 = 10) <| lt0 (wR h5 6 f (some n)) fun h8 => F h8) Q := by
  obtain ⟨a, b⟩ := mk1 (M := M) eK eN kd
  refine Wp_lt ?_
  generalize nw h K M = h1 at a b ⊢
  refine Wp_ck (by rw [a.1, kd]) (Wp_bd2 (hC h1 a) ?_)
  rintro - h5 ⟨c, p, v⟩
  exact Wp_ck (by rw [c.2.1, a.1, k6']) (Wp_lt (go _ (hung n6 P nf lr a b c p v)))
theorem obj2 {t1 : Nat} (eK : hK h = hK h0) (eN : hN h = n) (P : P6 L h) (n6 : 6 < n) (k6' : hK h0 6 = (10, 0)) (kd : hK h0 n = K) (nf : ∀ q ∈ L, q.1 ≠ f) (lr : ∀ q ∈ LR, q.1.1 ≠ 6) (hC : ∀ h1, Mk1 h0 h n h1 → Wp (C h1) (fun _ h5 => FrGr (fun b => n ≤ b) m t1 h1 h5 ∧ PtO LR h5 ∧ V (hI h5) (hJ h5) (hZ h5))) (go : ∀ h6, Hung h0 h n f m (M + t1) L LR V h6 → Wp (F h6) Q) : Wp (lt0 (nw h K M) fun h1 => ck ((hK h1 6).1 = 10) <| ck ((hK h1 n).1 = K.1) <| bd (C h1) fun _ h5 => ck ((hK h5 6).1 = 10) <| lt0 (wR h5 6 f (some n)) fun h8 => F h8) Q := by
  obtain ⟨a, b⟩ := mk1 (M := M) eK eN kd
  refine Wp_lt ?_
  generalize nw h K M = h1 at a b ⊢
  refine Wp_ck (by rw [a.1, k6']) (Wp_ck (by rw [a.1, kd]) (Wp_bd2 (hC h1 a) ?_))
  rintro - h5 ⟨c, p, v⟩
  exact Wp_ck (by rw [c.2.1, a.1, k6']) (Wp_lt (go _ (hung n6 P nf lr a b c p v)))
end
