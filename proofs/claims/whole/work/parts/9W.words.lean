/-! THE PURE PROOFS, 9A0: the start: the language's words are laid. -/
def sB (i : Nat) : Int := (sWords.getD i 0).toInt
theorem sB_c : ∀ i, i < 154 → (((Int32.toUInt32 ((sWords.getD i 0) &&& 255) % 65536).toInt32) = sWords.getD i 0 ∧ narrow FieldType.char (Value.int (sWords.getD i 0)) = Value.int (sWords.getD i 0) ∧ 0 ≤ sB i ∧ sB i ≤ 126) := by decide +kernel
def wRun : Nat → Nat → Nat → (Nat → Int) → (Nat → Int)
  | 0, _, _, w => w
  | m + 1, i, k, w => if sB i = 32 then wRun m (i + 1) (k + 1) w else if 28 ≤ k then wRun m (i + 1) k w else wRun m (i + 1) k (up w k (w k * 32 + (sB i - 97 + 1)))
theorem wRun_K : ∀ j, j < 28 → wRun 154 0 0 (fun _ => 0) j = K32 j := by decide +kernel
def TxW (h : PH) : Prop := hK h 1 = (28, 0) ∧ hR h 1 0 = some 2 ∧ hI h 1 1 = 0 ∧ hK h 2 = (27, 154) ∧ ∀ j, hI h 2 j = sWords.getD j 0
section
variable {g : GT} {N : Nat} {h : PH}
theorem lenW (x : TxW h) : Js_length N 1 h = some (iv 154, h) := by
  unfold Js_length Js_coder
  rw [ck_p (by rw [x.1]), x.2.1, bn_s, ck_p (by rw [x.2.2.2.1]), if_neg (by decide), x.2.2.1, ck_p (by rw [x.1]), ck_p (by decide), bd_s, x.2.2.2.1]
  rfl
theorem chrW {i : Nat} (x : TxW h) (hi : i < 154) : Js_charAt g N 1 (iv i) h = some (iv (sB i), h) := by
  have c := sB_c i hi
  have eB : iv (sB i) = sWords.getD i 0 := iv_of _
  unfold Js_charAt Js_isLatin1 Jl_charAt Js_checkIndex Jp_checkIndex
  rw [ck_p (by rw [x.1]), if_neg (by decide), ck_p (by rw [x.1]), x.2.2.1, if_pos rfl, bd_s, if_neg (by decide), ck_p (by rw [x.1]), x.2.1, bn_s, ck_p (by rw [x.2.2.2.1]), x.2.2.2.1, ofN, il0, if_neg (by rw [iv_lt (by omega) (by omega) (by omega) (by omega)]; omega), if_pos (by rw [iv_lt (by omega) (by omega) (by omega) (by omega)]; omega), bd_s, bd_s, ck_p (by rw [x.2.2.2.1]), ck_p (by rw [x.2.2.2.1]; exact inb_iv (by omega) (by omega) (by omega)), ix_nat (by omega), x.2.2.2.2, c.1, ck_p c.2.1, bd_s, ck_p c.2.1, eB]
theorem laysWordsL {h0 : PH} (x : TxW h0) (k7 : hK h0 7 = (8, 0)) (p9 : hR h0 7 9 = some 9) (k9 : hK h0 9 = (23, 28)) : ∀ (m i k : Nat) (w : Nat → Int) (h : PH), i + m = 154 → k ≤ i → FrS (fun b => b = 9) h0 h → (∀ j, j < 28 → hJ h 9 j = jv (w j)) → ∀ fuel, m < fuel → Wp (Ta_init_b65 g N fuel 7 (iv k) (iv i) h) (fun _ h2 => FrS (fun b => b = 9) h0 h2 ∧ ∀ j, j < 28 → hJ h2 9 j = jv (wRun m i k w j)) := by
  intro m
  induction m with
  | zero =>
    intro i k w h ei ek f e fuel hf
    obtain ⟨fu, rfl⟩ : ∃ e, fuel = e + 1 := ⟨fuel - 1, by omega⟩
    have y : TxW h := ⟨by rw [f.2.1]; exact x.1, by rw [f.2.2.1]; exact x.2.1, by rw [f.I (by omega)]; exact x.2.2.1, by rw [f.2.1]; exact x.2.2.2.1, fun j => by rw [f.I (by omega)]; exact x.2.2.2.2 j⟩
    rw [Ta_init_b65]
    refine Wp_ck (by rw [y.1]) (Wp_bde (lenW y) (Wp_ifp (by rw [iv_le (by omega) (by omega) (by omega) (by omega)]; omega) (Wp_ret ⟨f, e⟩)))
  | succ m ih =>
    intro i k w h ei ek f e fuel hf
    obtain ⟨fu, rfl⟩ : ∃ e, fuel = e + 1 := ⟨fuel - 1, by omega⟩
    have y : TxW h := ⟨by rw [f.2.1]; exact x.1, by rw [f.2.2.1]; exact x.2.1, by rw [f.I (by omega)]; exact x.2.2.1, by rw [f.2.1]; exact x.2.2.2.1, fun j => by rw [f.I (by omega)]; exact x.2.2.2.2 j⟩
    have c := sB_c i (by omega)
    rw [Ta_init_b65]
    refine Wp_ck (by rw [y.1]) (Wp_bde (lenW y) (Wp_ifn (by rw [iv_le (by omega) (by omega) (by omega) (by omega)]; omega) (Wp_ck (by rw [y.1]) (Wp_bde (chrW y (by omega)) ?_))))
    rw [wRun]
    refine Wp_if (fun a => ?_) (fun a => ?_)
    · rw [show (32 : Int32) = iv 32 from iv_lit _, iv_eq (by omega) (by omega) (by omega) (by omega)] at a
      rw [if_pos a]
      unfold Ta_init_b121
      rw [il1, iv_add, iv_add, show (i : Int) + 1 = ((i + 1 : Nat) : Int) from by omega, show (k : Int) + 1 = ((k + 1 : Nat) : Int) from by omega]
      exact ih (i + 1) (k + 1) w h (by omega) (by omega) f e fu (by omega)
    · rw [show (32 : Int32) = iv 32 from iv_lit _, iv_eq (by omega) (by omega) (by omega) (by omega)] at a
      rw [if_neg a]
      refine Wp_ck (by rw [f.2.1, k7]) (Wp_bn (by rw [f.2.2.1]; exact p9) (Wp_ck (by rw [f.2.1, k9]) ?_))
      rw [f.2.1, k9, ofN]
      refine Wp_if (fun b => ?_) (fun b => ?_)
      · rw [iv_le (by omega) (by omega) (by omega) (by omega)] at b
        rw [if_pos (by omega)]
        unfold Ta_init_b121
        rw [il1, iv_add, show (i : Int) + 1 = ((i + 1 : Nat) : Int) from by omega]
        exact ih (i + 1) k w h (by omega) (by omega) f e fu (by omega)
      · rw [iv_le (by omega) (by omega) (by omega) (by omega)] at b
        rw [if_neg (by omega)]
        refine Wp_ck (inb_iv (by omega) (by omega) (by omega)) (Wp_ck (by rw [x.1]) (Wp_bde (chrW y (by omega)) ?_))
        unfold Ta_joined
        rw [ix_nat (by omega), e k (by omega), jl32, show (97 : Int32) = iv 97 from iv_lit _, il1, iv_sub, iv_add, iv_wide (by omega) (by omega), jv_mul, jv_add]
        refine Wp_bde rfl (Wp_ck (by first | rw [f.2.1, k9] | rw [k9]) (Wp_ck (by (first | rw [f.2.1, k9] | rw [k9] | skip); exact inb_iv (by omega) (by omega) (by omega)) (Wp_lt ?_)))
        unfold Ta_init_b121
        rw [il1, iv_add, show (i : Int) + 1 = ((i + 1 : Nat) : Int) from by omega]
        refine ih (i + 1) k _ _ (by omega) (by omega) (f.aJ rfl) (fun j hj => ?_) fu (by omega)
        rw [hJ_wJ]
        unfold up
        by_cases d : j = k
        · rw [if_pos ⟨rfl, d⟩, if_pos d]
        · rw [if_neg (fun z => d z.2), if_neg d]
          exact e j hj
end
