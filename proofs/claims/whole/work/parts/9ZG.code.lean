/-! THE LAW'S OWN CODE: its decode rows, some fifty at a time. -/
def lwC (a : Nat) : List (Nat × Instr × Nat) := (mC pLa_law).drop a
theorem lwC_join {a : Nat} (h1 : ∀ q ∈ (lwC a).take 50, decode code q.1 = .ok q.2) (h2 : ∀ q ∈ lwC (a + 50), decode code q.1 = .ok q.2) : ∀ q ∈ lwC a, decode code q.1 = .ok q.2 := by
  intro q hq
  rw [← List.take_append_drop 50 (lwC a)] at hq
  rcases List.mem_append.mp hq with z | z
  · exact h1 q z
  · refine h2 q ?_
    unfold lwC at z ⊢
    rw [List.drop_drop] at z
    exact z
theorem lwC_0 : ∀ q ∈ (lwC 0).take 50, decode code q.1 = .ok q.2 := by decide +kernel
theorem lwC_50 : ∀ q ∈ (lwC 50).take 50, decode code q.1 = .ok q.2 := by decide +kernel
theorem lwC_100 : ∀ q ∈ (lwC 100).take 50, decode code q.1 = .ok q.2 := by decide +kernel
theorem lwC_150 : ∀ q ∈ (lwC 150).take 50, decode code q.1 = .ok q.2 := by decide +kernel
theorem lwC_200 : ∀ q ∈ (lwC 200).take 50, decode code q.1 = .ok q.2 := by decide +kernel
theorem lwC_250 : ∀ q ∈ (lwC 250).take 50, decode code q.1 = .ok q.2 := by decide +kernel
theorem lwC_300 : ∀ q ∈ (lwC 300).take 50, decode code q.1 = .ok q.2 := by decide +kernel
theorem lwC_350 : ∀ q ∈ (lwC 350).take 50, decode code q.1 = .ok q.2 := by decide +kernel
theorem lwC_400 : ∀ q ∈ (lwC 400).take 50, decode code q.1 = .ok q.2 := by decide +kernel
theorem lwC_450 : ∀ q ∈ (lwC 450).take 50, decode code q.1 = .ok q.2 := by decide +kernel
theorem lwC_500 : ∀ q ∈ (lwC 500).take 50, decode code q.1 = .ok q.2 := by decide +kernel
theorem lwC_550 : ∀ q ∈ (lwC 550).take 50, decode code q.1 = .ok q.2 := by decide +kernel
theorem lwC_600 : ∀ q ∈ (lwC 600).take 50, decode code q.1 = .ok q.2 := by decide +kernel
theorem lwC_650 : ∀ q ∈ (lwC 650).take 50, decode code q.1 = .ok q.2 := by decide +kernel
theorem lwC_700 : ∀ q ∈ (lwC 700).take 50, decode code q.1 = .ok q.2 := by decide +kernel
theorem lwC_750 : ∀ q ∈ (lwC 750).take 50, decode code q.1 = .ok q.2 := by decide +kernel
theorem lwC_800 : ∀ q ∈ (lwC 800).take 50, decode code q.1 = .ok q.2 := by decide +kernel
theorem lwC_850 : ∀ q ∈ (lwC 850).take 50, decode code q.1 = .ok q.2 := by decide +kernel
theorem lwC_end : ∀ q ∈ lwC 900, decode code q.1 = .ok q.2 := by decide +kernel
theorem cok_La_law : CodeOK pLa_law := lwC_join lwC_0 (lwC_join lwC_50 (lwC_join lwC_100 (lwC_join lwC_150 (lwC_join lwC_200 (lwC_join lwC_250 (lwC_join lwC_300 (lwC_join lwC_350 (lwC_join lwC_400 (lwC_join lwC_450 (lwC_join lwC_500 (lwC_join lwC_550 (lwC_join lwC_600 (lwC_join lwC_650 (lwC_join lwC_700 (lwC_join lwC_750 (lwC_join lwC_800 (lwC_join lwC_850 lwC_end)))))))))))))))))
