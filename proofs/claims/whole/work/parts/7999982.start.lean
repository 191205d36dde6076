/-! the class begins to read -/
theorem rt_46 : ∀ q ∈ refTab, ¬ (q.1 = 46 ∧ q.2.1 = 5) := by decide +kernel
theorem wR46_sk {M : Mem} {o : Nat} (hS : Sk M) : Sk (wR M 46 5 o) := by
  refine ⟨hS.1, fun q hq => ?_⟩
  show (if q.1 = 46 ∧ q.2.1 = 5 then o else M.2.2.1 q.1 q.2.1) = _
  rw [if_neg (rt_46 q hq)]
  exact hS.2 q hq
/-- the row that a text of kind s begins with -/
def row0 (s : Nat) : Nat → Nat := fun x => if s = 0 then (if x = 2 then 10 else if x = 4 then 1 else 0) else 0
theorem bd_row0 (s : Nat) : Bd s (row0 s) := by
  unfold Bd row0
  refine ⟨?_, fun e => ?_⟩
  · by_cases h : s = 0
    · simp [h]
    · simp [h]
  · simp [e]
