/-! the model reads a line of a log -/
section
variable {M M' N : Mem} {k r v : Nat → Nat} {n p i w s c x j : Nat} {F : Nat × Int32}
/-- the store of a log's line, its four numbers given -/
theorem m_l110 (h : Sk M) {c : Nat} (hc : M.1 258 0 = nI c) (x2 x3 x4 x5 : Int32) : f_X12_logLine_J110 M 255 x2 x3 x4 x5 = f_X12_logLine_J183 (if 8 ≤ c then M else wI (wI (wI (wI (wI M 258 (1 + 4 * c) x2) 258 (2 + 4 * c) x3) 258 (3 + 4 * c) x4) 258 (4 + 4 * c) x5) 258 0 (nI (c + 1))) 255 ∨ ¬ c ≤ 8 := by
  by_cases h8 : c ≤ 8
  · left
    have gA : ∀ {N : Mem}, Sk N → aI N 0 258 0 = some (N.1 258 0) := fun h => rwG h (x := 0) (by omega)
    have pA : ∀ {N : Mem} (v : Int32), Sk N → sI N 0 258 0 v = some (wI N 258 0 v) := fun v h => rwS h (x := 0) (by omega) v
    unfold f_X12_logLine_J110
    rw [m_r10 h, bb_some, gA h, bb_some, hc]
    by_cases hf : 8 ≤ c
    · rw [if_pos (show (8 : Int32) ≤ nI c from nI_le hf (by omega)), if_pos hf]
    · rw [if_neg (show ¬ (8 : Int32) ≤ nI c from nI_ge (b := 8) (by omega) (by omega)), if_neg hf]
      have x0 : (1 : Int32) + 4 * nI c = nI (1 + 4 * c) := by
        show nI 1 + nI 4 * nI c = _
        rw [pk_mul, nI_add]
      have y1 : nI (1 + 4 * c) + 1 = nI (2 + 4 * c) := by rw [nI_1]; congr 1; omega
      have y2 : nI (1 + 4 * c) + 2 = nI (3 + 4 * c) := by show nI (1 + 4 * c) + nI 2 = _; rw [nI_add]; congr 1; omega
      have y3 : nI (1 + 4 * c) + 3 = nI (4 + 4 * c) := by show nI (1 + 4 * c) + nI 3 = _; rw [nI_add]; congr 1; omega
      have pB : ∀ {N : Mem} (j : Nat) (v : Int32), Sk N → j < 5 → sI N 0 258 (nI (j + 4 * c)) v = some (wI N 258 (j + 4 * c) v) := fun j v h hj => rwS h (by omega) v
      simp only [m_r10, gA, pA, pB, sk_wI, h, bb_some, hc, x0, y1, y2, y3, show (1 : Nat) < 5 by omega, show (2 : Nat) < 5 by omega, show (3 : Nat) < 5 by omega, show (4 : Nat) < 5 by omega]
      have e0 : (wI (wI (wI (wI M 258 (1 + 4 * c) x2) 258 (2 + 4 * c) x3) 258 (3 + 4 * c) x4) 258 (4 + 4 * c) x5).1 258 0 = nI c := by
        simp only [wI_rd]
        rw [if_neg (by omega), if_neg (by omega), if_neg (by omega), if_neg (by omega)]
        exact hc
      rw [e0, nI_1]
  · exact Or.inr h8
end
