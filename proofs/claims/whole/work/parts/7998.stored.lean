/-! a line is stored, in the class: what stands there then -/
section
variable {M M' N : Mem} {k r v : Nat → Nat} {n p i w s c x : Nat} {F : Nat × Int32}
def pst (w : Nat) (v r : Nat → Nat) : Nat → Nat := fun x =>
  if w < 5 then (if x = 0 then r 0 + 1 else if x = 5 + 5 * r 0 then w else if x = 6 + 5 * r 0 then v 0 else if x = 7 + 5 * r 0 then v 1 else if x = 8 + 5 * r 0 then v 2 else if x = 9 + 5 * r 0 then v 3 else r x)
  else if w = 5 then (if x = 1 then r 1 + 1 else if x = 45 + 3 * r 1 then v 0 else if x = 46 + 3 * r 1 then v 1 else if x = 47 + 3 * r 1 then v 2 else r x)
  else if w < 9 then (if x = w - 4 then v 0 else r x)
  else if w < 13 then (if x = 0 then r 0 + 1 else if x = 1 + 2 * r 0 then w - 9 else if x = 2 + 2 * r 0 then v 0 else r x)
  else (if x = 0 then r 0 + 1 else if x = 1 + 4 * r 0 then (if w = 13 then 1 else 0) else if x = 2 + 4 * r 0 then v 0 else if x = 3 + 4 * r 0 then (if w = 13 then v 1 else 4294967295) else if x = 4 + 4 * r 0 then (if w = 13 then v 2 else 4294967295) else r x)
theorem pd_x (hw : w < 5) : pst w v r x = if x = 0 then r 0 + 1 else if x = 5 + 5 * r 0 then w else if x = 6 + 5 * r 0 then v 0 else if x = 7 + 5 * r 0 then v 1 else if x = 8 + 5 * r 0 then v 2 else if x = 9 + 5 * r 0 then v 3 else r x := if_pos hw
theorem pc_x : pst 5 v r x = if x = 1 then r 1 + 1 else if x = 45 + 3 * r 1 then v 0 else if x = 46 + 3 * r 1 then v 1 else if x = 47 + 3 * r 1 then v 2 else r x := rfl
theorem po_x (hw : 6 ≤ w ∧ w < 9) : pst w v r x = if x = w - 4 then v 0 else r x := by unfold pst; rw [if_neg (by omega), if_neg (by omega), if_pos (by omega)]
theorem py_x (hw : 9 ≤ w ∧ w < 13) : pst w v r x = if x = 0 then r 0 + 1 else if x = 1 + 2 * r 0 then w - 9 else if x = 2 + 2 * r 0 then v 0 else r x := by unfold pst; rw [if_neg (by omega), if_neg (by omega), if_neg (by omega), if_pos (by omega)]
theorem pl_x (hw : 13 ≤ w) : pst w v r x = if x = 0 then r 0 + 1 else if x = 1 + 4 * r 0 then (if w = 13 then 1 else 0) else if x = 2 + 4 * r 0 then v 0 else if x = 3 + 4 * r 0 then (if w = 13 then v 1 else 4294967295) else if x = 4 + 4 * r 0 then (if w = 13 then v 2 else 4294967295) else r x := by unfold pst; rw [if_neg (by omega), if_neg (by omega), if_neg (by omega), if_neg (by omega)]
theorem pd_n (hw : w < 5) (h : x ≠ 0) (h' : x < 5 + 5 * r 0 ∨ 9 + 5 * r 0 < x) : pst w v r x = r x := by rw [pd_x hw, if_neg h, if_neg (by omega), if_neg (by omega), if_neg (by omega), if_neg (by omega), if_neg (by omega)]
theorem pc_n (h : x ≠ 1) (h' : x < 45 + 3 * r 1 ∨ 47 + 3 * r 1 < x) : pst 5 v r x = r x := by rw [pc_x, if_neg h, if_neg (by omega), if_neg (by omega), if_neg (by omega)]
theorem py_n (hw : 9 ≤ w ∧ w < 13) (h : x ≠ 0) (h' : x < 1 + 2 * r 0 ∨ 2 + 2 * r 0 < x) : pst w v r x = r x := by rw [py_x hw, if_neg h, if_neg (by omega), if_neg (by omega)]
theorem pl_n (hw : 13 ≤ w) (h : x ≠ 0) (h' : x < 1 + 4 * r 0 ∨ 4 + 4 * r 0 < x) : pst w v r x = r x := by rw [pl_x hw, if_neg h, if_neg (by omega), if_neg (by omega), if_neg (by omega), if_neg (by omega)]
def S47 (a _b : Nat) : Prop := 47 ≤ a ∧ a ≤ 64
theorem sd_desk (h : Sk M) (hO : OCs M r) (h8 : r 0 < 8) (h10 : r 1 ≤ 10) (hw : w < 5) (hv : ∀ q, q < 4 → M.1 66 q = nI (v q)) : ∃ M', f_X5_addDesk M 47 (nI w) 66 = some M' ∧ OCs M' (pst w v r) ∧ Fr S47 M M' := by
  refine ⟨_, c_addDesk h (hO.1 0 (by omega)) h8 (nI w), ⟨fun i hi => ?_, fun d hd j hj => ?_, fun c hc j hj => ?_⟩, ?_⟩
  · rcases Nat.eq_zero_or_pos i with e | e
    · subst e; rw [wI_same, pd_x hw, if_pos rfl]
    · rw [pd_n hw (by omega) (by omega), ← hO.1 i hi]
      simp only [wI_rd]
      rw [if_neg (by omega), if_neg (by omega), if_neg (by omega), if_neg (by omega), if_neg (by omega), if_neg (by omega)]
  · rw [pd_x hw, if_pos rfl] at hd
    rcases Nat.eq_or_lt_of_le (show d ≤ r 0 by omega) with e | e
    · subst e
      rw [hv 0 (by omega), hv 1 (by omega), hv 2 (by omega), hv 3 (by omega)]
      simp only [wI_rd, pd_x hw]
      rcases (show j = 0 ∨ j = 1 ∨ j = 2 ∨ j = 3 ∨ j = 4 by omega) with e | e | e | e | e
      · subst e; rw [if_neg (by omega), if_neg (by omega), if_neg (by omega), if_neg (by omega), if_neg (by omega), if_pos (by simp), if_neg (by omega), if_pos (by omega)]
      · subst e; rw [if_neg (by omega), if_neg (by omega), if_neg (by omega), if_neg (by omega), if_pos (by simp), if_neg (by omega), if_neg (by omega), if_pos (by omega)]
      · subst e; rw [if_neg (by omega), if_neg (by omega), if_neg (by omega), if_pos (by simp), if_neg (by omega), if_neg (by omega), if_neg (by omega), if_pos (by omega)]
      · subst e; rw [if_neg (by omega), if_neg (by omega), if_pos (by simp), if_neg (by omega), if_neg (by omega), if_neg (by omega), if_neg (by omega), if_pos (by omega)]
      · subst e; rw [if_neg (by omega), if_pos (by simp), if_neg (by omega), if_neg (by omega), if_neg (by omega), if_neg (by omega), if_neg (by omega), if_pos (by omega)]
    · rw [pd_n hw (by omega) (by omega), ← hO.2.1 d e j hj]
      simp only [wI_rd]
      rw [if_neg (by omega), if_neg (by omega), if_neg (by omega), if_neg (by omega), if_neg (by omega), if_neg (by omega)]
  · rw [pd_n hw (by omega) (by omega)] at hc
    rw [pd_n hw (by omega) (by omega), ← hO.2.2 c hc j hj]
    simp only [wI_rd]
    rw [if_neg (by omega), if_neg (by omega), if_neg (by omega), if_neg (by omega), if_neg (by omega), if_neg (by omega)]
  · exact fr_put (fr_put (fr_put (fr_put (fr_put (fr_wI ⟨by omega, by omega⟩) ⟨by omega, by omega⟩) ⟨by omega, by omega⟩) ⟨by omega, by omega⟩) ⟨by omega, by omega⟩) ⟨by omega, by omega⟩
theorem sd_call (h : Sk M) (hO : OCs M r) (h8 : r 0 ≤ 8) (h10 : r 1 < 10) (hv : ∀ q, q < 3 → M.1 66 q = nI (v q)) : ∃ M', f_X5_addCall M 47 66 = some M' ∧ OCs M' (pst 5 v r) ∧ Fr S47 M M' := by
  refine ⟨_, c_addCall h (hO.1 1 (by omega)) h10, ⟨fun i hi => ?_, fun d hd j hj => ?_, fun c hc j hj => ?_⟩, ?_⟩
  · by_cases e : i = 1
    · subst e; rw [wI_same, pc_x, if_pos rfl]
    · rw [pc_n e (by omega), ← hO.1 i hi]
      simp only [wI_rd]
      rw [if_neg (by omega), if_neg (by omega), if_neg (by omega), if_neg (by omega)]
  · rw [pc_n (by omega) (by omega)] at hd
    rw [pc_n (by omega) (by omega), ← hO.2.1 d hd j hj]
    simp only [wI_rd]
    rw [if_neg (by omega), if_neg (by omega), if_neg (by omega), if_neg (by omega)]
  · rw [pc_x, if_pos rfl] at hc
    rcases Nat.eq_or_lt_of_le (show c ≤ r 1 by omega) with e | e
    · subst e
      rw [hv 0 (by omega), hv 1 (by omega), hv 2 (by omega)]
      simp only [wI_rd, pc_x]
      rcases (show j = 0 ∨ j = 1 ∨ j = 2 by omega) with e | e | e
      · subst e; rw [if_neg (by omega), if_neg (by omega), if_neg (by omega), if_pos (by simp), if_neg (by omega), if_pos (by omega)]
      · subst e; rw [if_neg (by omega), if_neg (by omega), if_pos (by simp), if_neg (by omega), if_neg (by omega), if_pos (by omega)]
      · subst e; rw [if_neg (by omega), if_pos (by simp), if_neg (by omega), if_neg (by omega), if_neg (by omega), if_pos (by omega)]
    · rw [pc_n (by omega) (by omega), ← hO.2.2 c e j hj]
      simp only [wI_rd]
      rw [if_neg (by omega), if_neg (by omega), if_neg (by omega), if_neg (by omega)]
  · exact fr_put (fr_put (fr_put (fr_wI ⟨by omega, by omega⟩) ⟨by omega, by omega⟩) ⟨by omega, by omega⟩) ⟨by omega, by omega⟩
theorem sd_one (hO : OCs M r) (hw : 6 ≤ w ∧ w < 9) : OCs (wI M 47 (w - 4) (nI (v 0))) (pst w v r) := by
  refine ⟨fun i hi => ?_, fun d hd j hj => ?_, fun c hc j hj => ?_⟩
  · rw [wI_rd, po_x hw]
    by_cases e : i = w - 4
    · rw [if_pos ⟨rfl, e⟩, if_pos e]
    · rw [if_neg (by omega), if_neg e]; exact hO.1 i hi
  · rw [po_x hw, if_neg (by omega)] at hd
    rw [wI_rd, po_x hw, if_neg (by omega), if_neg (by omega)]; exact hO.2.1 d hd j hj
  · rw [po_x hw, if_neg (by omega)] at hc
    rw [wI_rd, po_x hw, if_neg (by omega), if_neg (by omega)]; exact hO.2.2 c hc j hj
theorem sd_day (h : Sk M) (hO : DC M 58 r) (h40 : r 0 < 40) (hw : 9 ≤ w ∧ w < 13) : ∃ M', f_X1_add M 58 (nI (w - 9)) (nI (v 0)) = some M' ∧ DC M' 58 (pst w v r) ∧ Fr S47 M M' := by
  refine ⟨_, c_addDay h hO.1 h40 _ _, ⟨by rw [wI_same, py_x hw, if_pos rfl], fun d hd => ?_⟩, fr_put (fr_put (fr_wI ⟨by omega, by omega⟩) ⟨by omega, by omega⟩) ⟨by omega, by omega⟩⟩
  rw [py_x hw, if_pos rfl] at hd
  rcases Nat.eq_or_lt_of_le (show d ≤ r 0 by omega) with e | e
  · subst e
    simp only [wI_rd, py_x hw]
    exact ⟨by rw [if_neg (by omega), if_neg (by omega), if_pos (by simp), if_neg (by omega), if_pos (by simp)], by rw [if_neg (by omega), if_pos (by simp), if_neg (by omega), if_neg (by omega), if_pos (by simp)]⟩
  · rw [py_n hw (by omega) (by omega), py_n hw (by omega) (by omega), ← (hO.2 d e).1, ← (hO.2 d e).2]
    simp only [wI_rd]
    exact ⟨by rw [if_neg (by omega), if_neg (by omega), if_neg (by omega)], by rw [if_neg (by omega), if_neg (by omega), if_neg (by omega)]⟩
theorem sd_log (h : Sk M) (hO : LCs M r) (h8 : r 0 < 8) (hw : 13 ≤ w) {y z : Int32} (hy : y = nI (if w = 13 then v 1 else 4294967295)) (hz : z = nI (if w = 13 then v 2 else 4294967295)) : ∃ M', f_X4_add M 61 (nI (v 0)) y z = some M' ∧ LCs M' (pst w v r) ∧ Fr S47 M M' := by
  refine ⟨_, c_addLog h hO.1 h8 _ _ _, ⟨by rw [wI_same, pl_x hw, if_pos rfl], fun d hd j hj => ?_⟩, fr_put (fr_put (fr_put (fr_wI ⟨by omega, by omega⟩) ⟨by omega, by omega⟩) ⟨by omega, by omega⟩) ⟨by omega, by omega⟩⟩
  rw [pl_x hw, if_pos rfl] at hd
  rcases Nat.eq_or_lt_of_le (show d ≤ r 0 by omega) with e | e
  · subst e
    simp only [wI_rd, pl_x hw]
    rcases (show j = 0 ∨ j = 1 ∨ j = 2 by omega) with e | e | e
    · subst e; rw [if_neg (by omega), if_neg (by omega), if_neg (by omega), if_pos (by simp), if_neg (by omega), if_neg (by omega), if_pos (by omega)]
    · subst e; rw [if_neg (by omega), if_neg (by omega), if_pos (by simp), if_neg (by omega), if_neg (by omega), if_neg (by omega), if_pos (by omega), hy]
    · subst e; rw [if_neg (by omega), if_pos (by simp), if_neg (by omega), if_neg (by omega), if_neg (by omega), if_neg (by omega), if_pos (by omega), hz]
  · rw [pl_n hw (by omega) (by omega), ← hO.2 d e j hj]
    simp only [wI_rd]
    rw [if_neg (by omega), if_neg (by omega), if_neg (by omega), if_neg (by omega)]
end
