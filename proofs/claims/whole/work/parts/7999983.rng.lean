/-! what is stored keeps its ranges -/
section
variable {M M' N : Mem} {k r v : Nat → Nat} {n p i w s c x j m : Nat} {F F' : Nat × Int32}
/-- an office that is read, its calls not yet held against its desks -/
def OkF (a : Nat → Nat) : Prop := (a 0 ≤ 8 ∧ a 1 ≤ 10 ∧ a 2 ≤ 30 ∧ a 3 ≤ 20 ∧ a 4 ≤ 9) ∧ (∀ d, d < a 0 → a (5 + 5 * d) ≤ 4 ∧ a (6 + 5 * d) ≤ 30 ∧ (1 ≤ a (7 + 5 * d) ∧ a (7 + 5 * d) ≤ 12) ∧ a (8 + 5 * d) ≤ 20 ∧ a (9 + 5 * d) ≤ 10) ∧ ∀ c, c < a 1 → a (45 + 3 * c) ≤ 7 ∧ a (46 + 3 * c) ≤ 99 ∧ 1 ≤ a (47 + 3 * c) ∧ a (47 + 3 * c) ≤ 20
def OkG (a : Nat → Nat) : Prop := a 0 ≤ 8 ∧ ∀ c, c < a 0 → a (2 + 4 * c) ≤ 7 ∧ ((a (1 + 4 * c) = 0 ∧ a (3 + 4 * c) = 4294967295 ∧ a (4 + 4 * c) = 4294967295) ∨ (a (1 + 4 * c) = 1 ∧ a (3 + 4 * c) ≤ 7 ∧ 1 ≤ a (4 + 4 * c) ∧ a (4 + 4 * c) ≤ 12))
def OkS (s : Nat) (a : Nat → Nat) : Prop := (s = 0 → OkF a) ∧ (s = 1 → OkD a) ∧ (s = 2 → OkG a)
theorem okf_desk (hw : w < 5) (ok : ∀ j, j < nw w → okn w v j) (hf : r 0 < 8) (h : OkF r) : OkF (pst w v r) := by
  have e0 : pst w v r 0 = r 0 + 1 := by rw [pd_x hw, if_pos rfl]
  have e : ∀ x, x ≠ 0 → (x < 5 + 5 * r 0 ∨ 9 + 5 * r 0 < x) → pst w v r x = r x := fun x h h' => pd_n hw h h'
  have h4 : nw w = 4 := if_pos hw
  have v0 : v 0 ≤ 30 := by have := (ok 0 (by omega)).2.1; simp [hi, hw] at this; exact this
  have v1 : v 1 ≤ 12 := by have := (ok 1 (by omega)).2.1; simp [hi, hw] at this; exact this
  have v1' : 1 ≤ v 1 := by have := (ok 1 (by omega)).1; simp [lo, hw] at this; omega
  have v2 : v 2 ≤ 20 := by have := (ok 2 (by omega)).2.1; simp [hi, hw] at this; exact this
  have v3 : v 3 ≤ 10 := by have := (ok 3 (by omega)).2.1; simp [hi, hw] at this; exact this
  obtain ⟨⟨a0, a1, a2, a3, a4⟩, b, c⟩ := h
  refine ⟨⟨by omega, by rw [e 1 (by omega) (by omega)]; exact a1, by rw [e 2 (by omega) (by omega)]; exact a2, by rw [e 3 (by omega) (by omega)]; exact a3, by rw [e 4 (by omega) (by omega)]; exact a4⟩, fun d hd => ?_, fun c' hc => ?_⟩
  · rw [e0] at hd
    rcases Nat.eq_or_lt_of_le (show d ≤ r 0 by omega) with e' | e'
    · subst e'
      have x5 : pst w v r (5 + 5 * r 0) = w := by rw [pd_x hw, if_neg (by omega), if_pos rfl]
      have x6 : pst w v r (6 + 5 * r 0) = v 0 := by rw [pd_x hw, if_neg (by omega), if_neg (by omega), if_pos rfl]
      have x7 : pst w v r (7 + 5 * r 0) = v 1 := by rw [pd_x hw, if_neg (by omega), if_neg (by omega), if_neg (by omega), if_pos rfl]
      have x8 : pst w v r (8 + 5 * r 0) = v 2 := by rw [pd_x hw, if_neg (by omega), if_neg (by omega), if_neg (by omega), if_neg (by omega), if_pos rfl]
      have x9 : pst w v r (9 + 5 * r 0) = v 3 := by rw [pd_x hw, if_neg (by omega), if_neg (by omega), if_neg (by omega), if_neg (by omega), if_neg (by omega), if_pos rfl]
      rw [x5, x6, x7, x8, x9]
      exact ⟨by omega, v0, ⟨v1', v1⟩, v2, v3⟩
    · rw [e (5 + 5 * d) (by omega) (by omega), e (6 + 5 * d) (by omega) (by omega), e (7 + 5 * d) (by omega) (by omega), e (8 + 5 * d) (by omega) (by omega), e (9 + 5 * d) (by omega) (by omega)]
      exact b d e'
  · rw [e 1 (by omega) (by omega)] at hc
    rw [e (45 + 3 * c') (by omega) (by omega), e (46 + 3 * c') (by omega) (by omega), e (47 + 3 * c') (by omega) (by omega)]
    exact c c' hc
theorem okf_call (ok : ∀ j, j < nw 5 → okn 5 v j) (hf : r 1 < 10) (h : OkF r) : OkF (pst 5 v r) := by
  have e0 : pst 5 v r 1 = r 1 + 1 := by rw [pc_x, if_pos rfl]
  have e : ∀ x, x ≠ 1 → (x < 45 + 3 * r 1 ∨ 47 + 3 * r 1 < x) → pst 5 v r x = r x := fun x h h' => pc_n h h'
  have v0 : v 0 ≤ 7 := (ok 0 (by decide)).2.1
  have v1 : v 1 ≤ 99 := (ok 1 (by decide)).2.1
  have v2 : v 2 ≤ 20 := (ok 2 (by decide)).2.1
  have v2' : 1 ≤ v 2 := (ok 2 (by decide)).1
  obtain ⟨⟨a0, a1, a2, a3, a4⟩, b, c⟩ := h
  refine ⟨⟨by rw [e 0 (by omega) (by omega)]; exact a0, by omega, by rw [e 2 (by omega) (by omega)]; exact a2, by rw [e 3 (by omega) (by omega)]; exact a3, by rw [e 4 (by omega) (by omega)]; exact a4⟩, fun d hd => ?_, fun c' hc => ?_⟩
  · rw [e 0 (by omega) (by omega)] at hd
    rw [e (5 + 5 * d) (by omega) (by omega), e (6 + 5 * d) (by omega) (by omega), e (7 + 5 * d) (by omega) (by omega), e (8 + 5 * d) (by omega) (by omega), e (9 + 5 * d) (by omega) (by omega)]
    exact b d hd
  · rw [e0] at hc
    rcases Nat.eq_or_lt_of_le (show c' ≤ r 1 by omega) with e' | e'
    · subst e'
      have x5 : pst 5 v r (45 + 3 * r 1) = v 0 := by rw [pc_x, if_neg (by omega), if_pos rfl]
      have x6 : pst 5 v r (46 + 3 * r 1) = v 1 := by rw [pc_x, if_neg (by omega), if_neg (by omega), if_pos rfl]
      have x7 : pst 5 v r (47 + 3 * r 1) = v 2 := by rw [pc_x, if_neg (by omega), if_neg (by omega), if_neg (by omega), if_pos rfl]
      rw [x5, x6, x7]
      exact ⟨v0, v1, v2', v2⟩
    · rw [e (45 + 3 * c') (by omega) (by omega), e (46 + 3 * c') (by omega) (by omega), e (47 + 3 * c') (by omega) (by omega)]
      exact c c' e'
theorem okf_one (hw : 6 ≤ w ∧ w < 9) (ok : ∀ j, j < nw w → okn w v j) (h : OkF r) : OkF (pst w v r) := by
  have e : ∀ x, x ≠ w - 4 → pst w v r x = r x := fun x h => by rw [po_x hw, if_neg h]
  have e1 : pst w v r (w - 4) = v 0 := by rw [po_x hw, if_pos rfl]
  have hn : 0 < nw w := by unfold nw; (repeat' split) <;> omega
  have v0 := (ok 0 hn).2.1
  obtain ⟨⟨a0, a1, a2, a3, a4⟩, b, c⟩ := h
  have q0 := e 0 (by omega)
  have q1 := e 1 (by omega)
  refine ⟨⟨by omega, by omega, ?_⟩, fun d hd => ?_, fun c' hc => ?_⟩
  · rcases (show w = 6 ∨ w = 7 ∨ w = 8 by omega) with rfl | rfl | rfl
    · have e1 : pst 6 v r 2 = v 0 := e1
      have v0 : v 0 ≤ 30 := v0
      rw [e1, e 3 (by omega), e 4 (by omega)]; exact ⟨v0, a3, a4⟩
    · have e1 : pst 7 v r 3 = v 0 := e1
      have v0 : v 0 ≤ 20 := v0
      rw [e1, e 2 (by omega), e 4 (by omega)]; exact ⟨a2, v0, a4⟩
    · have e1 : pst 8 v r 4 = v 0 := e1
      have v0 : v 0 ≤ 9 := v0
      rw [e1, e 2 (by omega), e 3 (by omega)]; exact ⟨a2, a3, v0⟩
  · rw [q0] at hd
    rw [e (5 + 5 * d) (by omega), e (6 + 5 * d) (by omega), e (7 + 5 * d) (by omega), e (8 + 5 * d) (by omega), e (9 + 5 * d) (by omega)]
    exact b d hd
  · rw [q1] at hc
    rw [e (45 + 3 * c') (by omega), e (46 + 3 * c') (by omega), e (47 + 3 * c') (by omega)]
    exact c c' hc
theorem okd_day (hw : 9 ≤ w ∧ w < 13) (ok : ∀ j, j < nw w → okn w v j) (hf : r 0 < 40) (h : OkD r) : OkD (pst w v r) := by
  have e0 : pst w v r 0 = r 0 + 1 := by rw [py_x hw, if_pos rfl]
  have e : ∀ x, x ≠ 0 → (x < 1 + 2 * r 0 ∨ 2 + 2 * r 0 < x) → pst w v r x = r x := fun x h h' => py_n hw h h'
  have hn : 0 < nw w := by unfold nw; (repeat' split) <;> omega
  have v0 := (ok 0 hn).2.1
  have v0 : v 0 ≤ 9 := by
    rcases (show w = 9 ∨ w = 10 ∨ w = 11 ∨ w = 12 by omega) with rfl | rfl | rfl | rfl
    · exact v0
    · exact Nat.le_trans (show v 0 ≤ 7 from v0) (by omega)
    · exact Nat.le_trans (show v 0 ≤ 7 from v0) (by omega)
    · exact Nat.le_trans (show v 0 ≤ 7 from v0) (by omega)
  refine ⟨by omega, fun d hd => ?_⟩
  rw [e0] at hd
  rcases Nat.eq_or_lt_of_le (show d ≤ r 0 by omega) with e' | e'
  · subst e'
    have x5 : pst w v r (1 + 2 * r 0) = w - 9 := by rw [py_x hw, if_neg (by omega), if_pos rfl]
    have x6 : pst w v r (2 + 2 * r 0) = v 0 := by rw [py_x hw, if_neg (by omega), if_neg (by omega), if_pos rfl]
    rw [x5, x6]; exact ⟨by omega, v0⟩
  · rw [e (1 + 2 * d) (by omega) (by omega), e (2 + 2 * d) (by omega) (by omega)]
    exact h.2 d e'
theorem okl_log (hw : 13 ≤ w ∧ w < 15) (ok : ∀ j, j < nw w → okn w v j) (hf : r 0 < 8) (h : OkG r) : OkG (pst w v r) := by
  have e0 : pst w v r 0 = r 0 + 1 := by rw [pl_x hw.1, if_pos rfl]
  have e : ∀ x, x ≠ 0 → (x < 1 + 4 * r 0 ∨ 4 + 4 * r 0 < x) → pst w v r x = r x := fun x h h' => pl_n hw.1 h h'
  refine ⟨by omega, fun d hd => ?_⟩
  rw [e0] at hd
  rcases Nat.eq_or_lt_of_le (show d ≤ r 0 by omega) with e' | e'
  · subst e'
    have x1 : pst w v r (1 + 4 * r 0) = if w = 13 then 1 else 0 := by rw [pl_x hw.1, if_neg (by omega), if_pos rfl]
    have x2 : pst w v r (2 + 4 * r 0) = v 0 := by rw [pl_x hw.1, if_neg (by omega), if_neg (by omega), if_pos rfl]
    have x3 : pst w v r (3 + 4 * r 0) = if w = 13 then v 1 else 4294967295 := by rw [pl_x hw.1, if_neg (by omega), if_neg (by omega), if_neg (by omega), if_pos rfl]
    have x4 : pst w v r (4 + 4 * r 0) = if w = 13 then v 2 else 4294967295 := by rw [pl_x hw.1, if_neg (by omega), if_neg (by omega), if_neg (by omega), if_neg (by omega), if_pos rfl]
    rw [x1, x2, x3, x4]
    rcases (show w = 13 ∨ w = 14 by omega) with rfl | rfl
    · have v0 : v 0 ≤ 7 := (ok 0 (by decide)).2.1
      have v1 : v 1 ≤ 7 := (ok 1 (by decide)).2.1
      have v2 : v 2 ≤ 12 := (ok 2 (by decide)).2.1
      have v2' : 1 ≤ v 2 := (ok 2 (by decide)).1
      exact ⟨v0, Or.inr ⟨rfl, v1, v2', v2⟩⟩
    · have v0 : v 0 ≤ 7 := (ok 0 (by decide)).2.1
      exact ⟨v0, Or.inl ⟨rfl, rfl, rfl⟩⟩
  · rw [e (1 + 4 * d) (by omega) (by omega), e (2 + 4 * d) (by omega) (by omega), e (3 + 4 * d) (by omega) (by omega), e (4 + 4 * d) (by omega) (by omega)]
    exact h.2 d e'
theorem oks_line (hs : s < 3) (hg : LnG k s i) (h : OkS s r) : OkS s (lR k i F r) := by
  unfold lR
  by_cases h0 : (lF k i F r).1 = 0
  · rw [if_pos h0]
    have hc := (lF_0 h0).2
    have ok : ∀ j, j < nw (tW k i) → okn (tW k i) (lv k i) j := fl_ok (nw (tW k i)) h0
    have hw := hg.1.2
    unfold cap cntw at hc
    rcases (show s = 0 ∨ s = 1 ∨ s = 2 by omega) with e | e | e
    · subst e
      have hw : tW k i < 9 := hw.2
      refine ⟨fun _ => ?_, fun e => absurd e (by omega), fun e => absurd e (by omega)⟩
      by_cases h5 : tW k i < 5
      · rw [if_pos h5, if_neg (by omega)] at hc
        exact okf_desk h5 ok (by omega) (h.1 rfl)
      · by_cases e5 : tW k i = 5
        · rw [e5] at hc ok ⊢
          have hc : ¬ 10 ≤ r 1 := hc
          exact okf_call ok (by omega) (h.1 rfl)
        · exact okf_one ⟨by omega, hw⟩ ok (h.1 rfl)
    · subst e
      have hw : 9 ≤ tW k i ∧ tW k i < 13 := hw
      rw [if_neg (by omega), if_neg (by omega), if_neg (by omega), if_pos (by omega), if_neg (by omega)] at hc
      exact ⟨fun e => absurd e (by omega), fun _ => okd_day hw ok (by omega) (h.2.1 rfl), fun e => absurd e (by omega)⟩
    · subst e
      have hw : 13 ≤ tW k i ∧ tW k i < 15 := hw
      rw [if_neg (by omega), if_neg (by omega), if_neg (by omega), if_neg (by omega), if_neg (by omega)] at hc
      exact ⟨fun e => absurd e (by omega), fun e => absurd e (by omega), fun _ => okl_log hw ok (by omega) (h.2.2 rfl)⟩
  · rw [if_neg h0]; exact h
theorem oks_rn (hs : s < 3) (h : OkS s r) : ∀ m, (∀ q, q < m → LnG k s (rn k F r q).1) → OkS s (rn k F r m).2.2 := by
  intro m
  induction m with
  | zero => intro _; exact h
  | succ m ih => intro hg; exact oks_line hs (hg m (by omega)) (ih (fun q hq => hg q (by omega)))
theorem oks_row0 (s : Nat) : OkS s (row0 s) := by
  refine ⟨fun e => ?_, fun e => ?_, fun e => ?_⟩
  · subst e
    exact ⟨⟨by decide, by decide, by decide, by decide, by decide⟩, fun d hd => absurd hd (Nat.not_lt_zero d), fun c hc => absurd hc (Nat.not_lt_zero c)⟩
  · subst e
    exact ⟨by decide, fun d hd => absurd hd (Nat.not_lt_zero d)⟩
  · subst e
    exact ⟨by decide, fun d hd => absurd hd (Nat.not_lt_zero d)⟩
/-- no call without a desk -/
def Dk (s : Nat) (r : Nat → Nat) : Prop := s = 0 → ∀ c, c < r 1 → r (45 + 3 * c) < r 0
theorem okf_o (h : OkF r) (hd : ∀ c, c < r 1 → r (45 + 3 * c) < r 0) : OkO r := ⟨h.1, h.2.1, fun c hc => ⟨hd c hc, (h.2.2 c hc).2⟩⟩
end
