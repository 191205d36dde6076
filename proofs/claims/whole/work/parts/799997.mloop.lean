/-! line after line: what stays true -/
section
variable {M M' N : Mem} {k r v : Nat → Nat} {n p i w s c x j : Nat} {F F' : Nat × Int32}
theorem pf_line (hT : TX k n) (hg : LnG k s i) (hP : PF F (tA k i)) : PF (lF k i F r) (tA k (i + 2 + nw (tW k i))) := by
  have hA := (tA_lt hT (i := i) (by have := hg.1.1; omega)).1
  have hB := (tA_lt hT (i := i + 1 + nw (tW k i)) (by have := hg.2.2; omega)).1
  have h1 : PF (if cap (tW k i) ≤ cntw (tW k i) r then mkF F 3 (nI (tA k i)) else F) (tA k (i + 1)) := by
    by_cases hc : cap (tW k i) ≤ cntw (tW k i) r
    · rw [if_pos hc]; exact pf_mk hP hA _ hA
    · rw [if_neg hc]; exact pf_up hP (Nat.le_of_lt hA)
  have h2 := pf_fl (w := tW k i) hT h1 (nw (tW k i)) hg.2.1
  rw [show i + 2 + nw (tW k i) = i + 1 + nw (tW k i) + 1 by omega]
  exact pf_up h2 (Nat.le_of_lt hB)
def Bd (s : Nat) (r : Nat → Nat) : Prop := r 0 ≤ (if s = 1 then 40 else 8) ∧ (s = 0 → r 1 ≤ 10)
theorem bd_line (hs : s < 3) (hg : LnG k s i) (hb : Bd s r) : Bd s (lR k i F r) := by
  unfold lR
  by_cases h0 : (lF k i F r).1 = 0
  · rw [if_pos h0]
    have hc := (lF_0 h0).2
    have hw := hg.1.2
    unfold cap cntw at hc
    rcases (show s = 0 ∨ s = 1 ∨ s = 2 by omega) with e | e | e
    · subst e
      have hw : tW k i < 9 := hw.2
      obtain ⟨b1, b2⟩ := hb
      have b1 : r 0 ≤ 8 := b1
      have b2 := b2 rfl
      by_cases h5 : tW k i < 5
      · rw [if_pos h5, if_neg (by omega)] at hc
        exact ⟨by rw [pd_x h5, if_pos rfl]; show r 0 + 1 ≤ 8; omega, fun _ => by rw [pd_n h5 (by omega) (by omega)]; exact b2⟩
      · by_cases e5 : tW k i = 5
        · rw [e5] at hc ⊢
          have hc : ¬ 10 ≤ r 1 := hc
          exact ⟨by rw [pc_n (by omega) (by omega)]; exact b1, fun _ => by rw [pc_x, if_pos rfl]; omega⟩
        · exact ⟨by rw [po_x ⟨by omega, hw⟩, if_neg (by omega)]; exact b1, fun _ => by rw [po_x ⟨by omega, hw⟩, if_neg (by omega)]; exact b2⟩
    · subst e
      have hw : 9 ≤ tW k i ∧ tW k i < 13 := hw
      rw [if_neg (by omega), if_neg (by omega), if_neg (by omega), if_pos (by omega), if_neg (by omega)] at hc
      exact ⟨by rw [py_x hw, if_pos rfl]; show r 0 + 1 ≤ 40; omega, fun e => absurd e (by omega)⟩
    · subst e
      have hw : 13 ≤ tW k i ∧ tW k i < 15 := hw
      rw [if_neg (by omega), if_neg (by omega), if_neg (by omega), if_neg (by omega), if_neg (by omega)] at hc
      exact ⟨by rw [pl_x hw.1, if_pos rfl]; show r 0 + 1 ≤ 8; omega, fun e => absurd e (by omega)⟩
  · rw [if_neg h0]; exact hb
/-- a line is whole, or it breaks, at one token -/
theorem ln_not {b : Nat} (hg : LnG k s i) (hb : LnB k s i b) : False := by
  rcases hb with ⟨h, _⟩ | ⟨_, j, h1, h2, h3, _⟩ | ⟨_, h1, h2, _⟩
  · exact h hg.1
  · exact h3 (hg.2.1 j h1)
  · exact h2 hg.2.2
theorem ln_one {b b' : Nat} (h : LnB k s i b) (h' : LnB k s i b') : b = b' := by
  rcases h with ⟨a, e⟩ | ⟨a, j, a1, a2, a3, e⟩ | ⟨a, a1, a2, e⟩
  · rcases h' with ⟨_, e'⟩ | ⟨a', _⟩ | ⟨a', _⟩
    · omega
    · exact absurd a' a
    · exact absurd a' a
  · rcases h' with ⟨a', _⟩ | ⟨_, j', b1, b2, b3, e'⟩ | ⟨_, b1, b2, e'⟩
    · exact absurd a a'
    · rcases Nat.lt_trichotomy j j' with g | g | g
      · exact absurd (b2 j g) a3
      · omega
      · exact absurd (a2 j' g) b3
    · exact absurd (b1 j a1) a3
  · rcases h' with ⟨a', _⟩ | ⟨_, j', b1, b2, b3, e'⟩ | ⟨_, b1, b2, e'⟩
    · exact absurd a a'
    · exact absurd (a1 j' b1) b3
    · omega
end
