/-! a line: its numbers, in the class -/
section
variable {M M' : Mem} {k : Nat → Nat} {n p i : Nat}
theorem tV_le {i : Nat} (hT : TX k n) (h : tD k i = 1) : tV k i ≤ 99 := by
  obtain ⟨i1, i2, i3, i4, i5, i6⟩ := tk_in hT (tp_le hT i)
  have h : td k (tp k i) = 1 := h
  unfold td at h
  by_cases h0 : k (ts k (tp k i)) = 0
  · rw [if_pos h0] at h; omega
  rw [if_neg h0] at h
  by_cases h1 : 33 ≤ k (ts k (tp k i))
  · rw [if_pos h1] at h; split at h <;> omega
  rw [if_neg h1] at h
  by_cases h2 : 10 ≤ k (ts k (tp k i))
  · rw [if_pos h2] at h
    by_cases h3 : 2 < te k (tp k i) - ts k (tp k i)
    · rw [if_pos h3] at h; omega
    · have h4 : te k (tp k i) = sc pDg k 700 (ts k (tp k i)) := by
        show ee k (ts k (tp k i)) = _
        unfold ee
        rw [if_neg h0, if_neg h1, if_pos h2]
      obtain ⟨a1, a2, a3, a4⟩ := sc_ok (P := pDg) rfl hT.2.1 700 (ts k (tp k i)) (by omega) (by have := hT.1; omega)
      unfold tV
      have hd : ∀ j, j < te k (tp k i) - ts k (tp k i) → k (ts k (tp k i) + j) ≤ 19 := fun j hj => (of_decide_eq_true (a3 (ts k (tp k i) + j) (by omega) (by omega))).2
      rcases (show te k (tp k i) - ts k (tp k i) = 0 ∨ te k (tp k i) - ts k (tp k i) = 1 ∨ te k (tp k i) - ts k (tp k i) = 2 by omega) with e | e | e
      · rw [e]; show 0 ≤ 99; omega
      · have := hd 0 (by omega)
        rw [e]; show 10 * 0 + (k (ts k (tp k i) + 0) - 10) ≤ 99; omega
      · have g0 := hd 0 (by omega)
        have g1 := hd 1 (by omega)
        rw [e]; show 10 * (10 * 0 + (k (ts k (tp k i) + 0) - 10)) + (k (ts k (tp k i) + 1) - 10) ≤ 99; omega
  · rw [if_neg h2] at h; split at h <;> omega
/-- the line begins with a word of its kind -/
def hd (k : Nat → Nat) (s i : Nat) : Prop := tD k i = 3 ∧ fw s ≤ tW k i ∧ tW k i < fw (s + 1)
theorem c_st (h : CT M k n) (hp : M.1 46 10 = nI (tp k i)) : ∃ M', f_X7_takeToken M 46 = some M' ∧ Fr S46 M M' ∧ M'.1 46 9 = nI (tA k i) ∧ M'.1 46 10 = nI (tp k (i + 1)) ∧ (M'.1 46 8 = 0 ↔ tD k i = 0) ∧ (M'.1 46 8 = 2 ↔ tD k i = 1) ∧ (M'.1 46 8 = 3 ↔ tD k i = 2) ∧ (tD k i = 1 → M'.1 46 11 = nI (tV k i)) ∧ (∀ s, s < 3 → hd k s i → f_X7_readLine M' 46 (nI s) = f_X7_readLine_J17 M' 46 (nI s) (nI (tW k i))) ∧ ∀ s, s < 3 → ¬ hd k s i → f_X7_readLine M' 46 (nI s) = f_X7_readLine_J17 M' 46 (nI s) (-1) := by
  have hT := ct_tx h
  obtain ⟨M1, e1, f1, g9, g10, g8, g11⟩ := c_tok h hp (tp_le hT i)
  have hC1 := ct_fr h f1
  have htd : ∀ x, td k (tp k i) = x ↔ tD k i = x := fun x => Iff.rfl
  have hcases : (tc k (tp k i) = 0 ∧ tD k i = 0) ∨ (tc k (tp k i) = 1 ∧ 33 ≤ k (ts k (tp k i)) ∧ ((tD k i = 4 ∧ tW k i = 99) ∨ (tD k i = 3 ∧ tW k i ≠ 99))) ∨ (tc k (tp k i) = 2 ∧ tD k i = 1) ∨ (tc k (tp k i) = 3 ∧ tD k i = 2) ∨ (tc k (tp k i) = 4 ∧ tD k i = 4) := by
    unfold tD tW tc td
    by_cases h0 : k (ts k (tp k i)) = 0
    · rw [if_pos h0, if_pos h0]; exact Or.inl ⟨rfl, rfl⟩
    rw [if_neg h0, if_neg h0]
    by_cases h1 : 33 ≤ k (ts k (tp k i))
    · rw [if_pos h1, if_pos h1]
      by_cases h2 : wx k (tp k i) = 99
      · rw [if_pos h2]; exact Or.inr (Or.inl ⟨rfl, h1, Or.inl ⟨rfl, h2⟩⟩)
      · rw [if_neg h2]; exact Or.inr (Or.inl ⟨rfl, h1, Or.inr ⟨rfl, h2⟩⟩)
    rw [if_neg h1, if_neg h1]
    by_cases h2 : 10 ≤ k (ts k (tp k i))
    · rw [if_pos h2, if_pos h2]
      by_cases h3 : 2 < te k (tp k i) - ts k (tp k i)
      · rw [if_pos h3, if_pos h3]; exact Or.inr (Or.inr (Or.inr (Or.inr ⟨rfl, rfl⟩)))
      · rw [if_neg h3, if_neg h3]; exact Or.inr (Or.inr (Or.inl ⟨rfl, rfl⟩))
    rw [if_neg h2, if_neg h2]
    by_cases h3 : k (ts k (tp k i)) = 2
    · rw [if_pos h3, if_pos h3]; exact Or.inr (Or.inr (Or.inr (Or.inl ⟨rfl, rfl⟩)))
    · rw [if_neg h3, if_neg h3]; exact Or.inr (Or.inr (Or.inr (Or.inr ⟨rfl, rfl⟩)))
  have hx : ∀ x : Nat, x < 5 → (M1.1 46 8 = nI x ↔ tc k (tp k i) = x) := fun x hx => by
    rw [g8]; exact nI_eq (by unfold tc; repeat' split
                             all_goals omega) (by omega)
  have h0 : M1.1 46 8 = 0 ↔ tc k (tp k i) = 0 := hx 0 (by omega)
  have h1 : M1.1 46 8 = 1 ↔ tc k (tp k i) = 1 := hx 1 (by omega)
  have h2 : M1.1 46 8 = 2 ↔ tc k (tp k i) = 2 := hx 2 (by omega)
  have h3 : M1.1 46 8 = 3 ↔ tc k (tp k i) = 3 := hx 3 (by omega)
  refine ⟨M1, e1, f1, g9, g10, h0.trans (by omega), h2.trans (by omega), h3.trans (by omega), fun hh => g11 (by omega), fun s hs hh => ?_, fun s hs hh => ?_⟩
  · have hh3 : tD k i = 3 := hh.1
    have hl : tc k (tp k i) = 1 ∧ 33 ≤ k (ts k (tp k i)) := by omega
    unfold f_X7_readLine
    rw [gI_at (ct_shp hC1), bb_some, if_pos (h1.mpr hl.1), ob_at (ct_shp hC1), bb_some, c_word hC1 (tp_le hT i) hl.2 g9 g10 hs, if_pos ⟨hh.2.1, hh.2.2⟩, bb_some]
    rfl
  · unfold f_X7_readLine
    rw [gI_at (ct_shp hC1), bb_some]
    by_cases hl : tc k (tp k i) = 1
    · have hl3 : 33 ≤ k (ts k (tp k i)) := by omega
      have hf := fw_le hs
      have hW : wx k (tp k i) = tW k i := rfl
      rw [if_pos (h1.mpr hl), ob_at (ct_shp hC1), bb_some, c_word hC1 (tp_le hT i) hl3 g9 g10 hs, if_neg (fun hr => hh ⟨by omega, hr.1, hr.2⟩), bb_some]
    · rw [if_neg (fun hc => hl (h1.mp hc))]
/-- how many numbers, and what they can be -/
def nw (w : Nat) : Nat := if w < 5 then 4 else if w = 5 ∨ w = 13 then 3 else 1
def lo (w j : Nat) : Nat := if w < 5 then (if j = 1 then 1 else 0) else if w = 5 ∨ w = 13 then (if j = 2 then 1 else 0) else 0
def hi (w j : Nat) : Nat := if w < 5 then (if j = 0 then 30 else if j = 1 then 12 else if j = 2 then 20 else 10) else if w = 5 then (if j = 0 then 7 else if j = 1 then 99 else 20) else if w = 13 then (if j = 2 then 12 else 7) else if w = 6 then 30 else if w = 7 then 20 else if w = 8 ∨ w = 9 then 9 else 7
def okn (w : Nat) (v : Nat → Nat) (j : Nat) : Prop := lo w j ≤ v j ∧ v j ≤ hi w j ∧ ¬ (w = 13 ∧ j = 1 ∧ v 1 = v 0)
theorem a1002 (M : Mem) : ∀ w, w < 15 → aI M 0 1002 (nI w) = some (nI (nw w)) := by
  have h : ∀ w, w < 15 → aI Mem0 0 1002 (nI w) = some (nI (nw w)) := by decide
  exact h
theorem a1003 (M : Mem) : ∀ j, j < 4 → aI M 0 1003 (nI j) = some (nI (lo 0 j)) ∧ aI M 0 1004 (nI j) = some (nI (hi 0 j)) := by
  have h : ∀ j, j < 4 → aI Mem0 0 1003 (nI j) = some (nI (lo 0 j)) ∧ aI Mem0 0 1004 (nI j) = some (nI (hi 0 j)) := by decide
  exact h
theorem a1005 (M : Mem) : ∀ j, j < 3 → (aI M 0 1005 (nI j) = some (nI (lo 5 j)) ∧ aI M 0 1006 (nI j) = some (nI (hi 5 j))) ∧ aI M 0 1007 (nI j) = some (nI (lo 13 j)) ∧ aI M 0 1008 (nI j) = some (nI (hi 13 j)) := by
  have h : ∀ j, j < 3 → (aI Mem0 0 1005 (nI j) = some (nI (lo 5 j)) ∧ aI Mem0 0 1006 (nI j) = some (nI (hi 5 j))) ∧ aI Mem0 0 1007 (nI j) = some (nI (lo 13 j)) ∧ aI Mem0 0 1008 (nI j) = some (nI (hi 13 j)) := by decide
  exact h
theorem a1009 (M : Mem) : ∀ w, w < 15 → 6 ≤ w → w ≠ 13 → aI M 0 1009 (nI w) = some (nI (hi w 0)) := by
  have h : ∀ w, w < 15 → 6 ≤ w → w ≠ 13 → aI Mem0 0 1009 (nI w) = some (nI (hi w 0)) := by decide
  exact h
theorem hi_le (w j : Nat) : lo w j ≤ 1 ∧ hi w j ≤ 99 := by
  unfold lo hi
  repeat' split
  all_goals omega
theorem s66 (h : Sk M) : shp M 66 = some (.inr (0, 4)) := sk_shp h (by omega) rfl
theorem r46 (h : CT M k n) : gR M 7 46 0 = some 47 ∧ gR M 7 46 1 = some 58 ∧ gR M 7 46 2 = some 61 ∧ gR M 7 46 6 = some 66 := by
  rw [gR_at (ct_shp h), gR_at (ct_shp h), gR_at (ct_shp h), gR_at (ct_shp h), h.1.2 (46, 0, 47) (by decide), h.1.2 (46, 1, 58) (by decide), h.1.2 (46, 2, 61) (by decide), h.1.2 (46, 6, 66) (by decide)]
  exact ⟨rfl, rfl, rfl, rfl⟩
theorem rng {a b v : Nat} (ha : a ≤ 99) (hb : b ≤ 99) (hv : v ≤ 99) : (if nI v < nI a then (some 0 : Option Int32) else if nI b < nI v then some 0 else some 1) = some (if a ≤ v ∧ v ≤ b then 1 else 0) := by
  by_cases h1 : v < a
  · rw [if_pos (nI_lt h1 (by omega)), if_neg (by omega)]
  · rw [if_neg (nI_nlt (by omega) (by omega))]
    by_cases h2 : b < v
    · rw [if_pos (nI_lt h2 (by omega)), if_neg (by omega)]
    · rw [if_neg (nI_nlt (by omega) (by omega)), if_pos (by omega)]
theorem c_can (h : CT M k n) {w j : Nat} {v : Nat → Nat} (hw : w < 15) (hj : j < nw w) (hv : ∀ q, q ≤ j → M.1 66 q = nI (v q) ∧ v q ≤ 99) : ∃ z, f_X7_canBe M 46 (nI w) (nI j) = some z ∧ ((okn w v j ∧ z = 1) ∨ (¬ okn w v j ∧ z = 0)) := by
  have hvj := hv j (Nat.le_refl _)
  have hl := hi_le w j
  have h4 : j < 4 := by unfold nw at hj; repeat' split at hj
                        all_goals omega
  have fin : ∀ P : Prop, (P ↔ okn w v j) → ∀ [Decidable P], ∃ z, (some (if P then 1 else 0) : Option Int32) = some z ∧ ((okn w v j ∧ z = 1) ∨ (¬ okn w v j ∧ z = 0)) := by
    intro P hP hd
    by_cases hh : P
    · exact ⟨1, by rw [if_pos hh], Or.inl ⟨hP.mp hh, rfl⟩⟩
    · exact ⟨0, by rw [if_neg hh], Or.inr ⟨fun hq => hh (hP.mpr hq), rfl⟩⟩
  unfold f_X7_canBe
  rw [(r46 h).2.2.2, bb_some, aI_at (s66 h.1) (by omega) (by omega) (by omega), bb_some, hvj.1]
  by_cases h5 : 5 ≤ w
  · rw [if_pos (show (5 : Int32) ≤ nI w from nI_le h5 (by omega))]
    by_cases e5 : w = 5
    · subst e5
      have hj3 : j < 3 := hj
      rw [if_pos (show nI 5 = 5 from rfl), (a1005 M j hj3).1.1, bb_some, (a1005 M j hj3).1.2, bb_some, rng (by omega) (by omega) hvj.2]
      exact fin _ ⟨fun hh => ⟨hh.1, hh.2, by omega⟩, fun hh => ⟨hh.1, hh.2.1⟩⟩
    · rw [if_neg (show ¬ nI w = 5 from nI_nq (k := 5) (by omega) (by omega) e5)]
      by_cases e13 : w = 13
      · subst e13
        have hj3 : j < 3 := hj
        rw [if_pos (show nI 13 = 13 from rfl)]
        have hJ : ∀ y : Int32, y = 0 → ∃ z, f_X7_canBe_J91 M (nI j) (nI (v j)) y = some z ∧ z = if lo 13 j ≤ v j ∧ v j ≤ hi 13 j then 1 else 0 := by
          intro y hy
          subst hy
          unfold f_X7_canBe_J91
          rw [if_pos rfl, (a1005 M j hj3).2.1, bb_some, (a1005 M j hj3).2.2, bb_some, rng (by omega) (by omega) hvj.2]
          exact ⟨_, rfl, rfl⟩
        have hz : ¬ (j = 1 ∧ v 1 = v 0) → ∃ z, f_X7_canBe_J91 M (nI j) (nI (v j)) 0 = some z ∧ ((okn 13 v j ∧ z = 1) ∨ (¬ okn 13 v j ∧ z = 0)) := by
          intro hne
          obtain ⟨z, g1, g2⟩ := hJ 0 rfl
          obtain ⟨z', g3, g4⟩ := fin (lo 13 j ≤ v j ∧ v j ≤ hi 13 j) ⟨fun hh => ⟨hh.1, hh.2, fun hc => hne ⟨hc.2.1, hc.2.2⟩⟩, fun hh => ⟨hh.1, hh.2.1⟩⟩
          rw [← g2] at g3
          cases g3
          exact ⟨z, g1, g4⟩
        by_cases e1 : j = 1
        · subst e1
          have hv0 := hv 0 (by omega)
          rw [if_pos (show nI 1 = 1 from rfl), bb_some, show aI M 0 66 0 = aI M 0 66 (nI 0) from rfl, aI_at (s66 h.1) (by omega) (by omega) (by omega), bb_some, hv0.1]
          by_cases ev : v 1 = v 0
          · rw [if_pos (by rw [ev])]
            exact ⟨0, by unfold f_X7_canBe_J91; rw [if_neg (by decide)], Or.inr ⟨fun hq => hq.2.2 ⟨rfl, rfl, ev⟩, rfl⟩⟩
          · rw [if_neg (nI_nq (by omega) (by omega) ev)]
            exact hz (fun hc => ev hc.2)
        · rw [if_neg (show ¬ nI j = 1 from nI_nq (k := 1) (by omega) (by omega) e1)]
          exact hz (fun hc => e1 hc.1)
      · rw [if_neg (show ¬ nI w = 13 from nI_nq (k := 13) (by omega) (by omega) e13), a1009 M w hw (by omega) e13, bb_some]
        have hj0 : j = 0 := by unfold nw at hj; rw [if_neg (by omega), if_neg (by omega)] at hj; omega
        subst hj0
        have hl0 : lo w 0 = 0 := by unfold lo; rw [if_neg (by omega), if_neg (by omega)]
        by_cases hh : hi w 0 < v 0
        · rw [if_pos (nI_lt hh (by omega))]
          exact ⟨0, rfl, Or.inr ⟨fun hq => by have := hq.2.1; omega, rfl⟩⟩
        · rw [if_neg (nI_nlt (by omega) (by omega))]
          exact ⟨1, rfl, Or.inl ⟨⟨by omega, by omega, by omega⟩, rfl⟩⟩
  · rw [if_neg (show ¬ (5 : Int32) ≤ nI w from nI_ge (b := 5) (by omega) (by omega)), (a1003 M j h4).1, bb_some, (a1003 M j h4).2, bb_some]
    have e1 : lo 0 j = lo w j := by unfold lo; rw [if_pos (show 0 < 5 by omega), if_pos (show w < 5 by omega)]
    have e2 : hi 0 j = hi w j := by unfold hi; rw [if_pos (show 0 < 5 by omega), if_pos (show w < 5 by omega)]
    rw [e1, e2, rng (by omega) (by omega) hvj.2]
    exact fin _ ⟨fun hh => ⟨hh.1, hh.2, by omega⟩, fun hh => ⟨hh.1, hh.2.1⟩⟩
end
