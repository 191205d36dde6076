section
variable {M M' N : Mem} {k r v : Nat → Nat} {n p i w s c x j : Nat} {F : Nat × Int32}
theorem m_numf (h : W4 M k n i j F) (hB : nums k i j → FtB F 2 (tA k (i + 1 + j))) {a b : Nat} (ha : a ≤ b) (hb : b ≤ 99) : ∃ y M', f_X12_numbered M 255 (nI a) (nI b) = some (nI y, M') ∧ Fr Sm7 M M' ∧ (a ≤ y ∧ y ≤ b) ∧ (nums k i (j + 1) → y = mcl a b (tV k (i + 1 + j))) ∧ W4 M' k n i (j + 1) (mnF F a b (tV k (i + 1 + j)) (tA k (i + 1 + j))) := by
  have hcl : ∀ u, a ≤ mcl a b u ∧ mcl a b u ≤ b := by
    intro u
    unfold mcl
    by_cases hr : a ≤ u ∧ u ≤ b
    · rw [if_pos hr]; exact hr
    · rw [if_neg hr]; omega
  rcases h with ⟨h1, h2⟩ | ⟨q, h1, h2, h3, h4⟩
  · obtain ⟨z, M1, b1, b2, b3⟩ := m_num h2 (hB h1) (a := a) (b := b) (by omega) hb
    rcases b3 with ⟨b3, b4, b5⟩ | ⟨b3, b4, b5⟩
    · subst b4
      refine ⟨_, M1, b1, b2, hcl _, fun _ => rfl, Or.inl ⟨fun q hq => ?_, b5⟩⟩
      rcases Nat.eq_or_lt_of_le (show q ≤ j by omega) with e | e
      · rw [e]; exact b3
      · exact h1 q e
    · subst b4
      exact ⟨_, M1, b1, b2, ⟨Nat.le_refl _, ha⟩, fun hh => absurd (hh j (by omega)) b3, Or.inr ⟨j, by omega, h1, b3, b5⟩⟩
  · exact ⟨_, M, m_num1 h4 _ _, fr_refl, ⟨Nat.le_refl _, ha⟩, fun hh => absurd (hh q (by omega)) h3, Or.inr ⟨q, by omega, h2, h3, h4⟩⟩
theorem mk_mk {q : Int32} : mkF (mkF F 2 q) 2 q = mkF F 2 q := by
  have := mk_nz (F := F) (c := 2) (q := q) (by omega)
  show (if (mkF F 2 q).1 = 0 then (2, q) else mkF F 2 q) = _
  rw [if_neg this]
theorem fl13 {y : Nat} (hy : y = mcl 0 7 (tV k (i + 1 + 0))) : fl k i 13 F 2 = mnF (if tV k (i + 1 + 1) = y then mkF (fl k i 13 F 1) 2 (nI (tA k (i + 1 + 1))) else fl k i 13 F 1) 0 7 (tV k (i + 1 + 1)) (tA k (i + 1 + 1)) := by
  show (if okb 13 (lv k i) 1 = true then fl k i 13 F 1 else mkF (fl k i 13 F 1) 2 (nI (tA k (i + 1 + 1)))) = _
  have hmk : ¬ (fl k i 13 F 1).1 = 0 → ∀ q, mkF (fl k i 13 F 1) 2 q = fl k i 13 F 1 := fun h0 q => by unfold mkF; rw [if_neg h0]
  have hok : okb 13 (lv k i) 1 = true ↔ (tV k (i + 1 + 1) ≤ 7 ∧ ¬ tV k (i + 1 + 1) = tV k (i + 1 + 0)) := by
    rw [okb_iff]
    refine ⟨fun hh => ⟨hh.2.1, fun e => hh.2.2 ⟨rfl, rfl, e⟩⟩, fun hh => ⟨Nat.zero_le _, hh.1, fun e => hh.2 e.2.2⟩⟩
  by_cases h0 : (fl k i 13 F 1).1 = 0
  · have h1 := fl_ok 1 h0 0 (by omega)
    have hv : y = tV k (i + 1 + 0) := hy.trans (mcl_ok ⟨Nat.zero_le _, h1.2.1⟩)
    subst hv
    unfold mnF
    by_cases e : tV k (i + 1 + 1) = tV k (i + 1 + 0)
    · rw [if_neg (fun hh => (hok.mp hh).2 e), if_pos e, mk_mk]
      by_cases g : 0 ≤ tV k (i + 1 + 1) ∧ tV k (i + 1 + 1) ≤ 7
      · rw [if_pos g]
      · rw [if_neg g]
    · rw [if_neg e]
      by_cases g : 0 ≤ tV k (i + 1 + 1) ∧ tV k (i + 1 + 1) ≤ 7
      · rw [if_pos g, if_pos (hok.mpr ⟨g.2, e⟩)]
      · rw [if_neg g, if_neg (fun hh => g ⟨Nat.zero_le _, (hok.mp hh).1⟩)]
  · unfold mnF
    simp only [hmk h0]
    simp
    rw [hmk h0]
    simp
end
