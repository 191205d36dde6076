section
variable {M M' N : Mem} {k r v : Nat → Nat} {n p i w s c x j : Nat} {F : Nat × Int32}
/-- lifted: after its first number, is the second the same -/
theorem m_same (hT : TX k n) {F1 : Nat × Int32} {y : Nat} (hy : y ≤ 7) (h : W4 M k n i 1 F1) (hP : nums k i 1 → PF F1 (tA k (i + 1 + 1))) {K : Mem → Option Mem} : ∃ M2 F2, ((gI M 12 255 8).bind fun v3 =>
    (if v3 = 0 then
      (gI M 12 255 5).bind fun v5 =>
      (if v5 = (1 : Int32) then
        (gI M 12 255 6).bind fun v7 =>
        (if v7 = nI y then
          (gI M 12 255 4).bind fun v9 =>
          (ob M 12 255).bind fun _ => (f_X12_also M 255 (2 : Int32) v9).bind fun z10 =>
          K z10
        else
          K M)
      else
        K M)
    else
      K M)) = K M2 ∧ Fr S56 M M2 ∧ W4 M2 k n i 1 F2 ∧ (nums k i 1 → FtB F2 2 (tA k (i + 1 + 1))) ∧ (nums k i 2 → F2 = if tV k (i + 1 + 1) = y then mkF F1 2 (nI (tA k (i + 1 + 1))) else F1) := by
  have hS := w4_sk h
  rcases h with ⟨h1, h2, h3, h4⟩ | ⟨q, h1, h2, h3, h4⟩
  · have hP1 := hP h1
    have hA := tA_le hT (i + 1 + 1)
    have hn := hT.1
    rw [gI_at (m_shp hS), bb_some, h3, if_pos rfl, gI_at (m_shp hS), bb_some, h2.2.2.2.1]
    by_cases hd : tD k (i + 1 + 1) = 1
    · have hv := tV_le hT hd
      rw [if_pos (by rw [hd]; rfl), gI_at (m_shp hS), bb_some, h2.2.2.2.2.1 hd]
      by_cases e : tV k (i + 1 + 1) = y
      · obtain ⟨M1, c1, c2, c3⟩ := m_also hS h3 h4 (c := 2) (by omega) (show tA k (i + 1 + 1) ≤ 600 by omega) (pf_fb hP1)
        have c1 : f_X12_also M 255 2 (nI (tA k (i + 1 + 1))) = some M1 := c1
        rw [if_pos (by rw [e]), gI_at (m_shp hS), bb_some, h2.2.1, ob_at (m_shp hS), bb_some, c1, bb_some]
        refine ⟨M1, mkF F1 2 (nI (tA k (i + 1 + 1))), rfl, c3, Or.inl ⟨h1, mtk_56 h2 c3, by rw [c3.2 255 8 (by unfold S56; omega)]; exact h3, c2⟩, fun _ h0 => ?_, fun _ => by rw [if_pos e]⟩
        unfold mkF at h0 ⊢
        by_cases g : F1.1 = 0
        · rw [if_pos g]; exact ⟨_, rfl, Or.inr ⟨rfl, Nat.le_refl _⟩⟩
        · rw [if_neg g]; obtain ⟨a, u1, u2⟩ := hP1 g; exact ⟨a, u1, Or.inl u2⟩
      · rw [if_neg (nI_nq (by omega) (by omega) e)]
        exact ⟨M, F1, rfl, fr_refl, Or.inl ⟨h1, h2, h3, h4⟩, fun _ => pf_fb hP1, fun _ => by rw [if_neg e]⟩
    · rw [if_neg (show ¬ nI (tD k (i + 1 + 1)) = 1 from nI_nq (k := 1) (by have := tD_lt k (i + 1 + 1); omega) (by omega) hd)]
      exact ⟨M, F1, rfl, fr_refl, Or.inl ⟨h1, h2, h3, h4⟩, fun _ => pf_fb hP1, fun hn2 => absurd (hn2 1 (by omega)) hd⟩
  · rw [gI_at (m_shp hS), bb_some, h4.2.1, if_neg (show ¬ (1 : Int32) = 0 by decide)]
    exact ⟨M, F1, rfl, fr_refl, Or.inr ⟨q, h1, h2, h3, h4⟩, fun hn1 => absurd (hn1 q (by omega)) h3, fun hn2 => absurd (hn2 q (by omega)) h3⟩
end
