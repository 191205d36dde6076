/-! the model reads a line: its word, its end -/
section
variable {M M' N : Mem} {k r v : Nat → Nat} {n p i w s c x j : Nat} {F : Nat × Int32}
def mlo (s : Nat) : Nat := if s = 0 then 1 else if s = 1 then 10 else 14
def mhi (s : Nat) : Nat := if s = 0 then 9 else if s = 1 then 13 else 15
theorem mc_in : ∀ s, s < 3 → ∀ w, w < 15 → ((mlo s ≤ mc w ∧ mc w ≤ mhi s) ↔ (fw s ≤ w ∧ w < fw (s + 1))) := by decide
theorem mc_99 : ∀ w, w < 15 → mc w ≤ 15 := by decide
theorem tW_r (k : Nat → Nat) (i : Nat) : tW k i < 15 ∨ tW k i = 99 := by
  unfold tW wx
  by_cases h : te k (tp k i) - ts k (tp k i) ≤ 8
  · rw [if_pos h]; exact (wf_c _).elim (fun hh => Or.inl hh.1) Or.inr
  · rw [if_neg h]; exact Or.inr rfl
theorem tD_3 (h : tD k i = 3) : tW k i < 15 := by
  rcases tW_r k i with h1 | h1
  · exact h1
  · have h : td k (tp k i) = 3 := h
    have h1 : wx k (tp k i) = 99 := h1
    unfold td at h
    rw [if_pos h1] at h
    by_cases g0 : k (ts k (tp k i)) = 0
    · rw [if_pos g0] at h; omega
    rw [if_neg g0] at h
    by_cases g1 : 33 ≤ k (ts k (tp k i))
    · rw [if_pos g1] at h; omega
    rw [if_neg g1] at h
    by_cases g2 : 10 ≤ k (ts k (tp k i))
    · rw [if_pos g2] at h; split at h <;> omega
    rw [if_neg g2] at h; split at h <;> omega
theorem tD_lt (k : Nat → Nat) (i : Nat) : tD k i < 5 := by
  show td k (tp k i) < 5
  unfold td
  repeat' split
  all_goals omega
theorem m_takes (h : MtG M k n i F) (hs : s < 3) : ∃ z M', f_X12_takes M 255 (nI (mlo s)) (nI (mhi s)) = some (z, M') ∧ Fr Sm7 M M' ∧ ((hd k s i ∧ z = nI (mc (tW k i)) ∧ MtG M' k n (i + 1) F) ∨ (¬ hd k s i ∧ z = 0 ∧ MtB M' k n i)) := by
  obtain ⟨h1, h8, hF⟩ := h
  have hS := h1.1.1
  have hl : mlo s ≤ 99 ∧ mhi s ≤ 99 := by unfold mlo mhi; repeat' split
                                          all_goals omega
  have bad : ¬ hd k s i → ∃ z M', f_X12_takes_J27 M 255 = some (z, M') ∧ Fr Sm7 M M' ∧ ((hd k s i ∧ z = nI (mc (tW k i)) ∧ MtG M' k n (i + 1) F) ∨ (¬ hd k s i ∧ z = 0 ∧ MtB M' k n i)) := by
    intro hh
    obtain ⟨M1, c1, c2, c3⟩ := m_ends h1 h8
    unfold f_X12_takes_J27
    rw [ob_at (m_shp hS), bb_some, c1, bb_some]
    exact ⟨0, M1, rfl, fr_mono c3 (fun x y hq => by unfold S568 at hq; unfold Sm7; rcases hq with hq | hq; exact Or.inr hq; exact Or.inl ⟨hq.1, by omega, by omega⟩), Or.inr ⟨hh, rfl, c2⟩⟩
  unfold f_X12_takes
  rw [gI_at (m_shp hS), bb_some, h8, if_pos rfl, gI_at (m_shp hS), bb_some, h1.2.2.2.1]
  by_cases h3 : tD k i = 3
  · have hw := tD_3 h3
    have hm := mc_99 _ hw
    have hin := mc_in s hs _ hw
    rw [if_pos (by rw [h3]; rfl), gI_at (m_shp hS), bb_some, h1.2.2.2.2.2 h3, m_in M (by omega) hl.1 hl.2, bb_some]
    by_cases hr : mlo s ≤ mc (tW k i) ∧ mc (tW k i) ≤ mhi s
    · rw [if_pos hr, if_neg (by decide)]
      obtain ⟨M2, b1, b2, b3⟩ := m_adv h1
      rw [bb_some, ob_at (m_shp hS), bb_some, b1, bb_some]
      exact ⟨_, M2, rfl, fr_mono b2 (fun x y hq => Or.inl ⟨hq.1, by have := hq.2; omega, by have := hq.2; omega⟩), Or.inl ⟨⟨h3, hin.mp hr⟩, rfl, b3, by rw [b2.2 255 8 (by unfold S55; omega)]; exact h8, fm_55 hF b2⟩⟩
    · rw [if_neg hr, if_pos rfl]
      exact bad (fun hh => hr (hin.mpr hh.2))
  · rw [if_neg (show ¬ nI (tD k i) = 3 from nI_nq (k := 3) (by have := tD_lt k i; omega) (by omega) h3)]
    exact bad (fun hh => h3 hh.1)
theorem m_eol1 (h : MtB M k n p) : f_X12_endsLine M 255 = some M := by
  unfold f_X12_endsLine f_X12_endsLine_J22
  rw [gI_at (m_shp h.1.1), bb_some, h.2.1, if_neg (by decide), ob_at (m_shp h.1.1), bb_some, m_ends1 h, bb_some]
theorem m_eol (hh : hd k s i) (h : W4 M k n i (nw (tW k i)) F) : ∃ M', f_X12_endsLine M 255 = some M' ∧ Fr Sm7 M M' ∧ ((LnG k s i ∧ MtG M' k n (i + 2 + nw (tW k i)) F) ∨ ∃ b, LnB k s i b ∧ MtB M' k n b) := by
  rcases h with ⟨h1, h2, h8, hF⟩ | ⟨q, h1, h2, h3, h4⟩
  · have hS := h2.1.1
    unfold f_X12_endsLine
    rw [gI_at (m_shp hS), bb_some, h8, if_pos rfl, gI_at (m_shp hS), bb_some, h2.2.2.2.1]
    by_cases hd2 : tD k (i + 1 + nw (tW k i)) = 2
    · obtain ⟨M2, b1, b2, b3⟩ := m_adv h2
      rw [if_pos (by rw [hd2]; rfl), ob_at (m_shp hS), bb_some, b1, bb_some]
      refine ⟨M2, rfl, fr_mono b2 (fun x y hq => Or.inl ⟨hq.1, by have := hq.2; omega, by have := hq.2; omega⟩), Or.inl ⟨⟨hh, h1, hd2⟩, ?_, by rw [b2.2 255 8 (by unfold S55; omega)]; exact h8, fm_55 hF b2⟩⟩
      rw [show i + 2 + nw (tW k i) = i + 1 + nw (tW k i) + 1 by omega]
      exact b3
    · obtain ⟨M1, c1, c2, c3⟩ := m_ends h2 h8
      rw [if_neg (show ¬ nI (tD k (i + 1 + nw (tW k i))) = 2 from nI_nq (k := 2) (by have := tD_lt k (i + 1 + nw (tW k i)); omega) (by omega) hd2)]
      unfold f_X12_endsLine_J22
      rw [ob_at (m_shp hS), bb_some, c1, bb_some]
      exact ⟨M1, rfl, fr_mono c3 (fun x y hq => by unfold S568 at hq; unfold Sm7; rcases hq with hq | hq; exact Or.inr hq; exact Or.inl ⟨hq.1, by omega, by omega⟩), Or.inr ⟨_, Or.inr (Or.inr ⟨hh, h1, hd2, rfl⟩), c2⟩⟩
  · exact ⟨M, m_eol1 h4, fr_refl, Or.inr ⟨_, Or.inr (Or.inl ⟨hh, q, h1, h2, h3, rfl⟩), h4⟩⟩
end
