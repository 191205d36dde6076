/-! the lines of a text, in the model -/
section
variable {M M' N : Mem} {k r v : Nat → Nat} {n p i w s c x j : Nat} {F F' : Nat × Int32}
theorem m_line (hs : s < 3) (hT : TX k n) (h : MtG M k n i F) (hP : PF F (tA k i)) (hR : RW M s F r) (hD : s = 0 → FD M F r) (hb : Bd s r) (h0 : tD k i ≠ 0) (a2 : Int32) : ∃ M', f_X12_text_B130 M 255 (nI s) a2 = some (.inl M') ∧ MLn M M' k n s i F r := by
  have hS := h.1.1.1
  unfold f_X12_text_B130
  rw [gI_at (m_shp hS), bb_some, h.2.1, if_pos rfl, gI_at (m_shp hS), bb_some, h.1.2.2.2.1, if_neg (nI_ne0 (by omega) (by have := tD_lt k i; omega))]
  rcases (show s = 0 ∨ s = 1 ∨ s = 2 by omega) with e | e | e
  · subst e
    have hb0 : r 0 ≤ 8 := hb.1
    have hb1 := hb.2 rfl
    obtain ⟨M1, a1, a3⟩ := m_office hT h hP hR (hD rfl) ⟨by omega, by omega⟩
    rw [if_pos (show nI 0 = 0 from rfl), ob_at (m_shp hS), bb_some, a1, bb_some]
    exact ⟨M1, rfl, a3⟩
  · subst e
    obtain ⟨M1, a1, a3⟩ := m_day hT h hP hR hb.1
    rw [if_neg (show ¬ nI 1 = 0 by decide), if_pos (show nI 1 = 1 from rfl), ob_at (m_shp hS), bb_some, a1, bb_some]
    exact ⟨M1, rfl, a3⟩
  · subst e
    have hb0 : r 0 ≤ 8 := hb.1
    obtain ⟨M1, a1, a3⟩ := m_log hT h hP hR (by omega)
    rw [if_neg (show ¬ nI 2 = 0 by decide), if_neg (show ¬ nI 2 = 1 by decide), ob_at (m_shp hS), bb_some, a1, bb_some]
    exact ⟨M1, rfl, a3⟩
def MOut (M : Mem) (k : Nat → Nat) (n s : Nat) (F : Nat × Int32) (r : Nat → Nat) (M' : Mem) : Prop := Fr SMl M M' ∧ ∃ m, (∀ q, q < m → LnG k s (rn k F r q).1) ∧ ((tD k (rn k F r m).1 = 0 ∧ MtG M' k n (rn k F r m).1 (rn k F r m).2.1 ∧ RW M' s (rn k F r m).2.1 (rn k F r m).2.2 ∧ (s = 0 → FD M' (rn k F r m).2.1 (rn k F r m).2.2) ∧ Bd s (rn k F r m).2.2) ∨ (tD k (rn k F r m).1 ≠ 0 ∧ ∃ b, LnB k s (rn k F r m).1 b ∧ MtB M' k n b))
theorem m_lines (hs : s < 3) (hT : TX k n) (h : MtG M k n 0 F) (hP : PF F (tA k 0)) (hR : RW M s F r) (hD : s = 0 → FD M F r) (hb : Bd s r) (a2 : Int32) : ∃ M', f_X12_text_L130 M 255 (nI s) a2 = some M' ∧ MOut M k n s F r M' := by
  have hn := hT.1
  refine iter_rel (f := fun s' : Mem => f_X12_text_B130 s' 255 (nI s) a2) (n + 1) (fun j M1 => Fr SMl M M1 ∧ ((j ≤ n ∧ (∀ q, q < j → LnG k s (rn k F r q).1) ∧ MtG M1 k n (rn k F r j).1 (rn k F r j).2.1 ∧ PF (rn k F r j).2.1 (tA k (rn k F r j).1) ∧ RW M1 s (rn k F r j).2.1 (rn k F r j).2.2 ∧ (s = 0 → FD M1 (rn k F r j).2.1 (rn k F r j).2.2) ∧ Bd s (rn k F r j).2.2) ∨ ∃ m, (∀ q, q < m → LnG k s (rn k F r q).1) ∧ tD k (rn k F r m).1 ≠ 0 ∧ ∃ b, LnB k s (rn k F r m).1 b ∧ MtB M1 k n b)) (MOut M k n s F r) ?_ ?_ 1048576 0 M (Nat.zero_le _) ⟨fr_refl, Or.inl ⟨Nat.zero_le _, fun q hq => absurd hq (by omega), h, hP, hR, hD, hb⟩⟩ (by omega)
  · intro j M1 hj ⟨hf, hc⟩
    rcases hc with ⟨q1, q2, q3, q4, q5, q6, q7⟩ | ⟨m, q1, q2, b, q3, q4⟩
    · have hS1 := q3.1.1.1
      by_cases h0 : tD k (rn k F r j).1 = 0
      · refine Or.inr ⟨M1, ?_, hf, j, q2, Or.inl ⟨h0, q3, q5, q6, q7⟩⟩
        show f_X12_text_B130 M1 255 (nI s) a2 = _
        unfold f_X12_text_B130
        rw [gI_at (m_shp hS1), bb_some, q3.2.1, if_pos rfl, gI_at (m_shp hS1), bb_some, q3.1.2.2.2.1, h0, if_pos (show nI 0 = 0 from rfl)]
      · obtain ⟨M2, a1, a3, a4⟩ := m_line hs hT q3 q4 q5 q6 q7 h0 a2
        refine Or.inl ⟨M2, a1, fr_trans hf a3, ?_⟩
        rcases a4 with ⟨g1, g2, g3, g4⟩ | ⟨b, g1, g2⟩
        · have hg : ∀ q, q < j + 1 → LnG k s (rn k F r q).1 := fun q hq => by
            rcases Nat.eq_or_lt_of_le (show q ≤ j by omega) with e | e
            · rw [e]; exact g1
            · exact q2 q e
          have h1 := lg_tp (m := 0) hT (j + 1) hg
          have h2 := tp_le hT (rn k F r (j + 1)).1
          exact Or.inl ⟨by omega, hg, g2, pf_line hT g1 q4, g3, g4, bd_line hs g1 q7⟩
        · exact Or.inr ⟨j, q2, h0, b, g1, g2⟩
    · refine Or.inr ⟨M1, ?_, hf, m, q1, Or.inr ⟨q2, b, q3, q4⟩⟩
      show f_X12_text_B130 M1 255 (nI s) a2 = _
      unfold f_X12_text_B130
      rw [gI_at (m_shp q4.1.1), bb_some, q4.2.1, if_neg (show ¬ (1 : Int32) = 0 by decide)]
  · intro M1 ⟨hf, hc⟩
    rcases hc with ⟨q1, _⟩ | ⟨m, q1, q2, b, q3, q4⟩
    · exact absurd q1 (by omega)
    · refine ⟨M1, ?_, hf, m, q1, Or.inr ⟨q2, b, q3, q4⟩⟩
      show f_X12_text_B130 M1 255 (nI s) a2 = _
      unfold f_X12_text_B130
      rw [gI_at (m_shp q4.1.1), bb_some, q4.2.1, if_neg (show ¬ (1 : Int32) = 0 by decide)]
end
