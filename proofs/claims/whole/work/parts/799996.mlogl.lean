section
variable {M M' N : Mem} {k r v : Nat → Nat} {n p i w s c x j : Nat} {F F' : Nat × Int32}
theorem m_log (hT : TX k n) (h : MtG M k n i F) (hP : PF F (tA k i)) (hR : RW M 2 F r) (hb : r 0 ≤ 40) : ∃ M', f_X12_logLine M 255 = some M' ∧ MLn M M' k n 2 i F r := by
  have hS := h.1.1.1
  obtain ⟨z, M1, t1, t2, t3⟩ := m_takes h (s := 2) (by omega)
  have t1 : f_X12_takes M 255 14 15 = some (z, M1) := t1
  obtain ⟨c, hc, hc8⟩ := hR.1
  have hc8 : c ≤ 8 := hc8
  have hc1 : M1.1 258 0 = nI c := by rw [t2.2 258 0 (by unfold Sm7 S56; omega)]; exact hc
  have gA : ∀ {N : Mem}, Sk N → aI N 0 258 0 = some (N.1 258 0) := fun h => rwG h (x := 0) (by omega)
  unfold f_X12_logLine
  rw [gI_at (m_shp hS), bb_some, ob_at (m_shp hS), bb_some, t1, bb_some, h.1.2.1]
  simp only
  rcases t3 with ⟨hh, hz, hG⟩ | ⟨hh, hz, hG⟩
  · have hA := (tA_lt hT (i := i) (by have := hh.1; omega)).1
    have hw : 13 ≤ tW k i ∧ tW k i < 15 := hh.2
    have hS1 := hG.1.1.1
    have hR1 := rw_7 hR t2
    have eC : cap (tW k i) = 8 := by unfold cap; rw [if_neg (by omega), if_neg (by omega), if_neg (by omega), if_neg (by omega)]
    have eN : cntw (tW k i) r = r 0 := if_neg (by omega)
    have hrc : F.1 = 0 → r 0 = c := fun h0 => by
      have := hR.2.2 h0 0 (by omega)
      rw [hc] at this
      exact ((nI_eq (by omega) (by omega)).mp this).symm
    have eF : lF k i F r = fl k i (tW k i) (if 8 ≤ c then mkF F 3 (nI (tA k i)) else F) (nw (tW k i)) := by
      unfold lF
      rw [eC, eN, room_eq hrc]
    have one : ∀ M2 F2, MtG M2 k n (i + 1) F2 → Fr S56 M1 M2 → PF F2 (tA k (i + 1)) → (8 ≤ c → ¬ F2.1 = 0) → (F2.1 = 0 → r 0 = c) → RW M2 2 F2 r → lF k i F r = fl k i (tW k i) F2 (nw (tW k i)) → ∃ M', f_X12_logLine_J41 M2 255 (z - 14) = some M' ∧ MLn M M' k n 2 i F r := by
      intro M2 F2 q1 q2 q3 q4 q5 q6 q7
      have qc : M2.1 258 0 = nI c := by rw [q2.2 258 0 (by unfold S56; omega)]; exact hc1
      have fin : ∀ M3, f_X12_logLine_J41 M2 255 (z - 14) = f_X12_logLine_J183 M3 255 → Fr SMd M2 M3 → W4 M3 k n i (nw (tW k i)) (fl k i (tW k i) F2 (nw (tW k i))) → (nums k i (nw (tW k i)) → RW M3 2 (fl k i (tW k i) F2 (nw (tW k i))) (pst (tW k i) (lv k i) r)) → ∃ M', f_X12_logLine_J41 M2 255 (z - 14) = some M' ∧ MLn M M' k n 2 i F r := by
        intro M3 d1 d2 d3 d4
        obtain ⟨M4, g1, g2⟩ := m_fin (M := M) hh (fr_trans (sm_7 t2) (fr_trans (s56_l q2) (sd_l d2))) (F := F) (r := r) (by rw [q7]; exact d3) (fun hn => ⟨by unfold lR; rw [q7]; exact rw_if (d4 hn) _, fun e => absurd e (by omega)⟩)
        unfold f_X12_logLine_J183 at d1
        rw [d1, ob_at (m_shp (w4_sk d3)), bb_some, g1, bb_some]
        exact ⟨M4, rfl, g2⟩
      rcases (show tW k i = 13 ∨ tW k i = 14 by omega) with e | e
      · obtain ⟨M3, d1, d2, d3, d4⟩ := m_ll (r := r) hT (Or.inl ⟨fun q hq => absurd hq (by omega), q1⟩) q3 qc hc8 q4 q5 q6
        have hx : z - 14 = 1 := by rw [hz, e]; decide
        rw [e] at fin
        exact fin M3 (by rw [hx]; exact d1) d2 d3 d4
      · obtain ⟨M3, d1, d2, d3, d4⟩ := m_ls (r := r) hT (Or.inl ⟨fun q hq => absurd hq (by omega), q1⟩) q3 qc hc8 q4 q5 q6
        have hx : z - 14 = 0 := by rw [hz, e]; decide
        rw [e] at fin
        exact fin M3 (by rw [hx]; exact d1) d2 d3 d4
    rw [gI_at (m_shp hS1), bb_some, hG.2.1, if_pos rfl, m_r10 hS1, bb_some, gA hS1, bb_some, hc1]
    by_cases hfull : 8 ≤ c
    · obtain ⟨M2, c1, c2, c3, c4⟩ := m_room hG hT hP hA
      have hnz : ¬ (mkF F 3 (nI (tA k i))).1 = 0 := mk_nz (by omega)
      rw [if_neg (show ¬ nI c < (8 : Int32) from nI_nlt (b := 8) hfull (by omega)), ob_at (m_shp hS1), bb_some, c1, bb_some]
      rw [if_pos hfull] at eF
      exact one M2 _ c3 c2 c4 (fun _ => hnz) (fun h0 => absurd h0 hnz) (rw_56 hR1 c2 (fun h0 => absurd h0 hnz)) eF
    · rw [if_pos (show nI c < (8 : Int32) from nI_lt (b := 8) (by omega) (by omega))]
      rw [if_neg hfull] at eF
      exact one M1 F hG fr_refl (pf_up hP (Nat.le_of_lt hA)) (fun h0 => absurd h0 hfull) hrc hR1 eF
  · subst hz
    have hS1 := hG.1.1
    rw [gI_at (m_shp hS1), bb_some, hG.2.1, if_neg (show ¬ (1 : Int32) = 0 by decide)]
    unfold f_X12_logLine_J41
    rw [ob_at (m_shp hS1), bb_some, m_num1 hG, bb_some]
    simp only
    rw [if_neg (show ¬ (0 : Int32) - 14 = 1 by decide)]
    rcases m_l110 hS1 hc1 ((0 : Int32) - 14) 0 (-1) (-1) with e | e
    · rw [e]
      generalize (0 : Int32) - 14 = y
      have hfd : Fr (fun a _ => a = 258) M1 (if 8 ≤ c then M1 else wI (wI (wI (wI (wI M1 258 (1 + 4 * c) y) 258 (2 + 4 * c) 0) 258 (3 + 4 * c) (-1)) 258 (4 + 4 * c) (-1)) 258 0 (nI (c + 1))) := by
        by_cases hf : 8 ≤ c
        · rw [if_pos hf]; exact fr_refl
        · rw [if_neg hf]; exact fr_put (fr_put (fr_put (fr_put (fr_wI rfl) rfl) rfl) rfl) rfl
      have hG' := mb_258 hG hfd
      unfold f_X12_logLine_J183
      rw [ob_at (m_shp hG'.1.1), bb_some, m_eol1 hG', bb_some]
      exact ⟨_, rfl, fr_trans (sm_7 t2) (fr_mono hfd (fun a b hh => Or.inr (Or.inl hh))), Or.inr ⟨i, Or.inl ⟨hh, rfl⟩, hG'⟩⟩
    · exact absurd hc8 e
end
