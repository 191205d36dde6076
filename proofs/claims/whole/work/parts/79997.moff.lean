/-! the model reads a line of an office -/
section
variable {M M' N : Mem} {k r v : Nat → Nat} {n p i w s c x j : Nat} {F : Nat × Int32}
theorem room_eq {a c C : Nat} {q : Int32} (h : F.1 = 0 → a = c) : (if C ≤ c then mkF F 3 q else F) = (if C ≤ a then mkF F 3 q else F) := by
  by_cases h0 : F.1 = 0
  · rw [h h0]
  · have e : mkF F 3 q = F := by unfold mkF; rw [if_neg h0]
    rw [e]
    simp
theorem rw_if (h : RW M s F r) (r2 : Nat → Nat) : RW M s F (if F.1 = 0 then r else r2) := ⟨h.1, h.2.1, fun h0 x hx => by rw [if_pos h0]; exact h.2.2 h0 x hx⟩
theorem fd_if (h : FD M F r) (r2 : Nat → Nat) : FD M F (if F.1 = 0 then r else r2) := by
  obtain ⟨m, h1, h2, h3⟩ := h
  exact ⟨m, h1, h2, fun h0 => by rw [if_pos h0]; exact h3 h0⟩
theorem rw_56 (h : RW M s F r) (hF : Fr S56 M M') {F' : Nat × Int32} (h0 : F'.1 = 0 → F.1 = 0) : RW M' s F' r := by
  have g : ∀ x, M'.1 258 x = M.1 258 x := fun x => hF.2 258 x (by unfold S56; omega)
  unfold RW
  rw [g, g]
  exact ⟨h.1, h.2.1, fun h1 x hx => by rw [g]; exact h.2.2 (h0 h1) x hx⟩
theorem fd_56 (h : FD M F r) (hF : Fr S56 M M') {F' : Nat × Int32} (h0 : F'.1 = 0 → F.1 = 0) : FD M' F' r := by
  obtain ⟨m, h1, h2, h3⟩ := h
  exact ⟨m, by rw [hF.2 255 9 (by unfold S56; omega)]; exact h1, h2, fun h4 => h3 (h0 h4)⟩
theorem s56_l (h : Fr S56 M M') : Fr SMl M M' := fr_mono h (fun a b hh => Or.inl (Or.inr hh))
theorem m_desk (hT : TX k n) (h : MtG M k n (i + 1) F) (hP : PF F (tA k i)) (hA : tA k i < tA k (i + 1)) (hw : tW k i < 5) (hR : RW M 0 F r) (hb : r 0 ≤ 40) : ∃ M', f_X12_deskLine M 255 (nI (tA k i)) (nI (tW k i)) = some M' ∧ Fr SMd M M' ∧ W4 M' k n i 4 (lF k i F r) ∧ (nums k i 4 → RW M' 0 (lF k i F r) (lR k i F r)) := by
  have hS := h.1.1.1
  obtain ⟨c, hc, hc8⟩ := hR.1
  have hc8 : c ≤ 8 := hc8
  have hrc : F.1 = 0 → r 0 = c := fun h0 => by
    have := hR.2.2 h0 0 (by omega)
    rw [hc] at this
    exact ((nI_eq (by omega) (by omega)).mp this).symm
  have e4 : nw (tW k i) = 4 := if_pos hw
  have eC : cap (tW k i) = 8 := if_pos hw
  have eN : cntw (tW k i) r = r 0 := if_neg (by omega)
  have eF : lF k i F r = fl k i (tW k i) (if 8 ≤ c then mkF F 3 (nI (tA k i)) else F) 4 := by
    unfold lF
    rw [e4, eC, eN, room_eq hrc]
  have eR : lR k i F r = if (lF k i F r).1 = 0 then pst (tW k i) (lv k i) r else r := rfl
  rw [eR, eF]
  have gA : aI M 0 258 0 = some (nI c) := by rw [← hc]; exact rwG hS (x := 0) (by omega)
  unfold f_X12_deskLine f_X12_deskLine_J16
  rw [m_r10 hS, bb_some, gA, bb_some, gI_at (m_shp hS), bb_some, h.2.1, if_pos rfl]
  by_cases hfull : 8 ≤ c
  · obtain ⟨M1, c1, c2, c3, c4⟩ := m_room h hT hP hA
    rw [if_pos (show (8 : Int32) ≤ nI c from nI_le hfull (by omega)), if_pos rfl, ob_at (m_shp hS), bb_some, c1, bb_some, if_pos hfull]
    have hnz : ¬ (mkF F 3 (nI (tA k i))).1 = 0 := mk_nz (by omega)
    obtain ⟨M2, d1, d2, d3, d4⟩ := m_dJ34 (r := r) hT hw (Or.inl ⟨fun q hq => absurd hq (by omega), c3⟩) c4 (Or.inl ⟨rfl, hnz⟩) (rw_56 hR c2 (fun h0 => absurd h0 hnz))
    exact ⟨M2, d1, fr_trans (fr_mono c2 (fun a b hh => Or.inl (Or.inr hh))) d2, d3, fun hn => rw_if (d4 hn) _⟩
  · rw [if_neg (show ¬ (8 : Int32) ≤ nI c from nI_ge (b := 8) (by omega) (by omega)), bb_some, if_pos rfl, if_neg (by decide), if_neg hfull]
    obtain ⟨M2, d1, d2, d3, d4⟩ := m_dJ34 (r := r) hT hw (Or.inl ⟨fun q hq => absurd hq (by omega), h⟩) (pf_up hP (Nat.le_of_lt hA)) (Or.inr ⟨rfl, c, hc, by omega, hrc⟩) hR
    exact ⟨M2, d1, d2, d3, fun hn => rw_if (d4 hn) _⟩
theorem m_call (hT : TX k n) (h : MtG M k n (i + 1) F) (hP : PF F (tA k i)) (hA : tA k i < tA k (i + 1)) (hw : tW k i = 5) (hR : RW M 0 F r) (hD : FD M F r) (hb : r 1 ≤ 40) : ∃ M', f_X12_callLine M 255 (nI (tA k i)) = some M' ∧ Fr SMl M M' ∧ W4 M' k n i 3 (lF k i F r) ∧ (nums k i 3 → RW M' 0 (lF k i F r) (lR k i F r) ∧ FD M' (lF k i F r) (lR k i F r)) := by
  have hS := h.1.1.1
  obtain ⟨c, hc, hc10⟩ := hR.2.1 rfl
  have hrc : F.1 = 0 → r 1 = c := fun h0 => by
    have := hR.2.2 h0 1 (by omega)
    rw [hc] at this
    exact ((nI_eq (by omega) (by omega)).mp this).symm
  have eF : lF k i F r = fl k i 5 (if 10 ≤ c then mkF F 3 (nI (tA k i)) else F) 3 := by
    unfold lF
    rw [hw, room_eq hrc]
    rfl
  have eR : lR k i F r = if (lF k i F r).1 = 0 then pst 5 (lv k i) r else r := by unfold lR; rw [hw]
  rw [eR, eF]
  have gA : aI M 0 258 1 = some (nI c) := by rw [← hc]; exact rwG hS (x := 1) (by omega)
  unfold f_X12_callLine f_X12_callLine_J16
  rw [m_r10 hS, bb_some, gA, bb_some]
  by_cases hfull : 10 ≤ c
  · obtain ⟨M1, c1, c2, c3, c4⟩ := m_room h hT hP hA
    rw [if_pos (show (10 : Int32) ≤ nI c from nI_le hfull (by omega)), if_pos rfl, ob_at (m_shp hS), bb_some, c1, bb_some, if_pos hfull]
    have hnz : ¬ (mkF F 3 (nI (tA k i))).1 = 0 := mk_nz (by omega)
    obtain ⟨M2, d1, d2, d3, d4⟩ := m_cJ27 (r := r) hT (Or.inl ⟨fun q hq => absurd hq (by omega), c3⟩) c4 (Or.inl ⟨rfl, hnz⟩) (rw_56 hR c2 (fun h0 => absurd h0 hnz)) (fd_56 hD c2 (fun h0 => absurd h0 hnz))
    exact ⟨M2, d1, fr_trans (s56_l c2) d2, d3, fun hn => ⟨rw_if (d4 hn).1 _, fd_if (d4 hn).2 _⟩⟩
  · rw [if_neg (show ¬ (10 : Int32) ≤ nI c from nI_ge (b := 10) (by omega) (by omega)), if_neg (by decide), if_neg hfull]
    obtain ⟨M2, d1, d2, d3, d4⟩ := m_cJ27 (r := r) hT (Or.inl ⟨fun q hq => absurd hq (by omega), h⟩) (pf_up hP (Nat.le_of_lt hA)) (Or.inr ⟨rfl, c, hc, by omega, hrc⟩) hR hD
    exact ⟨M2, d1, d2, d3, fun hn => ⟨rw_if (d4 hn).1 _, fd_if (d4 hn).2 _⟩⟩
end
