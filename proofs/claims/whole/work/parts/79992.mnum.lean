/-! the model reads a line: tokens, faults, numbers -/
section
variable {M M' N : Mem} {k r v : Nat → Nat} {n p i w s c x : Nat} {F : Nat × Int32}
/-- the model looks at token i -/
def MTk (M : Mem) (k : Nat → Nat) (n i : Nat) : Prop := MT M k n ∧ M.1 255 4 = nI (tA k i) ∧ M.1 255 3 = nI (tp k (i + 1)) ∧ M.1 255 5 = nI (tD k i) ∧ (tD k i = 1 → M.1 255 6 = nI (tV k i)) ∧ (tD k i = 3 → M.1 255 7 = nI (mc (tW k i)))
theorem m_first (h : MT M k n) (h3 : M.1 255 3 = nI (tp k i)) : ∃ M', f_X12_advance M 255 = some M' ∧ Fr S55 M M' ∧ MTk M' k n i := by
  obtain ⟨M1, e1, f1, g4, g3, g5, g6, g7⟩ := m_tok h h3 (tp_le h.2.2.1 i)
  exact ⟨M1, e1, f1, mt_fr h f1, g4, g3, g5, g6, g7⟩
theorem m_adv (h : MTk M k n i) : ∃ M', f_X12_advance M 255 = some M' ∧ Fr S55 M M' ∧ MTk M' k n (i + 1) := m_first h.1 h.2.2.1
def FtM (M : Mem) (F : Nat × Int32) : Prop := M.1 256 5 = nI F.1 ∧ M.1 256 6 = F.2 ∧ F.1 ≤ 4
/-- the model's two ways: on at token i with fault F, or broken at token b -/
def MtG (M : Mem) (k : Nat → Nat) (n i : Nat) (F : Nat × Int32) : Prop := MTk M k n i ∧ M.1 255 8 = 0 ∧ FtM M F
def MtB (M : Mem) (k : Nat → Nat) (n b : Nat) : Prop := MT M k n ∧ M.1 255 8 = 1 ∧ M.1 256 5 = 1 ∧ M.1 256 6 = nI (tA k b)
/-- the fault stands before place q, or there with a code that stays -/
def FtB (F : Nat × Int32) (c q : Nat) : Prop := F.1 ≠ 0 → ∃ a, F.2 = nI a ∧ (a < q ∨ (a = q ∧ F.1 ≤ c))
def S56 (a b : Nat) : Prop := a = 256 ∧ (b = 5 ∨ b = 6)
theorem mt_56 (h : MT M k n) (hF : Fr S56 M M') : MT M' k n := by
  obtain ⟨h1, h2, h3, h4⟩ := h
  refine ⟨fr_sk hF h1, ?_, h3, fun i hi => ?_⟩
  · rw [hF.2 255 2 (by unfold S56; omega)]; exact h2
  · rw [hF.2 256 (10 + i) (by unfold S56; omega)]; exact h4 i hi
theorem mtk_56 (h : MTk M k n i) (hF : Fr S56 M M') : MTk M' k n i := by
  have g : ∀ x, M'.1 255 x = M.1 255 x := fun x => hF.2 255 x (by unfold S56; omega)
  obtain ⟨h1, h2, h3, h4, h5, h6⟩ := h
  exact ⟨mt_56 h1 hF, by rw [g]; exact h2, by rw [g]; exact h3, by rw [g]; exact h4, fun e => by rw [g]; exact h5 e, fun e => by rw [g]; exact h6 e⟩
theorem m_aJ (h : Sk M) (c : Nat) (q : Int32) : f_X12_also_J49 M 255 (nI c) q = some (wI (wI M 256 5 (nI c)) 256 6 q) := by
  unfold f_X12_also_J49
  have s1 : Sk (wI M 256 5 (nI c)) := h
  have e5 : ∀ v, sI M 0 256 5 v = some (wI M 256 5 v) := fun v => m_put h (i := 5) (by omega) v
  have e6 : ∀ v, sI (wI M 256 5 (nI c)) 0 256 6 v = some (wI (wI M 256 5 (nI c)) 256 6 v) := fun v => m_put s1 (i := 6) (by omega) v
  rw [m_r0 h, bb_some, e5, bb_some, m_r0 s1, bb_some, e6, bb_some]
theorem m_also (h : Sk M) (h8 : M.1 255 8 = 0) (hF : FtM M F) {c q : Nat} (hc : 0 < c ∧ c ≤ 4) (hq : q ≤ 600) (hB : FtB F c q) : ∃ M', f_X12_also M 255 (nI c) (nI q) = some M' ∧ FtM M' (mkF F c (nI q)) ∧ Fr S56 M M' := by
  have e5 : aI M 0 256 5 = some (M.1 256 5) := m_get h (i := 5) (by omega)
  have e6 : aI M 0 256 6 = some (M.1 256 6) := m_get h (i := 6) (by omega)
  unfold f_X12_also mkF
  rw [gI_at (m_shp h), bb_some, h8, if_pos rfl, m_r0 h, bb_some, e5, bb_some, hF.1]
  by_cases h0 : F.1 = 0
  · rw [if_pos (by rw [h0]; rfl), if_pos h0, m_aJ h]
    exact ⟨_, rfl, ⟨by rw [wI_rd, if_neg (by omega), wI_same], wI_same _ _ _ _, hc.2⟩, fr_put (fr_wI ⟨rfl, Or.inl rfl⟩) ⟨rfl, Or.inr rfl⟩⟩
  · obtain ⟨a, ha, hb⟩ := hB h0
    have h4 := hF.2.2
    rw [if_neg (nI_ne0 (by omega) (by omega)), if_neg h0, bb_some, e6, bb_some, hF.2.1, ha]
    rcases hb with hb | ⟨hb, hb2⟩
    · rw [if_pos (nI_lt hb (by omega))]
      exact ⟨M, rfl, hF, fr_refl⟩
    · subst hb
      rw [if_neg (nI_nlt (Nat.le_refl _) (by omega)), bb_some, bb_some, e6, bb_some, hF.2.1, ha, if_pos rfl, e5, bb_some, hF.1, if_neg (nI_nlt hb2 (by omega))]
      exact ⟨M, rfl, hF, fr_refl⟩
theorem m_also1 (h : MtB M k n p) (c q : Int32) : f_X12_also M 255 c q = some M := by
  unfold f_X12_also
  rw [gI_at (m_shp h.1.1), bb_some, h.2.1, if_neg (by decide)]
def S568 (a b : Nat) : Prop := S56 a b ∨ (a = 255 ∧ b = 8)
theorem m_ends (h : MTk M k n i) (h8 : M.1 255 8 = 0) : ∃ M', f_X12_ends M 255 = some M' ∧ MtB M' k n i ∧ Fr S568 M M' := by
  have hS := h.1.1
  have s1 : Sk (wI M 255 8 1) := hS
  have s2 : Sk (wI (wI M 255 8 1) 256 5 1) := hS
  have e5 : ∀ v, sI (wI M 255 8 1) 0 256 5 v = some (wI (wI M 255 8 1) 256 5 v) := fun v => m_put s1 (i := 5) (by omega) v
  have e6 : ∀ v, sI (wI (wI M 255 8 1) 256 5 1) 0 256 6 v = some (wI (wI (wI M 255 8 1) 256 5 1) 256 6 v) := fun v => m_put s2 (i := 6) (by omega) v
  unfold f_X12_ends
  rw [gI_at (m_shp hS), bb_some, h8, if_pos rfl, pZ_at (m_shp hS) 8 (Or.inr rfl), bb_some, m_r0 s1, bb_some, e5, bb_some, m_r0 s2, bb_some, gI_at (m_shp s2), bb_some, e6, bb_some]
  have hw : (wI (wI M 255 8 1) 256 5 1).1 255 4 = nI (tA k i) := by rw [wI_rd, if_neg (by omega), wI_rd, if_neg (by omega)]; exact h.2.1
  rw [hw]
  have hfr : Fr S568 M (wI (wI (wI M 255 8 1) 256 5 1) 256 6 (nI (tA k i))) := fr_put (fr_put (fr_wI (Or.inr ⟨rfl, rfl⟩)) (Or.inl ⟨rfl, Or.inl rfl⟩)) (Or.inl ⟨rfl, Or.inr rfl⟩)
  refine ⟨_, rfl, ⟨?_, ?_, ?_, ?_⟩, hfr⟩
  · obtain ⟨h1, h2, h3, h4⟩ := h.1
    refine ⟨fr_sk hfr h1, ?_, h3, fun i hi => ?_⟩
    · rw [hfr.2 255 2 (by unfold S568 S56; omega)]; exact h2
    · rw [hfr.2 256 (10 + i) (by unfold S568 S56; omega)]; exact h4 i hi
  · rw [wI_rd, if_neg (by omega), wI_rd, if_neg (by omega), wI_same]
  · rw [wI_rd, if_neg (by omega), wI_same]
  · rw [wI_same]
theorem m_ends1 (h : MtB M k n p) : f_X12_ends M 255 = some M := by
  unfold f_X12_ends
  rw [gI_at (m_shp h.1.1), bb_some, h.2.1, if_neg (by decide)]
theorem m_in (M : Mem) {v a b : Nat} (hv : v ≤ 99) (ha : a ≤ 99) (hb : b ≤ 99) : f_X12_isIn M (nI v) (nI a) (nI b) = some (if a ≤ v ∧ v ≤ b then 1 else 0) := by
  unfold f_X12_isIn
  exact rng ha hb hv
/-- all that the reading of a line changes, its row aside -/
def Sm7 (a b : Nat) : Prop := (a = 255 ∧ 3 ≤ b ∧ b ≤ 8) ∨ S56 a b
theorem fm_55 (hF : FtM M F) (h : Fr S55 M M') : FtM M' F := ⟨by rw [h.2 256 5 (by unfold S55; omega)]; exact hF.1, by rw [h.2 256 6 (by unfold S55; omega)]; exact hF.2.1, hF.2.2⟩
def mcl (a b v : Nat) : Nat := if a ≤ v ∧ v ≤ b then v else a
def mnF (F : Nat × Int32) (a b v q : Nat) : Nat × Int32 := if a ≤ v ∧ v ≤ b then F else mkF F 2 (nI q)
theorem m_num (h : MtG M k n i F) (hB : FtB F 2 (tA k i)) {a b : Nat} (ha : a ≤ 99) (hb : b ≤ 99) : ∃ z M', f_X12_numbered M 255 (nI a) (nI b) = some (z, M') ∧ Fr Sm7 M M' ∧ ((tD k i = 1 ∧ z = nI (mcl a b (tV k i)) ∧ MtG M' k n (i + 1) (mnF F a b (tV k i) (tA k i))) ∨ (tD k i ≠ 1 ∧ z = nI a ∧ MtB M' k n i)) := by
  obtain ⟨h1, h8, hF⟩ := h
  have hS := h1.1.1
  have hT := h1.1.2.2.1
  have hA := tA_le hT i
  have hn := hT.1
  unfold f_X12_numbered
  rw [gI_at (m_shp hS), bb_some, h8, if_pos rfl, gI_at (m_shp hS), bb_some, h1.2.2.2.1]
  by_cases hd : tD k i = 1
  · have hv := tV_le hT hd
    rw [if_pos (by rw [hd]; rfl), gI_at (m_shp hS), bb_some, h1.2.2.2.2.1 hd, m_in M hv ha hb, bb_some]
    have key : ∀ M1 F1, MTk M1 k n i → M1.1 255 8 = 0 → FtM M1 F1 → Fr Sm7 M M1 → F1 = mnF F a b (tV k i) (tA k i) → ∃ z M', f_X12_numbered_J44 M1 255 (nI a) (nI b) (nI (tV k i)) = some (z, M') ∧ Fr Sm7 M M' ∧ ((tD k i = 1 ∧ z = nI (mcl a b (tV k i)) ∧ MtG M' k n (i + 1) (mnF F a b (tV k i) (tA k i))) ∨ (tD k i ≠ 1 ∧ z = nI a ∧ MtB M' k n i)) := by
      intro M1 F1 q1 q2 q3 q4 q5
      obtain ⟨M2, b1, b2, b3⟩ := m_adv q1
      have hfr : Fr Sm7 M M2 := fr_trans q4 (fr_mono b2 (fun x y hh => Or.inl ⟨hh.1, by have := hh.2; omega, by have := hh.2; omega⟩))
      have hG : MtG M2 k n (i + 1) (mnF F a b (tV k i) (tA k i)) := ⟨b3, by rw [b2.2 255 8 (by unfold S55; omega)]; exact q2, by rw [← q5]; exact fm_55 q3 b2⟩
      unfold f_X12_numbered_J44
      rw [ob_at (m_shp q1.1.1), bb_some, b1, bb_some, m_in M2 hv ha hb, bb_some]
      unfold mcl
      by_cases hr : a ≤ tV k i ∧ tV k i ≤ b
      · rw [if_pos hr, if_neg (by decide)]
        exact ⟨_, M2, rfl, hfr, Or.inl ⟨hd, by rw [if_pos hr], hG⟩⟩
      · rw [if_neg hr, if_pos rfl]
        exact ⟨_, M2, rfl, hfr, Or.inl ⟨hd, by rw [if_neg hr], hG⟩⟩
    by_cases hr : a ≤ tV k i ∧ tV k i ≤ b
    · rw [if_pos hr, if_neg (by decide)]
      exact key M F h1 h8 hF fr_refl (by unfold mnF; rw [if_pos hr])
    · obtain ⟨M1, c1, c2, c3⟩ := m_also hS h8 hF (c := 2) (by omega) (show tA k i ≤ 600 by omega) hB
      have c1 : f_X12_also M 255 2 (nI (tA k i)) = some M1 := c1
      rw [if_neg hr, if_pos rfl, gI_at (m_shp hS), bb_some, ob_at (m_shp hS), bb_some, h1.2.1, c1, bb_some]
      exact key M1 _ (mtk_56 h1 c3) (by rw [c3.2 255 8 (by unfold S56; omega)]; exact h8) c2 (fr_mono c3 (fun x y hh => Or.inr hh)) (by unfold mnF; rw [if_neg hr])
  · have hd5 : ¬ nI (tD k i) = 1 := by
      have : tD k i < 5 := by
        show td k (tp k i) < 5
        unfold td
        repeat' split
        all_goals omega
      exact nI_nq (k := 1) (by omega) (by omega) hd
    obtain ⟨M1, c1, c2, c3⟩ := m_ends h1 h8
    rw [if_neg hd5]
    unfold f_X12_numbered_J15
    rw [ob_at (m_shp hS), bb_some, c1, bb_some]
    exact ⟨_, M1, rfl, fr_mono c3 (fun x y hh => by unfold S568 at hh; unfold Sm7; rcases hh with hh | hh; exact Or.inr hh; exact Or.inl ⟨hh.1, by omega, by omega⟩), Or.inr ⟨hd, rfl, c2⟩⟩
theorem m_num1 (h : MtB M k n p) (a b : Int32) : f_X12_numbered M 255 a b = some (a, M) := by
  unfold f_X12_numbered f_X12_numbered_J15
  rw [gI_at (m_shp h.1.1), bb_some, h.2.1, if_neg (by decide), ob_at (m_shp h.1.1), bb_some, m_ends1 h, bb_some]
end
