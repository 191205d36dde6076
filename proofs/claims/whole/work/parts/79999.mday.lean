/-! the model reads a line of a day -/
section
variable {M M' N : Mem} {k r v : Nat → Nat} {n p i w s c x j : Nat} {F : Nat × Int32}
theorem m_dayJ (M : Mem) (x : Int32) : f_X12_dayLine_J41 M 255 x = f_X12_dayLine_J54 M 255 x 255 0 (if x = 0 then 9 else 7) := by
  unfold f_X12_dayLine_J41
  by_cases h : x = 0
  · rw [if_pos h, if_pos h]
  · rw [if_neg h, if_neg h]
theorem m_d54 (hT : TX k n) (hw : 9 ≤ w ∧ w < 13) (hW : W4 M k n i 0 F) (hP : PF F (tA k (i + 1))) {c : Nat} (hc : M.1 258 0 = nI c) (hc40 : c ≤ 40) (hF : 40 ≤ c → ¬ F.1 = 0) (hcr : F.1 = 0 → r 0 = c) (hR : RW M 1 F r) : ∃ M1, f_X12_dayLine_J54 M 255 (nI (w - 9)) 255 0 (nI (hi w 0)) = f_X12_dayLine_J111 M1 255 ∧ Fr SMd M M1 ∧ W4 M1 k n i 1 (fl k i w F 1) ∧ (nums k i 1 → RW M1 1 (fl k i w F 1) (pst w (lv k i) r)) := by
  have q1 : lo w 0 = 0 := by unfold lo; rw [if_neg (by omega), if_neg (by omega)]
  have hh := hi_le w 0
  have f1 := fl_mn (k := k) (i := i) (w := w) (F := F) (j := 0) (by omega)
  rw [q1] at f1
  obtain ⟨y1, M1, a1, b1, c1, d1, e1⟩ := m_numj hW (fun h0 => pf_fl (w := w) hT hP 0 h0) (a := 0) (b := hi w 0) (by omega) hh.2
  have e1 : W4 M1 k n i 1 (fl k i w F 1) := by rw [f1]; exact e1
  have a1 : f_X12_numbered M 255 0 (nI (hi w 0)) = some (nI y1, M1) := a1
  have hS1 := w4_sk e1
  have hc1 : M1.1 258 0 = nI c := by rw [b1.2 258 0 (by unfold Sm7 S56; omega)]; exact hc
  have hR1 := rw_7 hR b1
  have gA : ∀ {N : Mem}, Sk N → aI N 0 258 0 = some (N.1 258 0) := fun h => rwG h (x := 0) (by omega)
  have pA : ∀ {N : Mem} (v : Int32), Sk N → sI N 0 258 0 v = some (wI N 258 0 v) := fun v h => rwS h (x := 0) (by omega) v
  unfold f_X12_dayLine_J54
  rw [ob_at (m_shp (w4_sk hW)), bb_some, a1, bb_some]
  simp only
  rw [m_r10 hS1, bb_some, gA hS1, bb_some, hc1]
  by_cases hfull : 40 ≤ c
  · rw [if_pos (show (40 : Int32) ≤ nI c from nI_le hfull (by omega))]
    have hnz : ¬ (fl k i w F 1).1 = 0 := fun h0 => hF hfull (fl_0 _ h0)
    exact ⟨M1, rfl, sd_7 b1, e1, fun _ => ⟨hR1.1, hR1.2.1, fun h0 => absurd h0 hnz⟩⟩
  · rw [if_neg (show ¬ (40 : Int32) ≤ nI c from nI_ge (b := 40) (by omega) (by omega))]
    have x1 : (1 : Int32) + 2 * nI c = nI (1 + 2 * c) := by
      show nI 1 + nI 2 * nI c = _
      rw [pk_mul, nI_add]
    have x2 : (2 : Int32) + 2 * nI c = nI (2 + 2 * c) := by
      show nI 2 + nI 2 * nI c = _
      rw [pk_mul, nI_add]
    have pB : ∀ {N : Mem} (j : Nat) (v : Int32), Sk N → j < 3 → sI N 0 258 (nI (j + 2 * c)) v = some (wI N 258 (j + 2 * c) v) := fun j v h hj => rwS h (by omega) v
    have hfd : Fr (fun a _ => a = 258) M1 (wI (wI (wI M1 258 (1 + 2 * c) (nI (w - 9))) 258 (2 + 2 * c) (nI y1)) 258 0 (nI (c + 1))) := fr_put (fr_put (fr_wI rfl) rfl) rfl
    have hfr := fr_mono (S' := fun a b => a = 258 ∨ (a = 255 ∧ b = 9)) hfd (fun a b hh => Or.inl hh)
    refine ⟨wI (wI (wI M1 258 (1 + 2 * c) (nI (w - 9))) 258 (2 + 2 * c) (nI y1)) 258 0 (nI (c + 1)), ?_, fr_trans (sd_7 b1) (fr_mono hfd (fun a b hh => Or.inr hh)), w4_258 e1 hfr, fun hn1 => ?_⟩
    · have s2 : Sk (wI M1 258 (1 + 2 * c) (nI (w - 9))) := hS1
      have s3 : Sk (wI (wI M1 258 (1 + 2 * c) (nI (w - 9))) 258 (2 + 2 * c) (nI y1)) := hS1
      have hc2 : (wI M1 258 (1 + 2 * c) (nI (w - 9))).1 258 0 = nI c := by rw [wI_rd, if_neg (by omega)]; exact hc1
      have hc3 : (wI (wI M1 258 (1 + 2 * c) (nI (w - 9))) 258 (2 + 2 * c) (nI y1)).1 258 0 = nI c := by rw [wI_rd, if_neg (by omega)]; exact hc2
      simp only [bb_some, gA hS1, hc1, x1, pB 1 _ hS1 (by omega), m_r10 s2, gA s2, hc2, x2, pB 2 _ s2 (by omega), m_r10 s3, gA s3, hc3, nI_1, pA _ s3]
    · refine ⟨⟨c + 1, wI_same _ _ _ _, by simp; omega⟩, fun e => absurd e (by omega), fun h0 x hx => ?_⟩
      have hok := fl_ok 1 h0 0 (by omega)
      have v1 : y1 = lv k i 0 := (d1 hn1).trans (mcl_ok (by unfold okn at hok; rw [q1] at hok; exact ⟨hok.1, hok.2.1⟩))
      have hrc := hcr (fl_0 _ h0)
      subst hrc
      rw [py_x hw]
      simp only [wI_rd, true_and]
      rw [v1]
      by_cases g0 : x = 0
      · rw [if_pos g0, if_pos g0]
      rw [if_neg g0, if_neg g0]
      by_cases g2 : x = 2 + 2 * r 0
      · rw [if_pos g2, if_neg (by omega), if_pos g2]
      rw [if_neg g2]
      by_cases g3 : x = 1 + 2 * r 0
      · rw [if_pos g3, if_pos g3]
      rw [if_neg g3, if_neg g3, if_neg g2]
      exact hR1.2.2 (fl_0 _ h0) x hx
theorem mb_258 (h : MtB M k n p) (hF : Fr (fun a _ => a = 258) M M') : MtB M' k n p := by
  obtain ⟨h1, h2, h3, h4⟩ := h
  exact ⟨mt_258 h1 (fr_mono hF (fun a b hh => Or.inl hh)), by rw [hF.2 255 8 (by omega)]; exact h2, by rw [hF.2 256 5 (by omega)]; exact h3, by rw [hF.2 256 6 (by omega)]; exact h4⟩
theorem m_day (hT : TX k n) (h : MtG M k n i F) (hP : PF F (tA k i)) (hR : RW M 1 F r) (hb : r 0 ≤ 40) : ∃ M', f_X12_dayLine M 255 = some M' ∧ MLn M M' k n 1 i F r := by
  have hS := h.1.1.1
  obtain ⟨z, M1, t1, t2, t3⟩ := m_takes h (s := 1) (by omega)
  have t1 : f_X12_takes M 255 10 13 = some (z, M1) := t1
  obtain ⟨c, hc, hc40⟩ := hR.1
  have hc40 : c ≤ 40 := hc40
  have hc1 : M1.1 258 0 = nI c := by rw [t2.2 258 0 (by unfold Sm7 S56; omega)]; exact hc
  have gA : ∀ {N : Mem}, Sk N → aI N 0 258 0 = some (N.1 258 0) := fun h => rwG h (x := 0) (by omega)
  have pA : ∀ {N : Mem} (v : Int32), Sk N → sI N 0 258 0 v = some (wI N 258 0 v) := fun v h => rwS h (x := 0) (by omega) v
  unfold f_X12_dayLine
  rw [gI_at (m_shp hS), bb_some, ob_at (m_shp hS), bb_some, t1, bb_some, h.1.2.1]
  simp only
  rcases t3 with ⟨hh, hz, hG⟩ | ⟨hh, hz, hG⟩
  · have hA := (tA_lt hT (i := i) (by have := hh.1; omega)).1
    have hw : 9 ≤ tW k i ∧ tW k i < 13 := hh.2
    have hS1 := hG.1.1.1
    have hR1 := rw_7 hR t2
    have hm : mc (tW k i) = tW k i + 1 := by unfold mc; rw [if_neg (by omega), if_neg (by omega), if_neg (by omega)]
    have hx : z - 10 = nI (tW k i - 9) := by
      rw [hz, hm]
      show nI (tW k i + 1) - nI 10 = _
      rw [nI_sb (by omega)]
      congr 1
    have hlim : (if nI (tW k i - 9) = 0 then (9 : Int32) else 7) = nI (hi (tW k i) 0) := by
      rcases (show tW k i = 9 ∨ tW k i = 10 ∨ tW k i = 11 ∨ tW k i = 12 by omega) with e | e | e | e <;> rw [e] <;> decide
    have eN1 : nw (tW k i) = 1 := by unfold nw; rw [if_neg (by omega), if_neg (by omega)]
    have eC : cap (tW k i) = 40 := by unfold cap; rw [if_neg (by omega), if_neg (by omega), if_neg (by omega), if_pos (by omega)]
    have eN : cntw (tW k i) r = r 0 := if_neg (by omega)
    have hrc : F.1 = 0 → r 0 = c := fun h0 => by
      have := hR.2.2 h0 0 (by omega)
      rw [hc] at this
      exact ((nI_eq (by omega) (by omega)).mp this).symm
    have eF : lF k i F r = fl k i (tW k i) (if 40 ≤ c then mkF F 3 (nI (tA k i)) else F) 1 := by
      unfold lF
      rw [eN1, eC, eN, room_eq hrc]
    rw [gI_at (m_shp hS1), bb_some, hG.2.1, if_pos rfl, m_r10 hS1, bb_some, gA hS1, bb_some, hc1, hx, m_dayJ, hlim]
    by_cases hfull : 40 ≤ c
    · obtain ⟨M2, c1, c2, c3, c4⟩ := m_room hG hT hP hA
      have hnz : ¬ (mkF F 3 (nI (tA k i))).1 = 0 := mk_nz (by omega)
      rw [if_neg (show ¬ nI c < (40 : Int32) from nI_nlt (b := 40) hfull (by omega)), ob_at (m_shp hS1), bb_some, c1, bb_some, m_dayJ, hlim]
      rw [if_pos hfull] at eF
      obtain ⟨M3, d1, d2, d3, d4⟩ := m_d54 (r := r) hT hw (Or.inl ⟨fun q hq => absurd hq (by omega), c3⟩) c4 (c := c) (by rw [c2.2 258 0 (by unfold S56; omega)]; exact hc1) hc40 (fun _ => hnz) (fun h0 => absurd h0 hnz) (rw_56 hR1 c2 (fun h0 => absurd h0 hnz))
      obtain ⟨M4, g1, g2⟩ := m_fin (M := M) hh (fr_trans (sm_7 t2) (fr_trans (s56_l c2) (sd_l d2))) (F := F) (r := r) (by rw [eN1, eF]; exact d3) (fun hn => ⟨by unfold lR; rw [eF]; exact rw_if (d4 (by rw [eN1] at hn; exact hn)) _, fun e => absurd e (by omega)⟩)
      unfold f_X12_dayLine_J111 at d1
      rw [d1, ob_at (m_shp (w4_sk d3)), bb_some, g1, bb_some]
      exact ⟨M4, rfl, g2⟩
    · rw [if_pos (show nI c < (40 : Int32) from nI_lt (b := 40) (by omega) (by omega))]
      rw [if_neg hfull] at eF
      obtain ⟨M3, d1, d2, d3, d4⟩ := m_d54 (r := r) hT hw (Or.inl ⟨fun q hq => absurd hq (by omega), hG⟩) (pf_up hP (Nat.le_of_lt hA)) (c := c) hc1 hc40 (fun h0 => absurd h0 hfull) hrc hR1
      obtain ⟨M4, g1, g2⟩ := m_fin (M := M) hh (fr_trans (sm_7 t2) (sd_l d2)) (F := F) (r := r) (by rw [eN1, eF]; exact d3) (fun hn => ⟨by unfold lR; rw [eF]; exact rw_if (d4 (by rw [eN1] at hn; exact hn)) _, fun e => absurd e (by omega)⟩)
      unfold f_X12_dayLine_J111 at d1
      rw [d1, ob_at (m_shp (w4_sk d3)), bb_some, g1, bb_some]
      exact ⟨M4, rfl, g2⟩
  · subst hz
    have hS1 := hG.1.1
    rw [gI_at (m_shp hS1), bb_some, hG.2.1, if_neg (show ¬ (1 : Int32) = 0 by decide), m_dayJ]
    unfold f_X12_dayLine_J54 f_X12_dayLine_J111
    rw [ob_at (m_shp hS1), bb_some, m_num1 hG, bb_some]
    simp only
    rw [m_r10 hS1, bb_some, gA hS1, bb_some, hc1]
    by_cases hfull : 40 ≤ c
    · rw [if_pos (show (40 : Int32) ≤ nI c from nI_le hfull (by omega)), ob_at (m_shp hS1), bb_some, m_eol1 hG, bb_some]
      exact ⟨M1, rfl, m_bad hh hG t2⟩
    · rw [if_neg (show ¬ (40 : Int32) ≤ nI c from nI_ge (b := 40) (by omega) (by omega))]
      have x1 : (1 : Int32) + 2 * nI c = nI (1 + 2 * c) := by
        show nI 1 + nI 2 * nI c = _
        rw [pk_mul, nI_add]
      have x2 : (2 : Int32) + 2 * nI c = nI (2 + 2 * c) := by
        show nI 2 + nI 2 * nI c = _
        rw [pk_mul, nI_add]
      have pB : ∀ {N : Mem} (j : Nat) (v : Int32), Sk N → j < 3 → sI N 0 258 (nI (j + 2 * c)) v = some (wI N 258 (j + 2 * c) v) := fun j v h hj => rwS h (by omega) v
      generalize (0 : Int32) - 10 = y
      have hfd : Fr (fun a _ => a = 258) M1 (wI (wI (wI M1 258 (1 + 2 * c) y) 258 (2 + 2 * c) 0) 258 0 (nI (c + 1))) := fr_put (fr_put (fr_wI rfl) rfl) rfl
      have s2 : Sk (wI M1 258 (1 + 2 * c) y) := hS1
      have s3 : Sk (wI (wI M1 258 (1 + 2 * c) y) 258 (2 + 2 * c) 0) := hS1
      have hc2 : (wI M1 258 (1 + 2 * c) y).1 258 0 = nI c := by rw [wI_rd, if_neg (by omega)]; exact hc1
      have hc3 : (wI (wI M1 258 (1 + 2 * c) y) 258 (2 + 2 * c) 0).1 258 0 = nI c := by rw [wI_rd, if_neg (by omega)]; exact hc2
      have hG' := mb_258 hG hfd
      simp only [bb_some, gA hS1, hc1, x1, pB 1 _ hS1 (by omega), m_r10 s2, gA s2, hc2, x2, pB 2 _ s2 (by omega), m_r10 s3, gA s3, hc3, nI_1, pA _ s3, ob_at (m_shp hG'.1.1), m_eol1 hG']
      exact ⟨_, rfl, fr_trans (sm_7 t2) (fr_mono hfd (fun a b hh => Or.inr (Or.inl hh))), Or.inr ⟨i, Or.inl ⟨hh, rfl⟩, hG'⟩⟩
end
