section
variable {M M' N : Mem} {k r v : Nat → Nat} {n p i w s c x j : Nat} {F : Nat × Int32}
theorem m_lst (hW : W4 M k n i j F) (hc : M.1 258 0 = nI c) (h8 : c ≤ 8) (hfull : 8 ≤ c → ¬ F.1 = 0) (hR : F.1 = 0 → r 0 = c ∧ ∀ x, x < 81 → M.1 258 x = nI (r x)) (hw : 13 ≤ w) {x2 x3 x4 x5 : Int32} (hx : nums k i j → F.1 = 0 → x2 = nI (if w = 13 then 1 else 0) ∧ x3 = nI (v 0) ∧ x4 = nI (if w = 13 then v 1 else 4294967295) ∧ x5 = nI (if w = 13 then v 2 else 4294967295)) : ∃ M', f_X12_logLine_J110 M 255 x2 x3 x4 x5 = f_X12_logLine_J183 M' 255 ∧ Fr (fun a _ => a = 258) M M' ∧ W4 M' k n i j F ∧ (nums k i j → RW M' 2 F (pst w v r)) := by
  rcases m_l110 (w4_sk hW) hc x2 x3 x4 x5 with e | e
  · by_cases hf : 8 ≤ c
    · rw [if_pos hf] at e
      exact ⟨M, e, fr_refl, hW, fun _ => ⟨⟨c, hc, h8⟩, fun e => absurd e (by omega), fun h0 => absurd h0 (hfull hf)⟩⟩
    · rw [if_neg hf] at e
      have hfd : Fr (fun a _ => a = 258) M (wI (wI (wI (wI (wI M 258 (1 + 4 * c) x2) 258 (2 + 4 * c) x3) 258 (3 + 4 * c) x4) 258 (4 + 4 * c) x5) 258 0 (nI (c + 1))) := fr_put (fr_put (fr_put (fr_put (fr_wI rfl) rfl) rfl) rfl) rfl
      refine ⟨_, e, hfd, w4_258 hW (fr_mono hfd (fun a b hh => Or.inl hh)), fun hn => ⟨⟨c + 1, wI_same _ _ _ _, by simp; omega⟩, fun e => absurd e (by omega), fun h0 x hxx => ?_⟩⟩
      obtain ⟨hrc, hrow⟩ := hR h0
      obtain ⟨u2, u3, u4, u5⟩ := hx hn h0
      subst hrc
      rw [pl_x hw, u2, u3, u4, u5]
      simp only [wI_rd, true_and]
      by_cases g0 : x = 0
      · rw [if_pos g0, if_pos g0]
      rw [if_neg g0, if_neg g0]
      by_cases g4 : x = 4 + 4 * r 0
      · rw [if_pos g4, if_neg (show ¬ x = 1 + 4 * r 0 by omega), if_neg (show ¬ x = 2 + 4 * r 0 by omega), if_neg (show ¬ x = 3 + 4 * r 0 by omega), if_pos g4]
      rw [if_neg g4]
      by_cases g3 : x = 3 + 4 * r 0
      · rw [if_pos g3, if_neg (show ¬ x = 1 + 4 * r 0 by omega), if_neg (show ¬ x = 2 + 4 * r 0 by omega), if_pos g3]
      rw [if_neg g3]
      by_cases g2 : x = 2 + 4 * r 0
      · rw [if_pos g2, if_neg (show ¬ x = 1 + 4 * r 0 by omega), if_pos g2]
      rw [if_neg g2]
      by_cases g1 : x = 1 + 4 * r 0
      · rw [if_pos g1, if_pos g1]
      rw [if_neg g1, if_neg g1, if_neg g2, if_neg g3, if_neg g4]
      exact hrow x hxx
  · exact absurd h8 e
/-- silent -/
theorem m_ls (hT : TX k n) (hW : W4 M k n i 0 F) (hP : PF F (tA k (i + 1))) {c : Nat} (hc : M.1 258 0 = nI c) (hc8 : c ≤ 8) (hF : 8 ≤ c → ¬ F.1 = 0) (hcr : F.1 = 0 → r 0 = c) (hR : RW M 2 F r) : ∃ M1, f_X12_logLine_J41 M 255 0 = f_X12_logLine_J183 M1 255 ∧ Fr SMd M M1 ∧ W4 M1 k n i 1 (fl k i 14 F 1) ∧ (nums k i 1 → RW M1 2 (fl k i 14 F 1) (pst 14 (lv k i) r)) := by
  have f1 : fl k i 14 F 1 = mnF (fl k i 14 F 0) 0 7 (tV k (i + 1 + 0)) (tA k (i + 1 + 0)) := fl_mn (w := 14) (j := 0) (by omega)
  obtain ⟨y1, M1, a1, b1, c1, d1, e1⟩ := m_numj hW (fun h0 => pf_fl (w := 14) hT hP 0 h0) (a := 0) (b := 7) (by omega) (by omega)
  have e1 : W4 M1 k n i 1 (fl k i 14 F 1) := by rw [f1]; exact e1
  have a1 : f_X12_numbered M 255 0 7 = some (nI y1, M1) := a1
  have g : ∀ x, M1.1 258 x = M.1 258 x := fun x => b1.2 258 x (by unfold Sm7 S56; omega)
  obtain ⟨M2, l1, l2, l3, l4⟩ := m_lst (r := r) (w := 14) (v := lv k i) (x2 := 0) (x3 := nI y1) (x4 := -1) (x5 := -1) e1 (by rw [g]; exact hc) hc8 (fun h8 h0 => hF h8 (fl_0 _ h0)) (fun h0 => ⟨hcr (fl_0 _ h0), fun x hx => by rw [g]; exact hR.2.2 (fl_0 _ h0) x hx⟩) (by omega) (fun hn h0 => by
    have hok := fl_ok 1 h0 0 (by omega)
    exact ⟨rfl, congrArg nI ((d1 hn).trans (mcl_ok (a := 0) (b := 7) (u := tV k (i + 1 + 0)) ⟨hok.1, hok.2.1⟩)), rfl, rfl⟩)
  unfold f_X12_logLine_J41
  rw [ob_at (m_shp (w4_sk hW)), bb_some, a1, bb_some]
  simp only
  rw [if_neg (show ¬ (0 : Int32) = 1 by decide), l1]
  exact ⟨M2, rfl, fr_trans (sd_7 b1) (fr_mono l2 (fun a b hh => Or.inr hh)), l3, l4⟩
end
