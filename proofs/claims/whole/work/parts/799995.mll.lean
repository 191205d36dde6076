section
variable {M M' N : Mem} {k r v : Nat → Nat} {n p i w s c x j : Nat} {F F' : Nat × Int32}
theorem w4_cast (h : W4 M k n i j F) (e : nums k i j → F = F') : W4 M k n i j F' := by
  rcases h with ⟨h1, h2⟩ | h
  · rw [← e h1]; exact Or.inl ⟨h1, h2⟩
  · exact Or.inr h
theorem m_ll (hT : TX k n) (hW : W4 M k n i 0 F) (hP : PF F (tA k (i + 1))) {c : Nat} (hc : M.1 258 0 = nI c) (hc8 : c ≤ 8) (hF : 8 ≤ c → ¬ F.1 = 0) (hcr : F.1 = 0 → r 0 = c) (hR : RW M 2 F r) : ∃ M1, f_X12_logLine_J41 M 255 1 = f_X12_logLine_J183 M1 255 ∧ Fr SMd M M1 ∧ W4 M1 k n i 3 (fl k i 13 F 3) ∧ (nums k i 3 → RW M1 2 (fl k i 13 F 3) (pst 13 (lv k i) r)) := by
  have f1 : fl k i 13 F 1 = mnF (fl k i 13 F 0) 0 7 (tV k (i + 1 + 0)) (tA k (i + 1 + 0)) := fl_mn (w := 13) (j := 0) (by omega)
  have f3 : fl k i 13 F 3 = mnF (fl k i 13 F 2) 1 12 (tV k (i + 1 + 2)) (tA k (i + 1 + 2)) := fl_mn (w := 13) (j := 2) (by omega)
  have pf := pf_fl (w := 13) hT hP
  obtain ⟨y1, M1, a1, b1, c1, d1, e1⟩ := m_numj hW (fun h0 => pf 0 h0) (a := 0) (b := 7) (by omega) (by omega)
  have e1 : W4 M1 k n i 1 (fl k i 13 F 1) := by rw [f1]; exact e1
  have a1 : f_X12_numbered M 255 0 7 = some (nI y1, M1) := a1
  obtain ⟨M2, F2, s1, s2, s3, s4, s5⟩ := m_same hT c1.2 e1 (fun hn => pf 1 hn) (K := fun z => f_X12_logLine_J92 z 255 1 (nI y1))
  obtain ⟨y2, M3, a3, b3, c3, d3, e3⟩ := m_numf s3 s4 (a := 0) (b := 7) (by omega) (by omega)
  have a3 : f_X12_numbered M2 255 0 7 = some (nI y2, M3) := a3
  have e3 : W4 M3 k n i 2 (fl k i 13 F 2) := w4_cast e3 (fun hn => by rw [fl13 (d1 (fun q hq => hn q (by omega))), s5 hn])
  obtain ⟨y3, M4, a4, b4, c4, d4, e4⟩ := m_numj e3 (fun h0 => pf 2 h0) (a := 1) (b := 12) (by omega) (by omega)
  have a4 : f_X12_numbered M3 255 1 12 = some (nI y3, M4) := a4
  have e4 : W4 M4 k n i 3 (fl k i 13 F 3) := by rw [f3]; exact e4
  have fr4 : Fr Sm7 M M4 := fr_trans (fr_trans (fr_trans b1 (fr_mono s2 (fun a b hh => Or.inr hh))) b3) b4
  have g : ∀ x, M4.1 258 x = M.1 258 x := fun x => fr4.2 258 x (by unfold Sm7 S56; omega)
  obtain ⟨M5, l1, l2, l3, l4⟩ := m_lst (r := r) (w := 13) (v := lv k i) (x2 := 1) (x3 := nI y1) (x4 := nI y2) (x5 := nI y3) e4 (by rw [g]; exact hc) hc8 (fun h8 h0 => hF h8 (fl_0 _ h0)) (fun h0 => ⟨hcr (fl_0 _ h0), fun x hx => by rw [g]; exact hR.2.2 (fl_0 _ h0) x hx⟩) (by omega) (fun hn h0 => by
    have hok := fl_ok 3 h0
    have o0 := hok 0 (by omega)
    have o1 := hok 1 (by omega)
    have o2 := hok 2 (by omega)
    exact ⟨rfl, congrArg nI ((d1 (fun q hq => hn q (by omega))).trans (mcl_ok (a := 0) (b := 7) (u := tV k (i + 1 + 0)) ⟨o0.1, o0.2.1⟩)), congrArg nI ((d3 (fun q hq => hn q (by omega))).trans (mcl_ok (a := 0) (b := 7) (u := tV k (i + 1 + 1)) ⟨o1.1, o1.2.1⟩)), congrArg nI ((d4 hn).trans (mcl_ok (a := 1) (b := 12) (u := tV k (i + 1 + 2)) ⟨o2.1, o2.2.1⟩))⟩)
  refine ⟨M5, ?_, fr_trans (sd_7 fr4) (fr_mono l2 (fun a b hh => Or.inr hh)), l3, l4⟩
  unfold f_X12_logLine_J41
  rw [ob_at (m_shp (w4_sk hW)), bb_some, a1, bb_some]
  simp only
  rw [if_pos True.intro]
  refine Eq.trans s1 ?_
  show f_X12_logLine_J92 M2 255 1 (nI y1) = _
  unfold f_X12_logLine_J92
  rw [ob_at (m_shp (w4_sk s3)), bb_some, a3, bb_some]
  simp only
  rw [ob_at (m_shp (w4_sk e3)), bb_some, a4, bb_some]
  exact l1
end
