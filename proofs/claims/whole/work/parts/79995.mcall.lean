/-! the model reads a line: a call's -/
section
variable {M M' N : Mem} {k r v : Nat → Nat} {n p i w s c x j : Nat} {F : Nat × Int32}
theorem far_le {y m : Nat} (hy : y ≤ 7) (hm : m ≤ 8) : nI y ≤ nI m - 1 ↔ y < m := by
  rcases Nat.eq_zero_or_pos m with e | e
  · subst e
    have e1 : nI 0 - 1 = -1 := by decide +kernel
    rw [e1]
    refine ⟨fun h => ?_, fun h => absurd h (by omega)⟩
    rw [Int32.le_iff_toInt_le, nI_toInt (by omega)] at h
    have e2 : (-1 : Int32).toInt = -1 := rfl
    omega
  · obtain ⟨m', rfl⟩ : ∃ m', m = m' + 1 := ⟨m - 1, by omega⟩
    rw [nI_pred, nI_leI (by omega) (by omega)]
    omega
theorem m_cJ27 (hT : TX k n) (hW : W4 M k n i 0 F) (hP : PF F (tA k (i + 1))) {y0 : Int32} (hy : (y0 = 0 ∧ ¬ F.1 = 0) ∨ (y0 = 1 ∧ ∃ c, M.1 258 1 = nI c ∧ c < 10 ∧ (F.1 = 0 → r 1 = c))) (hR : RW M 0 F r) (hD : FD M F r) : ∃ M', f_X12_callLine_J27 M 255 y0 = some M' ∧ Fr SMl M M' ∧ W4 M' k n i 3 (fl k i 5 F 3) ∧ (nums k i 3 → RW M' 0 (fl k i 5 F 3) (pst 5 (lv k i) r) ∧ FD M' (fl k i 5 F 3) (pst 5 (lv k i) r)) := by
  have f1 : fl k i 5 F 1 = mnF (fl k i 5 F 0) 0 7 (tV k (i + 1 + 0)) (tA k (i + 1 + 0)) := fl_mn (w := 5) (j := 0) (by omega)
  have f2 : fl k i 5 F 2 = mnF (fl k i 5 F 1) 0 99 (tV k (i + 1 + 1)) (tA k (i + 1 + 1)) := fl_mn (w := 5) (j := 1) (by omega)
  have f3 : fl k i 5 F 3 = mnF (fl k i 5 F 2) 1 20 (tV k (i + 1 + 2)) (tA k (i + 1 + 2)) := fl_mn (w := 5) (j := 2) (by omega)
  have pf := pf_fl (w := 5) hT hP
  obtain ⟨y1, M1, a1, b1, c1, d1, e1⟩ := m_numj hW (fun hh => pf 0 hh) (a := 0) (b := 7) (by omega) (by omega)
  have e1 : W4 M1 k n i 1 (fl k i 5 F 1) := by rw [f1]; exact e1
  have a1 : f_X12_numbered M 255 0 7 = some (nI y1, M1) := a1
  obtain ⟨m, hm, hm8, hmF⟩ := hD
  have hm1 : M1.1 255 9 = nI m - 1 := by rw [b1.2 255 9 (by unfold Sm7 S56; omega)]; exact hm
  have hS1 := w4_sk e1
  obtain ⟨m', hm', hmB⟩ : ∃ m', m' = max m (y1 + 1) ∧ m' ≤ 8 := ⟨_, rfl, by omega⟩
  have rest : ∀ y : Int32, y = nI m' - 1 → ∃ M', f_X12_callLine_J52 M1 255 y0 (nI y1) 255 y = some M' ∧ Fr SMl M M' ∧ W4 M' k n i 3 (fl k i 5 F 3) ∧ (nums k i 3 → RW M' 0 (fl k i 5 F 3) (pst 5 (lv k i) r) ∧ FD M' (fl k i 5 F 3) (pst 5 (lv k i) r)) := by
    intro y hyy
    have hfa : Fr (fun a b => a = 258 ∨ (a = 255 ∧ b = 9)) M1 (wI M1 255 9 y) := fr_wI (Or.inr ⟨rfl, rfl⟩)
    have e1' := w4_258 e1 hfa
    obtain ⟨y2, M2, a2, b2, c2, d2, e2⟩ := m_numj e1' (fun hh => pf 1 hh) (a := 0) (b := 99) (by omega) (by omega)
    have e2 : W4 M2 k n i 2 (fl k i 5 F 2) := by rw [f2]; exact e2
    obtain ⟨y3, M3, a3, b3, c3, d3, e3⟩ := m_numj e2 (fun hh => pf 2 hh) (a := 1) (b := 20) (by omega) (by omega)
    have e3 : W4 M3 k n i 3 (fl k i 5 F 3) := by rw [f3]; exact e3
    have a2 : f_X12_numbered (wI M1 255 9 y) 255 0 99 = some (nI y2, M2) := a2
    have a3 : f_X12_numbered M2 255 1 20 = some (nI y3, M3) := a3
    have hS3 := w4_sk e3
    have fr3 : Fr SMl M M3 := fr_trans (fr_trans (fr_trans (sm_7 b1) (fr_mono hfa (fun a b hh => Or.inr hh))) (sm_7 b2)) (sm_7 b3)
    have r258 : ∀ x, M3.1 258 x = M.1 258 x := fun x => by
      rw [b3.2 258 x (by unfold Sm7 S56; omega), b2.2 258 x (by unfold Sm7 S56; omega), wI_rd, if_neg (by omega), b1.2 258 x (by unfold Sm7 S56; omega)]
    have r9 : M3.1 255 9 = nI m' - 1 := by
      rw [b3.2 255 9 (by unfold Sm7 S56; omega), b2.2 255 9 (by unfold Sm7 S56; omega), wI_same, hyy]
    unfold f_X12_callLine_J52
    rw [pI_at (m_shp hS1), bb_some, ob_at (m_shp (w4_sk e1')), bb_some, a2, bb_some, ob_at (m_shp (w4_sk e2)), bb_some, a3, bb_some]
    rcases hy with ⟨hy, hF0⟩ | ⟨hy, c, hc, hc10, hcr⟩
    · subst hy
      rw [if_pos rfl]
      have hnz : ¬ (fl k i 5 F 3).1 = 0 := fun hh => hF0 (fl_0 _ hh)
      refine ⟨M3, rfl, fr3, e3, fun _ => ⟨⟨?_, fun e => ?_, fun hh => absurd hh hnz⟩, ⟨m', r9, hmB, fun hh => absurd hh hnz⟩⟩⟩
      · rw [r258]; exact hR.1
      · rw [r258]; exact hR.2.1 e
    · subst hy
      rw [if_neg (by decide)]
      have hc3 : M3.1 258 1 = nI c := by rw [r258]; exact hc
      have x0 : (45 : Int32) + 3 * nI c = nI (45 + 3 * c) := by
        show nI 45 + nI 3 * nI c = _
        rw [pk_mul, nI_add]
      have x1 : nI (45 + 3 * c) + 1 = nI (46 + 3 * c) := by rw [nI_1]; congr 1; omega
      have x2 : nI (45 + 3 * c) + 2 = nI (47 + 3 * c) := by show nI (45 + 3 * c) + nI 2 = _; rw [nI_add]; congr 1; omega
      have gA : ∀ {N : Mem}, Sk N → aI N 0 258 1 = some (N.1 258 1) := fun h => rwG h (x := 1) (by omega)
      have pA : ∀ {N : Mem} (v : Int32), Sk N → sI N 0 258 1 v = some (wI N 258 1 v) := fun v h => rwS h (x := 1) (by omega) v
      have pB : ∀ {N : Mem} (j : Nat) (v : Int32), Sk N → j < 48 → sI N 0 258 (nI (j + 3 * c)) v = some (wI N 258 (j + 3 * c) v) := fun j v h hj => rwS h (by omega) v
      have hfr : Fr (fun a b => a = 258 ∨ (a = 255 ∧ b = 9)) M3 (wI (wI (wI (wI M3 258 (45 + 3 * c) (nI y1)) 258 (46 + 3 * c) (nI y2)) 258 (47 + 3 * c) (nI y3)) 258 1 (nI (c + 1))) := fr_put (fr_put (fr_put (fr_wI (Or.inl rfl)) (Or.inl rfl)) (Or.inl rfl)) (Or.inl rfl)
      refine ⟨wI (wI (wI (wI M3 258 (45 + 3 * c) (nI y1)) 258 (46 + 3 * c) (nI y2)) 258 (47 + 3 * c) (nI y3)) 258 1 (nI (c + 1)), ?_, fr_trans fr3 (fr_mono hfr (fun a b hh => Or.inr hh)), w4_258 e3 hfr, fun hn3 => ?_⟩
      · simp only [m_r10, gA, pA, pB, sk_wI, hS3, bb_some, hc3, x0, x1, x2, show (45 : Nat) < 48 by omega, show (46 : Nat) < 48 by omega, show (47 : Nat) < 48 by omega]
        simp only [wI_rd]
        rw [if_neg (by omega), if_neg (by omega), if_neg (by omega), hc3, nI_1]
      · have vals : (fl k i 5 F 3).1 = 0 → y1 = lv k i 0 ∧ y2 = lv k i 1 ∧ y3 = lv k i 2 ∧ r 1 = c := by
          intro hh
          have hok := fl_ok 3 hh
          have o0 := hok 0 (by omega)
          have o1 := hok 1 (by omega)
          have o2 := hok 2 (by omega)
          exact ⟨(d1 (fun q hq => hn3 q (by omega))).trans (mcl_ok ⟨o0.1, o0.2.1⟩), (d2 (fun q hq => hn3 q (by omega))).trans (mcl_ok ⟨o1.1, o1.2.1⟩), (d3 (fun q hq => hn3 q (by omega))).trans (mcl_ok ⟨o2.1, o2.2.1⟩), hcr (fl_0 _ hh)⟩
        refine ⟨⟨?_, fun e => ⟨c + 1, wI_same _ _ _ _, by omega⟩, fun hh x hx => ?_⟩, m', ?_, hmB, fun hh => ?_⟩
        · obtain ⟨c', g1, g2⟩ := hR.1
          exact ⟨c', by simp only [wI_rd]; rw [if_neg (by omega), if_neg (by omega), if_neg (by omega), if_neg (by omega), r258]; exact g1, g2⟩
        · obtain ⟨v1, v2, v3, hrc⟩ := vals hh
          subst hrc
          rw [pc_x]
          simp only [wI_rd, true_and]
          rw [v1, v2, v3]
          by_cases g0 : x = 1
          · rw [if_pos g0, if_pos g0]
          rw [if_neg g0, if_neg g0]
          by_cases g7 : x = 47 + 3 * r 1
          · rw [if_pos g7, if_neg (by omega), if_neg (by omega), if_pos g7]
          rw [if_neg g7]
          by_cases g6 : x = 46 + 3 * r 1
          · rw [if_pos g6, if_neg (by omega), if_pos g6]
          rw [if_neg g6]
          by_cases g5 : x = 45 + 3 * r 1
          · rw [if_pos g5, if_pos g5]
          rw [if_neg g5, if_neg g5, if_neg g6, if_neg g7, r258]
          exact hR.2.2 (fl_0 _ hh) x hx
        · simp only [wI_rd]
          rw [if_neg (by omega), if_neg (by omega), if_neg (by omega), if_neg (by omega)]
          exact r9
        · obtain ⟨v1, v2, v3, hrc⟩ := vals hh
          obtain ⟨u1, u2⟩ := hmF (fl_0 _ hh)
          have p1 : pst 5 (lv k i) r 1 = r 1 + 1 := by rw [pc_x, if_pos rfl]
          have pn : pst 5 (lv k i) r (45 + 3 * r 1) = y1 := by rw [pc_x, if_neg (by omega), if_pos rfl, v1]
          have po : ∀ q, q < r 1 → pst 5 (lv k i) r (45 + 3 * q) = r (45 + 3 * q) := fun q hq => pc_n (by omega) (by omega)
          rw [p1]
          refine ⟨fun q hq => ?_, ?_⟩
          · rcases Nat.eq_or_lt_of_le (show q ≤ r 1 by omega) with e | e
            · rw [e, pn]; omega
            · rw [po q e]; have := u1 q e; omega
          · right
            by_cases hmy : m ≤ y1 + 1
            · exact ⟨r 1, Nat.lt_succ_self _, by rw [pn, hm', Nat.max_eq_right hmy]⟩
            · rcases u2 with u2 | ⟨q, u2, u3⟩
              · omega
              · exact ⟨q, by omega, by rw [po q u2]; omega⟩
  unfold f_X12_callLine_J27
  rw [ob_at (m_shp (w4_sk hW)), bb_some, a1, bb_some, gI_at (m_shp hS1), bb_some, hm1]
  by_cases hle : y1 < m
  · rw [if_pos ((far_le c1.2 hm8).mpr hle), bb_some]
    exact rest _ (by rw [hm', Nat.max_eq_left (by omega)])
  · rw [if_neg (fun hh => hle ((far_le c1.2 hm8).mp hh))]
    exact rest _ (by rw [hm', Nat.max_eq_right (by omega), nI_pred])
end
