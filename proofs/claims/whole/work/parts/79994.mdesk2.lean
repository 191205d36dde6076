section
variable {M M' N : Mem} {k r v : Nat → Nat} {n p i w s c x j : Nat} {F : Nat × Int32}
theorem sm_7 (h : Fr Sm7 M M') : Fr SMl M M' := fr_mono h (fun a b hh => Or.inl hh)
def SMd (a b : Nat) : Prop := Sm7 a b ∨ a = 258
theorem sd_7 (h : Fr Sm7 M M') : Fr SMd M M' := fr_mono h (fun a b hh => Or.inl hh)
theorem sd_l (h : Fr SMd M M') : Fr SMl M M' := fr_mono h (fun a b hh => hh.elim Or.inl (fun e => Or.inr (Or.inl e)))
theorem rw_7 (h : RW M s F r) (hF : Fr Sm7 M M') : RW M' s F r := by
  have g : ∀ x, M'.1 258 x = M.1 258 x := fun x => hF.2 258 x (by unfold Sm7 S56; omega)
  unfold RW
  rw [g, g]
  exact ⟨h.1, h.2.1, fun h0 x hx => by rw [g]; exact h.2.2 h0 x hx⟩
theorem mcl_ok {a b u : Nat} (h : a ≤ u ∧ u ≤ b) : mcl a b u = u := if_pos h
theorem m_dJ34 (hT : TX k n) (hw : w < 5) (hW : W4 M k n i 0 F) (hP : PF F (tA k (i + 1))) {y0 : Int32} (hy : (y0 = 0 ∧ ¬ F.1 = 0) ∨ (y0 = 1 ∧ ∃ c, M.1 258 0 = nI c ∧ c < 8 ∧ (F.1 = 0 → r 0 = c))) (hR : RW M 0 F r) : ∃ M', f_X12_deskLine_J34 M 255 (nI w) y0 = some M' ∧ Fr SMd M M' ∧ W4 M' k n i 4 (fl k i w F 4) ∧ (nums k i 4 → RW M' 0 (fl k i w F 4) (pst w (lv k i) r)) := by
  have hlo : lo w 0 = 0 ∧ lo w 1 = 1 ∧ lo w 2 = 0 ∧ lo w 3 = 0 ∧ hi w 0 = 30 ∧ hi w 1 = 12 ∧ hi w 2 = 20 ∧ hi w 3 = 10 := by
    unfold lo hi; simp [hw]
  obtain ⟨q1, q2, q3, q4, q5, q6, q7, q8⟩ := hlo
  have f1 := fl_mn (k := k) (i := i) (w := w) (F := F) (j := 0) (by omega)
  have f2 := fl_mn (k := k) (i := i) (w := w) (F := F) (j := 1) (by omega)
  have f3 := fl_mn (k := k) (i := i) (w := w) (F := F) (j := 2) (by omega)
  have f4 := fl_mn (k := k) (i := i) (w := w) (F := F) (j := 3) (by omega)
  rw [q1, q5] at f1
  rw [q2, q6] at f2
  rw [q3, q7] at f3
  rw [q4, q8] at f4
  have pf := pf_fl (w := w) hT hP
  obtain ⟨y1, M1, a1, b1, c1, d1, e1⟩ := m_numj hW (fun hh => pf 0 hh) (a := 0) (b := 30) (by omega) (by omega)
  have e1 : W4 M1 k n i 1 (fl k i w F 1) := by rw [f1]; exact e1
  obtain ⟨y2, M2, a2, b2, c2, d2, e2⟩ := m_numj e1 (fun hh => pf 1 hh) (a := 1) (b := 12) (by omega) (by omega)
  have e2 : W4 M2 k n i 2 (fl k i w F 2) := by rw [f2]; exact e2
  obtain ⟨y3, M3, a3, b3, c3, d3, e3⟩ := m_numj e2 (fun hh => pf 2 hh) (a := 0) (b := 20) (by omega) (by omega)
  have e3 : W4 M3 k n i 3 (fl k i w F 3) := by rw [f3]; exact e3
  obtain ⟨y4, M4, a4, b4, c4, d4, e4⟩ := m_numj e3 (fun hh => pf 3 hh) (a := 0) (b := 10) (by omega) (by omega)
  have e4 : W4 M4 k n i 4 (fl k i w F 4) := by rw [f4]; exact e4
  have a1 : f_X12_numbered M 255 0 30 = some (nI y1, M1) := a1
  have a2 : f_X12_numbered M1 255 1 12 = some (nI y2, M2) := a2
  have a3 : f_X12_numbered M2 255 0 20 = some (nI y3, M3) := a3
  have a4 : f_X12_numbered M3 255 0 10 = some (nI y4, M4) := a4
  have fr4 : Fr Sm7 M M4 := fr_trans (fr_trans (fr_trans b1 b2) b3) b4
  have hS4 := w4_sk e4
  unfold f_X12_deskLine_J34
  rw [ob_at (m_shp (w4_sk hW)), bb_some, a1, bb_some, ob_at (m_shp (w4_sk e1)), bb_some, a2, bb_some, ob_at (m_shp (w4_sk e2)), bb_some, a3, bb_some, ob_at (m_shp (w4_sk e3)), bb_some, a4, bb_some]
  rcases hy with ⟨hy, hF0⟩ | ⟨hy, c, hc, hc8, hcr⟩
  · subst hy
    rw [if_pos rfl]
    have hnz : ¬ (fl k i w F 4).1 = 0 := fun hh => hF0 (fl_0 _ hh)
    have hR4 := rw_7 hR fr4
    exact ⟨M4, rfl, sd_7 fr4, e4, fun _ => ⟨hR4.1, hR4.2.1, fun hh => absurd hh hnz⟩⟩
  · subst hy
    rw [if_neg (by decide)]
    have hc4 : M4.1 258 0 = nI c := by rw [fr4.2 258 0 (by unfold Sm7 S56; omega)]; exact hc
    have x0 : (5 : Int32) + 5 * nI c = nI (5 + 5 * c) := by
      show nI 5 + nI 5 * nI c = _
      rw [pk_mul, nI_add]
    have x1 : nI (5 + 5 * c) + 1 = nI (6 + 5 * c) := by rw [nI_1]; congr 1; omega
    have x2 : nI (5 + 5 * c) + 2 = nI (7 + 5 * c) := by show nI (5 + 5 * c) + nI 2 = _; rw [nI_add]; congr 1; omega
    have x3 : nI (5 + 5 * c) + 3 = nI (8 + 5 * c) := by show nI (5 + 5 * c) + nI 3 = _; rw [nI_add]; congr 1; omega
    have x4 : nI (5 + 5 * c) + 4 = nI (9 + 5 * c) := by show nI (5 + 5 * c) + nI 4 = _; rw [nI_add]; congr 1; omega
    have gA : ∀ {N : Mem}, Sk N → aI N 0 258 0 = some (N.1 258 0) := fun h => rwG h (x := 0) (by omega)
    have pA : ∀ {N : Mem} (v : Int32), Sk N → sI N 0 258 0 v = some (wI N 258 0 v) := fun v h => rwS h (x := 0) (by omega) v
    have pB : ∀ {N : Mem} (j : Nat) (v : Int32), Sk N → j < 10 → sI N 0 258 (nI (j + 5 * c)) v = some (wI N 258 (j + 5 * c) v) := fun j v h hj => rwS h (by omega) v
    have hfd : Fr (fun a _ => a = 258) M4 (wI (wI (wI (wI (wI (wI M4 258 (5 + 5 * c) (nI w)) 258 (6 + 5 * c) (nI y1)) 258 (7 + 5 * c) (nI y2)) 258 (8 + 5 * c) (nI y3)) 258 (9 + 5 * c) (nI y4)) 258 0 (nI (c + 1))) := fr_put (fr_put (fr_put (fr_put (fr_put (fr_wI rfl) rfl) rfl) rfl) rfl) rfl
    have hfr := fr_mono (S' := fun a b => a = 258 ∨ (a = 255 ∧ b = 9)) hfd (fun a b hh => Or.inl hh)
    refine ⟨wI (wI (wI (wI (wI (wI M4 258 (5 + 5 * c) (nI w)) 258 (6 + 5 * c) (nI y1)) 258 (7 + 5 * c) (nI y2)) 258 (8 + 5 * c) (nI y3)) 258 (9 + 5 * c) (nI y4)) 258 0 (nI (c + 1)), ?_, fr_trans (sd_7 fr4) (fr_mono hfd (fun a b hh => Or.inr hh)), w4_258 e4 hfr, ?_⟩
    · simp only [m_r10, gA, pA, pB, sk_wI, hS4, bb_some, hc4, x0, x1, x2, x3, x4, show (5 : Nat) < 10 by omega, show (6 : Nat) < 10 by omega, show (7 : Nat) < 10 by omega, show (8 : Nat) < 10 by omega, show (9 : Nat) < 10 by omega]
      simp only [wI_rd]
      rw [if_neg (by omega), if_neg (by omega), if_neg (by omega), if_neg (by omega), if_neg (by omega), hc4, nI_1]
    · intro hn4
      have hR4 := rw_7 hR fr4
      refine ⟨⟨c + 1, wI_same _ _ _ _, by simp; omega⟩, fun e => ?_, fun hh x hx => ?_⟩
      · obtain ⟨c', g1, g2⟩ := hR4.2.1 e
        exact ⟨c', by simp only [wI_rd]; rw [if_neg (by omega), if_neg (by omega), if_neg (by omega), if_neg (by omega), if_neg (by omega), if_neg (by omega)]; exact g1, g2⟩
      · have h0 := fl_0 _ hh
        have hrc := hcr h0
        have hok := fl_ok 4 hh
        have v1 : y1 = lv k i 0 := (d1 (fun q hq => hn4 q (by omega))).trans (mcl_ok (by have := hok 0 (by omega); unfold okn at this; rw [q1, q5] at this; exact ⟨this.1, this.2.1⟩))
        have v2 : y2 = lv k i 1 := (d2 (fun q hq => hn4 q (by omega))).trans (mcl_ok (by have := hok 1 (by omega); unfold okn at this; rw [q2, q6] at this; exact ⟨this.1, this.2.1⟩))
        have v3 : y3 = lv k i 2 := (d3 (fun q hq => hn4 q (by omega))).trans (mcl_ok (by have := hok 2 (by omega); unfold okn at this; rw [q3, q7] at this; exact ⟨this.1, this.2.1⟩))
        have v4 : y4 = lv k i 3 := (d4 (fun q hq => hn4 q (by omega))).trans (mcl_ok (by have := hok 3 (by omega); unfold okn at this; rw [q4, q8] at this; exact ⟨this.1, this.2.1⟩))
        subst hrc
        rw [pd_x hw]
        simp only [wI_rd, true_and]
        rw [v1, v2, v3, v4]
        by_cases g0 : x = 0
        · rw [if_pos g0, if_pos g0]
        rw [if_neg g0, if_neg g0]
        by_cases g9 : x = 9 + 5 * r 0
        · rw [if_pos g9, if_neg (by omega), if_neg (by omega), if_neg (by omega), if_neg (by omega), if_pos g9]
        rw [if_neg g9]
        by_cases g8 : x = 8 + 5 * r 0
        · rw [if_pos g8, if_neg (by omega), if_neg (by omega), if_neg (by omega), if_pos g8]
        rw [if_neg g8]
        by_cases g7 : x = 7 + 5 * r 0
        · rw [if_pos g7, if_neg (by omega), if_neg (by omega), if_pos g7]
        rw [if_neg g7]
        by_cases g6 : x = 6 + 5 * r 0
        · rw [if_pos g6, if_neg (by omega), if_pos g6]
        rw [if_neg g6]
        by_cases g5 : x = 5 + 5 * r 0
        · rw [if_pos g5, if_pos g5]
        rw [if_neg g5, if_neg g5, if_neg g6, if_neg g7, if_neg g8, if_neg g9]
        exact hR4.2.2 h0 x hx
/-- a number alone: the ear, the machine, the fade -/
theorem m_one (hT : TX k n) (hw : 6 ≤ w ∧ w < 9) (hW : W4 M k n i 0 F) (hP : PF F (tA k (i + 1))) (hR : RW M 0 F r) : ∃ y M1, f_X12_numbered M 255 0 (nI (hi w 0)) = some (nI y, M1) ∧ Sk M1 ∧ Fr SMd M (wI M1 258 (w - 4) (nI y)) ∧ W4 (wI M1 258 (w - 4) (nI y)) k n i 1 (fl k i w F 1) ∧ (nums k i 1 → RW (wI M1 258 (w - 4) (nI y)) 0 (fl k i w F 1) (pst w (lv k i) r)) := by
  have q1 : lo w 0 = 0 := by unfold lo; rw [if_neg (by omega), if_neg (by omega)]
  have hh := hi_le w 0
  have f1 := fl_mn (k := k) (i := i) (w := w) (F := F) (j := 0) (by omega)
  rw [q1] at f1
  obtain ⟨y1, M1, a1, b1, c1, d1, e1⟩ := m_numj hW (fun h0 => pf_fl (w := w) hT hP 0 h0) (a := 0) (b := hi w 0) (by omega) hh.2
  have e1 : W4 M1 k n i 1 (fl k i w F 1) := by rw [f1]; exact e1
  have hfd : Fr (fun a _ => a = 258) M1 (wI M1 258 (w - 4) (nI y1)) := fr_wI rfl
  have hfr := fr_mono (S' := fun a b => a = 258 ∨ (a = 255 ∧ b = 9)) hfd (fun a b hh => Or.inl hh)
  refine ⟨y1, M1, a1, w4_sk e1, fr_trans (sd_7 b1) (fr_mono hfd (fun a b hh => Or.inr hh)), w4_258 e1 hfr, fun hn1 => ?_⟩
  have hR1 := rw_7 hR b1
  refine ⟨?_, fun e => ?_, fun h1 x hx => ?_⟩
  · obtain ⟨c, g1, g2⟩ := hR1.1
    exact ⟨c, by rw [wI_rd, if_neg (by omega)]; exact g1, g2⟩
  · obtain ⟨c, g1, g2⟩ := hR1.2.1 e
    exact ⟨c, by rw [wI_rd, if_neg (by omega)]; exact g1, g2⟩
  · have hok := fl_ok 1 h1 0 (by omega)
    have v1 : y1 = lv k i 0 := (d1 hn1).trans (mcl_ok (by unfold okn at hok; rw [q1] at hok; exact ⟨hok.1, hok.2.1⟩))
    rw [wI_rd, po_x hw, v1]
    by_cases e : x = w - 4
    · rw [if_pos ⟨rfl, e⟩, if_pos e]
    · rw [if_neg (by omega), if_neg e]; exact hR1.2.2 (fl_0 _ h1) x hx
/-- the farthest desk that a call names, plus one -/
def FD (M : Mem) (F : Nat × Int32) (r : Nat → Nat) : Prop := ∃ m, M.1 255 9 = nI m - 1 ∧ m ≤ 8 ∧ (F.1 = 0 → (∀ c, c < r 1 → r (45 + 3 * c) < m) ∧ (m = 0 ∨ ∃ c, c < r 1 ∧ r (45 + 3 * c) + 1 = m))
end
