/-! stop, state -/
theorem qod {α : Type} {M : Mem} (hI : Inv M) (a1 a2 : Int32) {fC : Option (α × Mem)} {fM : Mem → Option (α × Mem)} {bad : α}
    (hn1 : ∀ q, f_X9_officeAt M 2 a1 = some 0 → f_X9_dayAt M 2 a2 = some q → f_X12_isOffice M 255 a1 = some (0, M) → fC = some (bad, M) ∧ fM M = some (bad, M))
    (hn2 : ∀ o M2, o ≠ 0 → f_X9_officeAt M 2 a1 = some o → f_X9_dayAt M 2 a2 = some 0 → f_X12_isOffice M 255 a1 = some (1, M2) → Sk M2 → f_X12_isDay M2 255 a2 = some (0, M2) → fC = some (bad, M) ∧ fM M = some (bad, M2))
    (hs : ∀ o a q dy, o ≠ 0 → q ≠ 0 → OkO a → OkD dy → f_X9_officeAt M 2 a1 = some o → f_X9_dayAt M 2 a2 = some q → CO M o a → CD M q dy → ∃ r M1, fC = some (r, M1) ∧ Qf M M1 ∧ ∀ M2 M3, f_X12_isOffice M1 255 a1 = some (1, M2) → Sk M2 → f_X12_isDay M2 255 a2 = some (1, M3) → MO M3 a → MD M3 dy → ∃ M4, fM M1 = some (r, M4) ∧ Qf M3 M4) :
    ∃ (r : α) (M1 M2 : Mem), fC = some (r, M1) ∧ shp M1 255 = some (.inl 12) ∧ fM M1 = some (r, M2) ∧ Inv M2 := by
  rcases ofs hI a1 with ⟨e1, e2⟩ | ⟨o, a, ho, hor, hO, e1, hC, e2⟩
  · obtain ⟨q, hq⟩ : ∃ q, f_X9_dayAt M 2 a2 = some q := by
      rcases dys hI a2 with ⟨d1, _⟩ | ⟨q, _, _, _, d1, _⟩
      · exact ⟨0, d1⟩
      · exact ⟨q, d1⟩
    obtain ⟨h1, h2⟩ := hn1 q e1 hq (e2 M qf_refl)
    exact ⟨bad, M, M, h1, m_shp hI.1, h2, hI⟩
  · rcases dys hI a2 with ⟨d1, d2⟩ | ⟨q, dy, hq0, hDy, d1, hD, d2⟩
    · obtain ⟨M2, e3, hF, hM⟩ := e2 M qf_refl
      obtain ⟨h1, h2⟩ := hn2 o M2 ho e1 d1 e3 hM.1 (d2 M2 (iof_q hF))
      exact ⟨bad, M, M2, h1, m_shp hI.1, h2, inv_q hI (iof_q hF)⟩
    · obtain ⟨r, M1, h1, hq, h2⟩ := hs o a q dy ho hq0 hO hDy e1 d1 hC hD
      obtain ⟨M2, e3, hF, hM⟩ := e2 M1 hq
      obtain ⟨M3, e4, hF3, hD3⟩ := d2 M2 (qf_trans hq (iof_q hF))
      have hM3 : MO M3 a := mo_fr hM hF3 (fun n k hh => by omega)
      obtain ⟨M4, h3, h4⟩ := h2 M2 M3 e3 hM.1 e4 hM3 hD3
      exact ⟨r, M1, M4, h1, m_shp (hq.1 hI.1), h3, inv_q hI (qf_trans hq (qf_trans (iof_q hF) (qf_trans (idf_q hF3) h4)))⟩
def fl68 : flO 68 := Or.inl rfl
theorem call_stop {M : Mem} (hI : Inv M) (a1 a2 : Int32)  : ∃ (r : Int32) (M1 M2 : Mem), f_X11_stop M 1 a1 a2 = some (r, M1) ∧ shp M1 255 = some (.inl 12) ∧ f_X12_stop M1 255 a1 a2 = some (r, M2) ∧ Inv M2 := by
  have hS := hI.1
  refine qod hI a1 a2 (fC := f_X11_stop M 1 a1 a2) (fM := fun M => f_X12_stop M 255 a1 a2) (bad := -1) (fun q e1 d1 e2 => ⟨by simp [f_X11_stop, d_r0 hS, t_ob hS, e1, d1], by simp [f_X12_stop, ob_at (m_shp hS), e2]⟩) (fun o M2 ho e1 d1 e2 hS2 d2 => ⟨by simp [f_X11_stop, d_r0 hS, t_ob hS, e1, d1], by simp [f_X12_stop, ob_at (m_shp hS), e2, ob_at (m_shp hS2), d2]⟩) (fun o a q dy ho hq hO hDy e1 d1 hC hD => ?_)
  obtain ⟨M1, e, hF, hg⟩ := c_play hC hO hD hDy fl68 (show 40 < 2 ^ 31 by omega)
  have hS1 := hg.1 hS
  have e : f_X2_playDay M 68 o q 40 = some (_, M1) := e
  refine ⟨nI (plr a dy (min 40 (dy 0))).2.1, M1, ?_, sfg_q fl68 hg, fun M2 M3 e3 hS2 e4 hM hMD => ?_⟩
  · unfold f_X11_stop
    rw [d_r0 hS, bb_some, t_ob hS, bb_some, e1, bb_some, bb_some, t_ob hS, bb_some, d1, bb_some, if_neg ho, if_neg hq, d_r5 hS, bb_some, ob_at (fl_shp hS fl68).1, bb_some, e, bb_some]
  · obtain ⟨B, eB, hB, b27, fB⟩ := mo_runs hM hO hMD hDy (show 40 < 2 ^ 31 by omega)
    have eB : f_X12_runs M3 255 40 = some B := eB
    refine ⟨B, ?_, sb_q fB⟩
    show f_X12_stop M1 255 a1 a2 = _
    unfold f_X12_stop
    rw [ob_at (m_shp hS1), bb_some, e3, bb_some]
    show (if (1 : Int32) = 0 then _ else (ob M2 12 255).bind fun _ => (f_X12_isDay M2 255 a2).bind fun z3 => _) = _
    rw [if_neg (by decide), ob_at (m_shp hS2), bb_some, e4, bb_some]
    show (if (1 : Int32) = 0 then _ else (ob M3 12 255).bind fun _ => (f_X12_runs M3 255 40).bind fun z5 => (gI z5 12 255 27).bind fun v6 => some (v6, z5)) = _
    rw [if_neg (by decide), mo_ob hM, bb_some, eB, bb_some, gI_at (m_shp hB.1.1.1), bb_some, b27]
/-- what is told of the state -/
def tk (k : Nat) : Nat := if k = 0 then 4 else if k = 1 then 0 else if k = 2 then 5 else if k = 3 then 6 else if k = 4 then 1 else if k = 5 then 2 else 7
def tl (a u : Nat → Nat) (k : Nat) : Int32 := if k < 7 then nI (u (tk k)) else if 10 ≤ k ∧ k < 40 ∧ k % 10 < a 0 then nI (u k) else -2
theorem c_tellS {M : Mem} {f o k : Nat} {a u : Nat → Nat} (hC : CO M o a) (hO : OkO a) (hF : FC M f o u) (hk : k < 2 ^ 31) : f_X2_tell M f (nI k) = some (tl a u k) := by
  have h8 := hO.1.1
  by_cases h7 : k < 7
  · unfold tl
    rw [if_pos h7]
    have g : ∀ j, j < 8 → j ≠ 3 → gI M 2 f j = some (nI (u j)) := fun j h1 h2 => fc_g hF h1 h2
    rcases (show k = 0 ∨ k = 1 ∨ k = 2 ∨ k = 3 ∨ k = 4 ∨ k = 5 ∨ k = 6 by omega) with rfl | rfl | rfl | rfl | rfl | rfl | rfl
    · show f_X2_tell M f 0 = _; simp [f_X2_tell, g 4, tk]
    · show f_X2_tell M f 1 = _; simp [f_X2_tell, g 0, tk]
    · show f_X2_tell M f 2 = _; simp [f_X2_tell, g 5, tk]
    · show f_X2_tell M f 3 = _; simp [f_X2_tell, g 6, tk]
    · show f_X2_tell M f 4 = _; simp [f_X2_tell, g 1, tk]
    · show f_X2_tell M f 5 = _; simp [f_X2_tell, g 2, tk]
    · show f_X2_tell M f 6 = _; simp [f_X2_tell, g 7, tk]
  · have z0 : ¬ nI k = 0 := nI_nq (k := 0) hk (by omega) (by omega)
    have z1 : ¬ nI k = 1 := nI_nq (k := 1) hk (by omega) (by omega)
    have z2 : ¬ nI k = 2 := nI_nq (k := 2) hk (by omega) (by omega)
    have z3 : ¬ nI k = 3 := nI_nq (k := 3) hk (by omega) (by omega)
    have z4 : ¬ nI k = 4 := nI_nq (k := 4) hk (by omega) (by omega)
    have z5 : ¬ nI k = 5 := nI_nq (k := 5) hk (by omega) (by omega)
    have z6 : ¬ nI k = 6 := nI_nq (k := 6) hk (by omega) (by omega)
    unfold f_X2_tell tl
    rw [if_neg z0, if_neg z1, if_neg z2, if_neg z3, if_neg z4, if_neg z5, if_neg z6, if_neg h7]
    by_cases h10 : k < 10
    · rw [if_neg (show ¬ 10 ≤ nI k from nI_ge (b := 10) h10 (by omega)), if_neg (by omega)]
    · rw [if_pos (show 10 ≤ nI k from nI_le (a := 10) (by omega) hk), dv10 hk, bb_some, rm10 hk, bb_some, fc_ob hF, bb_some]
      unfold f_X2_tellDesk
      rw [fc_o hF, bb_some, ob_at (co_shp hC), bb_some]
      by_cases hd : k % 10 < a 0
      · rw [c_hasDesk hC hO hd, bb_some, if_neg (by decide)]
        have n1 : nI (k / 10) = 1 ↔ k / 10 = 1 := nI_eq (b := 1) (by omega) (by omega)
        have n2 : nI (k / 10) = 2 ↔ k / 10 = 2 := nI_eq (b := 2) (by omega) (by omega)
        have n3 : nI (k / 10) = 3 ↔ k / 10 = 3 := nI_eq (b := 3) (by omega) (by omega)
        by_cases e1 : k / 10 = 1
        · rw [if_pos (n1.mpr e1), fc_9 hF, bb_some, fc_h hF (by omega), bb_some, if_pos (by omega), show 10 + k % 10 = k by omega, bb_some]
        · rw [if_neg (fun h => e1 (n1.mp h))]
          by_cases e2 : k / 10 = 2
          · rw [if_pos (n2.mpr e2), fc_10 hF, bb_some, fc_s hF (by omega), bb_some, if_pos (by omega), show 20 + k % 10 = k by omega, bb_some]
          · rw [if_neg (fun h => e2 (n2.mp h))]
            by_cases e3 : k / 10 = 3
            · rw [if_pos (n3.mpr e3), fc_11 hF, bb_some, fc_d hF (by omega), bb_some, if_pos (by omega), show 30 + k % 10 = k by omega, bb_some]
            · rw [if_neg (fun h => e3 (n3.mp h)), if_neg (by omega), bb_some]
      · rw [c_noDesk hC (Or.inr (nI_le (by omega) (by omega))), bb_some, if_pos rfl, if_neg (by omega), bb_some]
theorem mo_now {M : Mem} {k : Nat} {a u : Nat → Nat} (h : MF M a u) (hO : OkO a) (hk : k < 2 ^ 31) : f_X12_nowOf M 255 (nI k) = some (tl a u k) := by
  have h8 := hO.1.1
  have hM := h.1.1
  by_cases h7 : k < 7
  · unfold tl
    rw [if_pos h7]
    have g0 : gI M 12 255 20 = some (nI (u 4)) := mf_g h (k := 4) (by omega) (by omega)
    have g1 : gI M 12 255 21 = some (nI (u 0)) := mf_g h (k := 0) (by omega) (by omega)
    have g2 : gI M 12 255 22 = some (nI (u 5)) := mf_g h (k := 5) (by omega) (by omega)
    have g3 : gI M 12 255 23 = some (nI (u 6)) := mf_g h (k := 6) (by omega) (by omega)
    have g4 : gI M 12 255 24 = some (nI (u 1)) := mf_g h (k := 1) (by omega) (by omega)
    have g5 : gI M 12 255 25 = some (nI (u 2)) := mf_g h (k := 2) (by omega) (by omega)
    have g6 : gI M 12 255 26 = some (nI (u 7)) := mf_g h (k := 7) (by omega) (by omega)
    rcases (show k = 0 ∨ k = 1 ∨ k = 2 ∨ k = 3 ∨ k = 4 ∨ k = 5 ∨ k = 6 by omega) with rfl | rfl | rfl | rfl | rfl | rfl | rfl
    · show f_X12_nowOf M 255 0 = _; simp [f_X12_nowOf, g0, tk]
    · show f_X12_nowOf M 255 1 = _; simp [f_X12_nowOf, g1, tk]
    · show f_X12_nowOf M 255 2 = _; simp [f_X12_nowOf, g2, tk]
    · show f_X12_nowOf M 255 3 = _; simp [f_X12_nowOf, g3, tk]
    · show f_X12_nowOf M 255 4 = _; simp [f_X12_nowOf, g4, tk]
    · show f_X12_nowOf M 255 5 = _; simp [f_X12_nowOf, g5, tk]
    · show f_X12_nowOf M 255 6 = _; simp [f_X12_nowOf, g6, tk]
  · have z0 : ¬ nI k = 0 := nI_nq (k := 0) hk (by omega) (by omega)
    have z1 : ¬ nI k = 1 := nI_nq (k := 1) hk (by omega) (by omega)
    have z2 : ¬ nI k = 2 := nI_nq (k := 2) hk (by omega) (by omega)
    have z3 : ¬ nI k = 3 := nI_nq (k := 3) hk (by omega) (by omega)
    have z4 : ¬ nI k = 4 := nI_nq (k := 4) hk (by omega) (by omega)
    have z5 : ¬ nI k = 5 := nI_nq (k := 5) hk (by omega) (by omega)
    have z6 : ¬ nI k = 6 := nI_nq (k := 6) hk (by omega) (by omega)
    have i1 := ii_n M (x := k) (l := 10) (u := 39) (L := 10) (U := 39) rfl rfl hk (by omega) (by omega)
    unfold f_X12_nowOf tl
    rw [if_neg z0, if_neg z1, if_neg z2, if_neg z3, if_neg z4, if_neg z5, if_neg z6, if_neg h7, rm10 hk, bb_some, i1, bb_some]
    by_cases h10 : 10 ≤ k ∧ k ≤ 39
    · rw [if_pos h10, if_neg (by decide), mo_ob hM, bb_some]
      by_cases hd : k % 10 < a 0
      · rw [mo_isDesk hM hO hd, bb_some, if_neg (by decide), if_pos (show 10 ≤ k ∧ k < 40 ∧ k % 10 < a 0 by omega)]
        have n2 : 20 ≤ nI k ↔ 20 ≤ k := nI_leI (a := 20) (by omega) hk
        have n3 : 30 ≤ nI k ↔ 30 ≤ k := nI_leI (a := 30) (by omega) hk
        by_cases e2 : 20 ≤ k
        · rw [if_pos (n2.mpr e2)]
          by_cases e3 : 30 ≤ k
          · rw [if_pos (n3.mpr e3), m_r29 hM.1, bb_some, mf_d h (by omega), bb_some, show 30 + k % 10 = k by omega]
          · rw [if_neg (fun h => e3 (n3.mp h)), m_r28 hM.1, bb_some, mf_s h (by omega), bb_some, show 20 + k % 10 = k by omega]
        · rw [if_neg (fun h => e2 (n2.mp h)), m_r14 hM.1, bb_some, mr_h h.1 hO hd, bb_some, show 10 + k % 10 = k by omega]
      · rw [mo_noDesk hM hO (Or.inr (nI_le (by omega) (by omega))), bb_some, if_pos rfl, if_neg (by omega)]
    · rw [if_neg h10, if_pos rfl, if_neg (by omega)]
theorem tell_neg {M : Mem} {f : Nat} {x : Int32} (hx : x < 0) : f_X2_tell M f x = some (-2) := by
  have z0 : ¬ x = 0 := neg_nq hx (k := 0) (by omega)
  have z1 : ¬ x = 1 := neg_nq hx (k := 1) (by omega)
  have z2 : ¬ x = 2 := neg_nq hx (k := 2) (by omega)
  have z3 : ¬ x = 3 := neg_nq hx (k := 3) (by omega)
  have z4 : ¬ x = 4 := neg_nq hx (k := 4) (by omega)
  have z5 : ¬ x = 5 := neg_nq hx (k := 5) (by omega)
  have z6 : ¬ x = 6 := neg_nq hx (k := 6) (by omega)
  have z7 : ¬ 10 ≤ x := neg_nle hx (k := 10) (by omega)
  unfold f_X2_tell
  rw [if_neg z0, if_neg z1, if_neg z2, if_neg z3, if_neg z4, if_neg z5, if_neg z6, if_neg z7]
theorem nneg {x : Int32} : ¬ 0 ≤ x ↔ x < 0 := by
  rw [Int32.le_iff_toInt_le, Int32.lt_iff_toInt_lt]
  omega
theorem call_state {M : Mem} (hI : Inv M) (a1 a2 a3 a4 : Int32)  : ∃ (r : Int32) (M1 M2 : Mem), f_X11_state M 1 a1 a2 a3 a4 = some (r, M1) ∧ shp M1 255 = some (.inl 12) ∧ f_X12_state M1 255 a1 a2 a3 a4 = some (r, M2) ∧ Inv M2 := by
  have hS := hI.1
  refine qod hI a1 a2 (fC := f_X11_state M 1 a1 a2 a3 a4) (fM := fun M => f_X12_state M 255 a1 a2 a3 a4) (bad := -2) (fun q e1 d1 e2 => ⟨by simp [f_X11_state, d_r0 hS, t_ob hS, e1, d1], by simp [f_X12_state, ob_at (m_shp hS), e2]⟩) (fun o M2 ho e1 d1 e2 hS2 d2 => ⟨by simp [f_X11_state, d_r0 hS, t_ob hS, e1, d1], by simp [f_X12_state, ob_at (m_shp hS), e2, ob_at (m_shp hS2), d2]⟩) (fun o a q dy ho hq hO hDy e1 d1 hC hD => ?_)
  have mh : ∀ M1 M2 M3, Sk M1 → f_X12_isOffice M1 255 a1 = some (1, M2) → Sk M2 → f_X12_isDay M2 255 a2 = some (1, M3) → f_X12_state M1 255 a1 a2 a3 a4 = (if a3 < 0 then some (-2, M3) else if 0 ≤ a4 then (ob M3 12 255).bind fun _ => (f_X12_runs M3 255 a3).bind fun z7 => (gI z7 12 255 27).bind fun v8 => (if v8 = a3 then (ob z7 12 255).bind fun _ => (f_X12_nowOf z7 255 a4).bind fun v10 => some (v10, z7) else some (-2, z7)) else some (-2, M3)) := fun M1 M2 M3 hS1 e3 hS2 e4 => by
    unfold f_X12_state
    rw [ob_at (m_shp hS1), bb_some, e3, bb_some]
    show (if (1 : Int32) = 0 then _ else (ob M2 12 255).bind fun _ => (f_X12_isDay M2 255 a2).bind fun z3 => _) = _
    rw [if_neg (by decide), ob_at (m_shp hS2), bb_some, e4, bb_some]
    rfl
  have ch : f_X11_state M 1 a1 a2 a3 a4 = (if 0 ≤ a3 then (f_X2_playDay M 68 o q a3).bind fun z9 => (if a3 ≤ z9.1 then (gR z9.2 11 1 5).bind fun v11 => (ob z9.2 2 v11).bind fun _ => (f_X2_tell z9.2 v11 a4).bind fun v12 => some (v12, z9.2) else some (-2, z9.2)) else some (-2, M)) := by
    unfold f_X11_state
    rw [d_r0 hS, bb_some, t_ob hS, bb_some, e1, bb_some, bb_some, t_ob hS, bb_some, d1, bb_some, if_neg ho, if_neg hq, d_r5 hS, bb_some, ob_at (fl_shp hS fl68).1, bb_some]
  by_cases hneg : a3 < 0
  · refine ⟨-2, M, by rw [ch, if_neg (nneg.mpr hneg)], qf_refl, fun M2 M3 e3 hS2 e4 hM hMD => ⟨M3, ?_, qf_refl⟩⟩
    show f_X12_state M 255 a1 a2 a3 a4 = _
    rw [mh M M2 M3 hS e3 hS2 e4, if_pos hneg]
  · have hpos : 0 ≤ a3 := by
      apply Classical.byContradiction
      intro h
      exact hneg (nneg.mp h)
    obtain ⟨k, hk, rfl⟩ := nI_of hneg
    obtain ⟨M1, e, hF, hg⟩ := c_play hC hO hD hDy fl68 hk
    have hS1 := hg.1 hS
    have h40 := hDy.1
    obtain ⟨ok1, ok2, ok3⟩ := plr_ok (dy := dy) hO (min k (dy 0)) (by have := Nat.min_le_right k (dy 0); omega)
    have hrl : (plr a dy (min k (dy 0))).2.1 ≤ min k (dy 0) := ok2
    have hmk := Nat.min_le_left k (dy 0)
    have hmd := Nat.min_le_right k (dy 0)
    generalize hR : plr a dy (min k (dy 0)) = R at *
    have le : nI k ≤ nI R.2.1 ↔ R.2.1 = k := by rw [nI_leI hk (by omega)]; omega
    have ee : nI R.2.1 = nI k ↔ R.2.1 = k := nI_eq (by omega) hk
    refine ⟨if R.2.1 = k then (if 0 ≤ a4 then tl a R.2.2 a4.toNatClampNeg else -2) else -2, M1, ?_, sfg_q fl68 hg, fun M2 M3 e3 hS2 e4 hM hMD => ?_⟩
    · rw [ch, if_pos hpos, e, bb_some]
      show (if nI k ≤ nI R.2.1 then (gR M1 11 1 5).bind fun v11 => (ob M1 2 v11).bind fun _ => (f_X2_tell M1 v11 a4).bind fun v12 => some (v12, M1) else some (-2, M1)) = _
      by_cases h : R.2.1 = k
      · rw [if_pos (le.mpr h), if_pos h, d_r5 hS1, bb_some, fc_ob hF, bb_some]
        by_cases h4 : a4 < 0
        · rw [if_neg (nneg.mpr h4), tell_neg h4, bb_some]
        · obtain ⟨j, hj, rfl⟩ := nI_of h4
          rw [if_pos (nI_pos' hj), c_tellS (sf_cg fl68 hC hg) hO hF hj, bb_some, nI_clamp hj]
      · rw [if_neg (fun hh => h (le.mp hh)), if_neg h]
    · show ∃ M4, f_X12_state M1 255 a1 a2 (nI k) a4 = _ ∧ _
      rw [mh M1 M2 M3 hS1 e3 hS2 e4, if_neg hneg]
      by_cases h4 : a4 < 0
      · rw [if_neg (nneg.mpr h4), if_neg (nneg.mpr h4)]
        exact ⟨M3, by split <;> rfl, qf_refl⟩
      · obtain ⟨j, hj, rfl⟩ := nI_of h4
        obtain ⟨B, eB, hB, b27, fB⟩ := mo_runs hM hO hMD hDy hk
        rw [hR] at hB b27
        refine ⟨B, ?_, sb_q fB⟩
        rw [if_pos (nI_pos' hj), if_pos (nI_pos' hj), mo_ob hM, bb_some, eB, bb_some, gI_at (m_shp hB.1.1.1), bb_some, b27, nI_clamp hj]
        by_cases h : R.2.1 = k
        · rw [if_pos (ee.mpr h), if_pos h, mo_ob hB.1.1, bb_some, mo_now hB hO hj, bb_some]
        · rw [if_neg (fun hh => h (ee.mp hh)), if_neg h]
