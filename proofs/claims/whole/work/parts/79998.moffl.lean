section
variable {M M' N : Mem} {k r v : Nat → Nat} {n p i w s c x j : Nat} {F : Nat × Int32}
theorem fd_same (h : FD M F r) (h9 : M'.1 255 9 = M.1 255 9) {F' : Nat × Int32} {r' : Nat → Nat} (hr : F'.1 = 0 → F.1 = 0 ∧ r' 1 = r 1 ∧ ∀ c, c < r 1 → r' (45 + 3 * c) = r (45 + 3 * c)) : FD M' F' r' := by
  obtain ⟨m, h1, h2, h3⟩ := h
  refine ⟨m, by rw [h9]; exact h1, h2, fun h0 => ?_⟩
  obtain ⟨g1, g2, g3⟩ := hr h0
  obtain ⟨u1, u2⟩ := h3 g1
  rw [g2]
  refine ⟨fun c hc => by rw [g3 c hc]; exact u1 c hc, ?_⟩
  rcases u2 with u2 | ⟨c, u2, u3⟩
  · exact Or.inl u2
  · exact Or.inr ⟨c, u2, by rw [g3 c u2]; exact u3⟩
theorem lF_0 (h : (lF k i F r).1 = 0) : F.1 = 0 ∧ ¬ cap (tW k i) ≤ cntw (tW k i) r := by
  unfold lF at h
  have h1 := fl_0 _ h
  by_cases hc : cap (tW k i) ≤ cntw (tW k i) r
  · rw [if_pos hc] at h1; exact absurd h1 (mk_nz (by omega))
  · rw [if_neg hc] at h1; exact ⟨h1, hc⟩
def MLn (M M' : Mem) (k : Nat → Nat) (n s i : Nat) (F : Nat × Int32) (r : Nat → Nat) : Prop := Fr SMl M M' ∧ ((LnG k s i ∧ MtG M' k n (i + 2 + nw (tW k i)) (lF k i F r) ∧ RW M' s (lF k i F r) (lR k i F r) ∧ (s = 0 → FD M' (lF k i F r) (lR k i F r))) ∨ ∃ b, LnB k s i b ∧ MtB M' k n b)
theorem m_fin (hh : hd k s i) {M2 : Mem} (hf : Fr SMl M M2) (hW : W4 M2 k n i (nw (tW k i)) (lF k i F r)) (hR : nums k i (nw (tW k i)) → RW M2 s (lF k i F r) (lR k i F r) ∧ (s = 0 → FD M2 (lF k i F r) (lR k i F r))) : ∃ M', f_X12_endsLine M2 255 = some M' ∧ MLn M M' k n s i F r := by
  obtain ⟨M3, a1, a2, a3⟩ := m_eol hh hW
  refine ⟨M3, a1, fr_trans hf (sm_7 a2), ?_⟩
  rcases a3 with ⟨a3, a4⟩ | ⟨b, a3, a4⟩
  · obtain ⟨g1, g2⟩ := hR a3.2.1
    exact Or.inl ⟨a3, a4, rw_7 g1 a2, fun e => fd_same (g2 e) (a2.2 255 9 (by unfold Sm7 S56; omega)) (fun h0 => ⟨h0, rfl, fun c _ => rfl⟩)⟩
  · exact Or.inr ⟨b, a3, a4⟩
theorem m_bad (hh : ¬ hd k s i) (h : MtB M' k n i) (hf : Fr Sm7 M M') : MLn M M' k n s i F r := ⟨sm_7 hf, Or.inr ⟨i, Or.inl ⟨hh, rfl⟩, h⟩⟩
theorem m_office (hT : TX k n) (h : MtG M k n i F) (hP : PF F (tA k i)) (hR : RW M 0 F r) (hD : FD M F r) (hb : r 0 ≤ 40 ∧ r 1 ≤ 40) : ∃ M', f_X12_officeLine M 255 = some M' ∧ MLn M M' k n 0 i F r := by
  have hS := h.1.1.1
  obtain ⟨z, M1, t1, t2, t3⟩ := m_takes h (s := 0) (by omega)
  have t1 : f_X12_takes M 255 1 9 = some (z, M1) := t1
  unfold f_X12_officeLine
  rw [gI_at (m_shp hS), bb_some, ob_at (m_shp hS), bb_some, t1, bb_some, h.1.2.1]
  rcases t3 with ⟨hh, hz, hG⟩ | ⟨hh, hz, hG⟩
  · have hA := (tA_lt hT (i := i) (by have := hh.1; omega)).1
    have hw9 : tW k i < 9 := hh.2.2
    have hS1 := hG.1.1.1
    have hR1 := rw_7 hR t2
    have hD1 : FD M1 F r := fd_same hD (t2.2 255 9 (by unfold Sm7 S56; omega)) (fun h0 => ⟨h0, rfl, fun c _ => rfl⟩)
    subst hz
    simp only
    have desk : tW k i < 5 → ∃ M', ((ob M1 12 255).bind fun _ => (f_X12_deskLine M1 255 (nI (tA k i)) (nI (tW k i))).bind fun z5 => f_X12_officeLine_J135 z5 255) = some M' ∧ MLn M M' k n 0 i F r := by
      intro hw
      obtain ⟨M2, d1, d2, d3, d4⟩ := m_desk hT hG hP hA hw hR1 hb.1
      have e4 : nw (tW k i) = 4 := if_pos hw
      obtain ⟨M3, g1, g2⟩ := m_fin (M := M) hh (fr_trans (sm_7 t2) (sd_l d2)) (F := F) (r := r) (by rw [e4]; exact d3) (fun hn => ⟨d4 (by rw [e4] at hn; exact hn), fun _ => fd_same hD1 (d2.2 255 9 (by unfold SMd Sm7 S56; omega)) (fun h0 => by
        obtain ⟨u1, u2⟩ := lF_0 h0
        have eC : cap (tW k i) = 8 := if_pos hw
        have eN : cntw (tW k i) r = r 0 := if_neg (by omega)
        have eR : lR k i F r = pst (tW k i) (lv k i) r := if_pos h0
        rw [eR]
        exact ⟨u1, pd_n hw (by omega) (by omega), fun c _ => pd_n hw (by omega) (by omega)⟩)⟩)
      unfold f_X12_officeLine_J135
      rw [ob_at (m_shp hS1), bb_some, d1, bb_some, ob_at (m_shp (w4_sk d3)), bb_some, g1, bb_some]
      exact ⟨M3, rfl, g2⟩
    have one : ∀ (b : Nat), 6 ≤ tW k i → hi (tW k i) 0 = b → ∃ M', ((gR M1 12 255 10).bind fun v17 => (ob M1 12 255).bind fun _ => (f_X12_numbered M1 255 0 (nI b)).bind fun z18 => (sI z18.2 0 v17 (nI (tW k i - 4)) z18.1).bind fun M19 => f_X12_officeLine_J135 M19 255) = some M' ∧ MLn M M' k n 0 i F r := by
      intro b h6 hbb
      subst hbb
      have eN1 : nw (tW k i) = 1 := by unfold nw; rw [if_neg (by omega), if_neg (by omega)]
      have eC : cap (tW k i) = 100 := by unfold cap; rw [if_neg (by omega), if_neg (by omega), if_pos (by omega)]
      have eN : cntw (tW k i) r = r 0 := if_neg (by omega)
      have eF : lF k i F r = fl k i (tW k i) F 1 := by unfold lF; rw [eN1, eC, eN, if_neg (by omega)]
      have eR : lR k i F r = if (fl k i (tW k i) F 1).1 = 0 then pst (tW k i) (lv k i) r else r := by unfold lR; rw [eF]
      obtain ⟨y, M2, d1, d0, d2, d3, d4⟩ := m_one (r := r) hT ⟨h6, hw9⟩ (Or.inl ⟨fun q hq => absurd hq (by omega), hG⟩) (pf_up hP (Nat.le_of_lt hA)) hR1
      obtain ⟨M3, g1, g2⟩ := m_fin (M := M) hh (fr_trans (sm_7 t2) (sd_l d2)) (F := F) (r := r) (by rw [eN1, eF]; exact d3) (fun hn => ⟨by rw [eF, eR]; exact rw_if (d4 (by rw [eN1] at hn; exact hn)) _, fun _ => fd_same hD1 (d2.2 255 9 (by unfold SMd Sm7 S56; omega)) (fun h0 => by
        obtain ⟨u1, u2⟩ := lF_0 h0
        have eR : lR k i F r = pst (tW k i) (lv k i) r := if_pos h0
        rw [eR]
        exact ⟨u1, by rw [po_x ⟨h6, hw9⟩, if_neg (by omega)], fun c _ => by rw [po_x ⟨h6, hw9⟩, if_neg (by omega)]⟩)⟩)
      unfold f_X12_officeLine_J135
      rw [m_r10 hS1, bb_some, ob_at (m_shp hS1), bb_some, d1, bb_some]
      simp only
      rw [rwS d0 (by omega), bb_some, ob_at (m_shp (w4_sk d3)), bb_some, g1, bb_some]
      exact ⟨M3, rfl, g2⟩
    rcases (show tW k i = 0 ∨ tW k i = 1 ∨ tW k i = 2 ∨ tW k i = 3 ∨ tW k i = 4 ∨ tW k i = 5 ∨ tW k i = 6 ∨ tW k i = 7 ∨ tW k i = 8 by omega) with e | e | e | e | e | e | e | e | e
    · have q := desk (by omega)
      rw [e] at q ⊢
      exact q
    · have q := desk (by omega)
      rw [e] at q ⊢
      exact q
    · have q := desk (by omega)
      rw [e] at q ⊢
      exact q
    · have q := desk (by omega)
      rw [e] at q ⊢
      exact q
    · have q := desk (by omega)
      rw [e] at q ⊢
      exact q
    · obtain ⟨M2, d1, d2, d3, d4⟩ := m_call hT hG hP hA e hR1 hD1 hb.2
      have e3 : nw (tW k i) = 3 := by rw [e]; rfl
      obtain ⟨M3, g1, g2⟩ := m_fin (M := M) hh (fr_trans (sm_7 t2) d2) (F := F) (r := r) (by rw [e3]; exact d3) (fun hn => ⟨(d4 (by rw [e3] at hn; exact hn)).1, fun _ => (d4 (by rw [e3] at hn; exact hn)).2⟩)
      have q : ((ob M1 12 255).bind fun _ => (f_X12_callLine M1 255 (nI (tA k i))).bind fun z5 => f_X12_officeLine_J135 z5 255) = some M3 := by
        unfold f_X12_officeLine_J135
        rw [ob_at (m_shp hS1), bb_some, d1, bb_some, ob_at (m_shp (w4_sk d3)), bb_some, g1, bb_some]
      rw [e]
      exact ⟨M3, q, g2⟩
    · have q := one 30 (by omega) (by rw [e]; rfl)
      rw [e] at q ⊢
      exact q
    · have q := one 20 (by omega) (by rw [e]; rfl)
      rw [e] at q ⊢
      exact q
    · have q := one 9 (by omega) (by rw [e]; rfl)
      rw [e] at q ⊢
      exact q
  · subst hz
    simp only
    unfold f_X12_officeLine_J135
    rw [if_pos True.intro, ob_at (m_shp hG.1.1), bb_some, m_eol1 hG, bb_some]
    exact ⟨M1, rfl, m_bad hh hG t2⟩
end
