/-! the lines of a text, in the class -/
section
variable {M M' N : Mem} {k r v : Nat → Nat} {n p i w s c x : Nat} {F : Nat × Int32}
/-- the state before line m: its first token, the fault, what is stored -/
def rn (k : Nat → Nat) (F : Nat × Int32) (r : Nat → Nat) : Nat → Nat × (Nat × Int32) × (Nat → Nat)
  | 0 => (0, F, r)
  | m + 1 => ((rn k F r m).1 + 2 + nw (tW k (rn k F r m).1), lF k (rn k F r m).1 (rn k F r m).2.1 (rn k F r m).2.2, lR k (rn k F r m).1 (rn k F r m).2.1 (rn k F r m).2.2)
theorem lg_tp (hT : TX k n) {m : Nat} : ∀ j, (∀ q, q < j → LnG k s (rn k F r q).1) → j ≤ tp k (rn k F r j).1 := by
  intro j
  induction j with
  | zero => intro _; exact Nat.zero_le _
  | succ j ih =>
    intro h
    have h1 := ih (fun q hq => h q (by omega))
    obtain ⟨g1, g2, g3⟩ := h j (by omega)
    have h2 := (tA_lt hT (i := (rn k F r j).1) (by have := g1.1; omega)).2
    have mono : ∀ d, tp k ((rn k F r j).1 + 1) ≤ tp k ((rn k F r j).1 + 1 + d) := by
      intro d
      induction d with
      | zero => exact Nat.le_refl _
      | succ d ihd =>
        obtain ⟨i1, i2, i3, i4, i5, i6⟩ := tk_in hT (tp_le hT ((rn k F r j).1 + 1 + d))
        have : tp k ((rn k F r j).1 + 1 + (d + 1)) = te k (tp k ((rn k F r j).1 + 1 + d)) := rfl
        omega
    have h3 := mono (1 + nw (tW k (rn k F r j).1))
    have e : (rn k F r (j + 1)).1 = (rn k F r j).1 + 1 + (1 + nw (tW k (rn k F r j).1)) := by
      show (rn k F r j).1 + 2 + nw (tW k (rn k F r j).1) = _
      omega
    rw [e]; omega
theorem tD_n (hT : TX k n) (h : tp k i = n) : tD k i = 0 := by
  obtain ⟨i1, i2, i3, i4, i5, i6⟩ := tk_in hT (tp_le hT i)
  exact (td_0 k (tp k i)).mpr (hT.2.1 _ (by omega))
def COut (M : Mem) (k : Nat → Nat) (s : Nat) (F : Nat × Int32) (r : Nat → Nat) (res : Mem ⊕ (Mem ⊕ Mem)) : Prop := ∃ m, (∀ q, q < m → LnG k s (rn k F r q).1) ∧ ((∃ M', res = .inl M' ∧ Fr SC M M' ∧ tD k (rn k F r m).1 = 0 ∧ FtS M' (rn k F r m).2.1 ∧ CS M' s (rn k F r m).2.2) ∨ (∃ M' b, res = .inr (.inl M') ∧ Fr SC M M' ∧ tD k (rn k F r m).1 ≠ 0 ∧ LnB k s (rn k F r m).1 b ∧ M'.1 46 9 = nI (tA k b)))
theorem c_lines (h : CT M k n) (hs : s < 3) (h10 : M.1 46 10 = nI 0) (hF : FtS M F) (hS : CS M s r) : ∃ res, f_X7_readText_L56 M 46 (nI s) 0 = some res ∧ COut M k s F r res := by
  have hT := ct_tx h
  have hn := hT.1
  have step : ∀ j M1, j ≤ n → Fr SC M M1 → M1.1 46 10 = nI (tp k (rn k F r j).1) → FtS M1 (rn k F r j).2.1 → CS M1 s (rn k F r j).2.2 → (∀ q, q < j → LnG k s (rn k F r q).1) → (∃ M2, f_X7_readText_B56 M1 46 (nI s) (nI j) = some (.inl (nI (j + 1), M2)) ∧ tD k (rn k F r j).1 ≠ 0 ∧ Fr SC M M2 ∧ M2.1 46 10 = nI (tp k (rn k F r (j + 1)).1) ∧ FtS M2 (rn k F r (j + 1)).2.1 ∧ CS M2 s (rn k F r (j + 1)).2.2 ∧ LnG k s (rn k F r j).1) ∨ (∃ res, f_X7_readText_B56 M1 46 (nI s) (nI j) = some (.inr res) ∧ COut M k s F r res) := by
    intro j M1 hj hf1 hp1 hF1 hS1 hg
    have hC1 := ct_sc h hf1
    obtain ⟨M2, b1, f1, g9, g10, g0, g2, g3, g11, g12, g13⟩ := c_st hC1 hp1
    have hC2 := ct_fr hC1 f1
    have fA : Fr SC M M2 := fr_trans hf1 (sc_sl (sl_46 f1))
    unfold f_X7_readText_B56
    rw [gI_at (ct_shp hC1), bb_some, hC1.2.2.1, if_neg (nI_nlt hj (by omega)), ob_at (ct_shp hC1), bb_some, b1, bb_some, gI_at (ct_shp hC2), bb_some]
    have hF2 := fts_fr hF1 f1
    have hS2 : CS M2 s (rn k F r j).2.2 := cs_cong (fun a b ha hb => f1.2 a b (by unfold S46; omega)) hS1
    by_cases h0 : tD k (rn k F r j).1 = 0
    · rw [if_pos (g0.mpr h0)]
      exact Or.inr ⟨_, rfl, j, hg, Or.inl ⟨M2, rfl, fA, h0, hF2, hS2⟩⟩
    · rw [if_neg (fun hc => h0 (g0.mp hc)), ob_at (ct_shp hC2), bb_some]
      obtain ⟨z, M3, c1, c2, c3⟩ := c_line hC2 hs g9 g10 hF2 hS2 (g12 s hs) (g13 s hs)
      rw [c1, bb_some]
      rcases c3 with ⟨c3, b, c4, c5⟩ | ⟨c3, c4, c5, c6, c7⟩
      · subst c3
        rw [if_pos rfl]
        exact Or.inr ⟨_, rfl, j, hg, Or.inr ⟨M3, b, rfl, fr_trans fA c2, h0, c4, c5⟩⟩
      · subst c3
        rw [if_neg (show ¬ (1 : Int32) = 0 by decide), nI_1]
        exact Or.inl ⟨M3, rfl, h0, fr_trans fA c2, c5, c6, c7, c4⟩
  refine iter_rel (f := fun s' : Int32 × Mem => f_X7_readText_B56 s'.2 46 (nI s) s'.1) n (fun j s' => s'.1 = nI j ∧ Fr SC M s'.2 ∧ s'.2.1 46 10 = nI (tp k (rn k F r j).1) ∧ FtS s'.2 (rn k F r j).2.1 ∧ CS s'.2 s (rn k F r j).2.2 ∧ ∀ q, q < j → LnG k s (rn k F r q).1) (COut M k s F r) ?_ ?_ 1048576 0 (0, M) (Nat.zero_le _) ⟨rfl, fr_refl, h10, hF, hS, fun q hq => absurd hq (by omega)⟩ (by omega)
  · intro j ⟨y, M1⟩ hj ⟨q1, q2, q3, q4, q5, q6⟩
    have q1 : y = nI j := q1
    subst q1
    rcases step j M1 (by omega) q2 q3 q4 q5 q6 with ⟨M2, a1, a2, a3, a4, a5, a6, a7⟩ | ⟨res, a1, a2⟩
    · refine Or.inl ⟨(nI (j + 1), M2), a1, rfl, a3, a4, a5, a6, fun q hq => ?_⟩
      rcases Nat.eq_or_lt_of_le (show q ≤ j by omega) with e | e
      · rw [e]; exact a7
      · exact q6 q e
    · exact Or.inr ⟨res, a1, a2⟩
  · intro ⟨y, M1⟩ ⟨q1, q2, q3, q4, q5, q6⟩
    have q1 : y = nI n := q1
    subst q1
    rcases step n M1 (Nat.le_refl _) q2 q3 q4 q5 q6 with ⟨M2, a1, a2, a3⟩ | ⟨res, a1, a2⟩
    · have h1 := lg_tp (m := 0) hT n q6
      have h2 := tp_le hT (rn k F r n).1
      exact absurd (tD_n hT (by omega)) a2
    · exact ⟨res, a1, a2⟩
end
