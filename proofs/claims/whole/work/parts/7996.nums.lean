/-! a line's numbers are read, in the class -/
section
variable {M M' : Mem} {k : Nat → Nat} {n p i w s : Nat} {F : Nat × Int32}
/-- the fault so far -/
def FtS (M : Mem) (F : Nat × Int32) : Prop := M.1 46 3 = nI F.1 ∧ M.1 46 4 = F.2 ∧ F.1 ≤ 4
def mkF (F : Nat × Int32) (c : Nat) (q : Int32) : Nat × Int32 := if F.1 = 0 then (c, q) else F
def SLn (a b : Nat) : Prop := (a = 46 ∧ (b = 3 ∨ b = 4 ∨ (8 ≤ b ∧ b ≤ 11))) ∨ a = 66
theorem ct_sl (h : CT M k n) (hF : Fr SLn M M') : CT M' k n := by
  obtain ⟨h1, h2, h3, h4, h5, h6⟩ := h
  refine ⟨fr_sk hF h1, by rw [hF.1]; exact h2, ?_, h4, h5, fun i hi => ?_⟩
  · rw [hF.2 46 7 (by unfold SLn; omega)]; exact h3
  · rw [hF.2 3 i (by unfold SLn; omega)]; exact h6 i hi
theorem sl_46 (h : Fr S46 M M') : Fr SLn M M' := fr_mono h (fun a b hh => Or.inl ⟨hh.1, by have := hh.2; omega⟩)
theorem c_mark (h : CT M k n) (hF : FtS M F) {c : Nat} (hc : 0 < c ∧ c ≤ 4) (q : Int32) : ∃ M', f_X7_mark M 46 (nI c) q = some M' ∧ FtS M' (mkF F c q) ∧ Fr (fun a b => a = 46 ∧ (b = 3 ∨ b = 4)) M M' := by
  unfold f_X7_mark mkF
  rw [gI_at (ct_shp h), bb_some, hF.1]
  by_cases h0 : F.1 = 0
  · have s1 : shp (wI M 46 3 (nI c)) 46 = some (.inl 7) := ct_shp h
    rw [if_pos (by rw [h0]; rfl), if_pos h0, pI_at (ct_shp h), bb_some, pI_at s1, bb_some]
    exact ⟨_, rfl, ⟨by rw [wI_rd, if_neg (by omega), wI_same], wI_same _ _ _ _, hc.2⟩, fr_put (fr_wI ⟨rfl, Or.inl rfl⟩) ⟨rfl, Or.inr rfl⟩⟩
  · rw [if_neg (nI_ne0 (by omega) (by have := hF.2.2; omega)), if_neg h0]
    exact ⟨M, rfl, hF, fr_refl⟩
theorem fts_fr (hF : FtS M F) (h : Fr S46 M M') : FtS M' F := ⟨by rw [h.2 46 3 (by unfold S46; omega)]; exact hF.1, by rw [h.2 46 4 (by unfold S46; omega)]; exact hF.2.1, hF.2.2⟩
def okb (w : Nat) (v : Nat → Nat) (j : Nat) : Bool := decide (lo w j ≤ v j ∧ v j ≤ hi w j ∧ ¬ (w = 13 ∧ j = 1 ∧ v 1 = v 0))
theorem okb_iff {w : Nat} {v : Nat → Nat} {j : Nat} : okb w v j = true ↔ okn w v j := decide_eq_true_iff
/-- the numbers of the line that begins with token i -/
def lv (k : Nat → Nat) (i : Nat) : Nat → Nat := fun q => tV k (i + 1 + q)
def fl (k : Nat → Nat) (i w : Nat) (F : Nat × Int32) : Nat → Nat × Int32
  | 0 => F
  | j + 1 => if okb w (lv k i) j = true then fl k i w F j else mkF (fl k i w F j) 2 (nI (tA k (i + 1 + j)))
def nums (k : Nat → Nat) (i j : Nat) : Prop := ∀ q, q < j → tD k (i + 1 + q) = 1
def LSt (M0 : Mem) (k : Nat → Nat) (i w : Nat) (F : Nat × Int32) (j : Nat) (M : Mem) : Prop := Fr SLn M0 M ∧ M.1 46 10 = nI (tp k (i + 1 + j)) ∧ (∀ q, q < j → M.1 66 q = nI (lv k i q)) ∧ FtS M (fl k i w F j) ∧ nums k i j
theorem nw_le (w : Nat) : 1 ≤ nw w ∧ nw w ≤ 4 := by unfold nw; repeat' split
                                                    all_goals omega
theorem c_num (h : CT M k n) (hw : w < 15) {j : Nat} (hj : j < nw w) {M1 : Mem} (hL : LSt M k i w F j M1) : (∃ M2, f_X7_readLine_B44 M1 46 (nI s) (nI w) (nI j) = some (.inl (nI (j + 1), M2)) ∧ LSt M k i w F (j + 1) M2) ∨ (∃ M2, f_X7_readLine_B44 M1 46 (nI s) (nI w) (nI j) = some (.inr (.inl M2)) ∧ tD k (i + 1 + j) ≠ 1 ∧ M2.1 46 9 = nI (tA k (i + 1 + j)) ∧ Fr SLn M M2) := by
  obtain ⟨l1, l2, l3, l4, l5⟩ := hL
  have hT := ct_tx h
  have hC1 := ct_sl h l1
  have hnw := nw_le w
  obtain ⟨M2, e1, f1, g9, g10, g0, g2, g3, g11, _⟩ := c_st hC1 l2
  have hC2 := ct_fr hC1 f1
  have fA : Fr SLn M M2 := fr_trans l1 (sl_46 f1)
  have hFS2 := fts_fr l4 f1
  unfold f_X7_readLine_B44
  rw [a1002 M1 w hw, bb_some, if_neg (nI_ge hj (by omega)), ob_at (ct_shp hC1), bb_some, e1, bb_some, gI_at (ct_shp hC2), bb_some]
  by_cases hd1 : tD k (i + 1 + j) = 1
  · left
    rw [if_pos (g2.mpr hd1), (r46 hC2).2.2.2, bb_some, gI_at (ct_shp hC2), bb_some, sI_at (s66 hC2.1) (show j < 4 by omega) (by omega), nar0, bb_some, g11 hd1]
    have fB : Fr SLn M (wI M2 66 j (nI (tV k (i + 1 + j)))) := fr_put fA (Or.inr rfl)
    have hC3 := ct_sl h fB
    have hrow : ∀ q, q < j + 1 → (wI M2 66 j (nI (tV k (i + 1 + j)))).1 66 q = nI (lv k i q) := by
      intro q hq
      rcases Nat.eq_or_lt_of_le (show q ≤ j by omega) with e | e
      · rw [e, wI_same]; rfl
      · rw [wI_rd, if_neg (by omega), f1.2 66 q (by unfold S46; omega)]; exact l3 q e
    have hnum : nums k i (j + 1) := by
      intro q hq
      rcases Nat.eq_or_lt_of_le (show q ≤ j by omega) with e | e
      · rw [e]; exact hd1
      · exact l5 q e
    have hFS3 : FtS (wI M2 66 j (nI (tV k (i + 1 + j)))) (fl k i w F j) := ⟨by rw [wI_rd, if_neg (by omega)]; exact hFS2.1, by rw [wI_rd, if_neg (by omega)]; exact hFS2.2.1, hFS2.2.2⟩
    have r10 : (wI M2 66 j (nI (tV k (i + 1 + j)))).1 46 10 = nI (tp k (i + 1 + (j + 1))) := by rw [wI_rd, if_neg (by omega)]; exact g10
    have r9 : (wI M2 66 j (nI (tV k (i + 1 + j)))).1 46 9 = nI (tA k (i + 1 + j)) := by rw [wI_rd, if_neg (by omega)]; exact g9
    generalize wI M2 66 j (nI (tV k (i + 1 + j))) = M3 at *
    obtain ⟨z, c1, c2⟩ := c_can hC3 (v := lv k i) hw hj (fun q hq => ⟨hrow q (by omega), tV_le hT (hnum q (by omega))⟩)
    rw [ob_at (ct_shp hC3), bb_some, c1, bb_some]
    rcases c2 with ⟨c2, c3⟩ | ⟨c2, c3⟩
    · subst c3
      rw [if_neg (by decide), nI_1]
      refine ⟨M3, rfl, fB, r10, hrow, ?_, hnum⟩
      show FtS M3 (if okb w (lv k i) j = true then fl k i w F j else _)
      rw [if_pos (okb_iff.mpr c2)]
      exact hFS3
    · subst c3
      obtain ⟨M4, m1, m2, m3⟩ := c_mark hC3 hFS3 (c := 2) (by omega) (nI (tA k (i + 1 + j)))
      have m1 : f_X7_mark M3 46 2 (nI (tA k (i + 1 + j))) = some M4 := m1
      rw [if_pos rfl, gI_at (ct_shp hC3), bb_some, r9, m1, bb_some, nI_1]
      refine ⟨M4, rfl, fr_trans fB (fr_mono m3 (fun a b hh => Or.inl ⟨hh.1, by have := hh.2; omega⟩)), by rw [m3.2 46 10 (by omega)]; exact r10, fun q hq => by rw [m3.2 66 q (by omega)]; exact hrow q hq, ?_, hnum⟩
      show FtS M4 (if okb w (lv k i) j = true then fl k i w F j else _)
      rw [if_neg (fun hh => c2 (okb_iff.mp hh))]
      exact m2
  · right
    rw [if_neg (fun hh => hd1 (g2.mp hh))]
    exact ⟨M2, rfl, hd1, g9, fA⟩
theorem c_nums (h : CT M k n) (hw : w < 15) (hp : M.1 46 10 = nI (tp k (i + 1))) (hF : FtS M F) : ∃ r, f_X7_readLine_L44 M 46 (nI s) (nI w) 0 = some r ∧ ((∃ M' j, r = .inl M' ∧ j < nw w ∧ nums k i j ∧ tD k (i + 1 + j) ≠ 1 ∧ M'.1 46 9 = nI (tA k (i + 1 + j)) ∧ Fr SLn M M') ∨ (∃ M', r = .inr M' ∧ LSt M k i w F (nw w) M')) := by
  have hnw := nw_le w
  refine iter_rel (f := fun s' : Int32 × Mem => f_X7_readLine_B44 s'.2 46 (nI s) (nI w) s'.1) (nw w) (fun j s' => s'.1 = nI j ∧ LSt M k i w F j s'.2) (fun r => (∃ M' j, r = .inl M' ∧ j < nw w ∧ nums k i j ∧ tD k (i + 1 + j) ≠ 1 ∧ M'.1 46 9 = nI (tA k (i + 1 + j)) ∧ Fr SLn M M') ∨ (∃ M', r = .inr M' ∧ LSt M k i w F (nw w) M')) ?_ ?_ 1048576 0 (0, M) (by omega) ⟨rfl, fr_refl, hp, fun q hq => absurd hq (by omega), hF, fun q hq => absurd hq (by omega)⟩ (by omega)
  · intro j ⟨x, M1⟩ hj ⟨q1, q2⟩
    have q1 : x = nI j := q1
    subst q1
    rcases c_num h hw hj (s := s) q2 with ⟨M2, a1, a2⟩ | ⟨M2, a1, a2, a3, a4⟩
    · exact Or.inl ⟨(nI (j + 1), M2), a1, rfl, a2⟩
    · exact Or.inr ⟨.inl M2, a1, Or.inl ⟨M2, j, rfl, hj, q2.2.2.2.2, a2, a3, a4⟩⟩
  · intro ⟨x, M1⟩ ⟨q1, q2⟩
    have q1 : x = nI (nw w) := q1
    subst q1
    refine ⟨.inr M1, ?_, Or.inr ⟨M1, rfl, q2⟩⟩
    show f_X7_readLine_B44 M1 46 (nI s) (nI w) (nI (nw w)) = _
    unfold f_X7_readLine_B44
    rw [a1002 M1 w hw, bb_some, if_pos (nI_le (Nat.le_refl _) (by omega))]
end
