/-! the class reads a text -/
section
variable {M M' N : Mem} {k r v : Nat → Nat} {n p i w s c x j d m : Nat} {F F' : Nat × Int32}
def SR (a _b : Nat) : Prop := 46 ≤ a ∧ a ≤ 66
/-- what stands in the class's reader at the end -/
def CFn (M : Mem) (s : Nat) (r : Nat → Nat) : Prop := (s = 0 → OC M 47 r) ∧ (s = 1 → DC M 58 r) ∧ (s = 2 → LCs M r)
/-- the text on the tape -/
def kt (M : Mem) (n : Nat) : Nat → Nat := fun i => if i < n then kf (M.1 3 i) else 0
theorem sr_sc (h : Fr SC M M') : Fr SR M M' := fr_mono h (fun a b hh => by unfold SC SLn S47 at hh; unfold SR; omega)
theorem c_tfin (h : CT M k n) (hs : s < 3) (hF : FtS M F) (hC : CS M s r) (hO : OkS s r) : ∃ M', f_X7_readText_J107 M 46 (nI s) = some M' ∧ Fr SR M M' ∧ CFn M' s r ∧ (Dk s r → FtS M' F) ∧ (¬ Dk s r → FtS M' (mkF F 4 (nI n))) := by
  unfold f_X7_readText_J107
  by_cases e : s = 0
  · subst e
    obtain ⟨M1, a1, a2, a3⟩ := c_measure h.1 (hC.1 rfl).1 (hO.1 rfl)
    have f1 : Fr SC M M1 := fr_mono a3 (fun a b hh => Or.inr (by unfold Sg at hh; unfold S47; omega))
    have h1 := ct_sc h f1
    have hF1 : FtS M1 F := ⟨by rw [a3.2 46 3 (by unfold Sg; omega)]; exact hF.1, by rw [a3.2 46 4 (by unfold Sg; omega)]; exact hF.2.1, hF.2.2⟩
    obtain ⟨z, b1, b2⟩ := c_desks h1.1 a2 (hO.1 rfl)
    rw [if_pos (show nI 0 = 0 from rfl), (r46 h).1, bb_some, ob_at (sk_shp h.1 (by omega) rfl), bb_some, a1, bb_some, (r46 h1).1, bb_some, ob_at (sk_shp h1.1 (by omega) rfl), bb_some, b1, bb_some]
    rcases b2 with ⟨e, b3⟩ | ⟨e, b3⟩
    · subst e
      rw [if_neg (by decide)]
      exact ⟨M1, rfl, sr_sc f1, ⟨fun _ => a2, fun e => absurd e (by omega), fun e => absurd e (by omega)⟩, fun _ => hF1, fun hd => (hd (fun _ => b3)).elim⟩
    · subst e
      obtain ⟨M2, m1, m2, m3⟩ := c_mark h1 hF1 (c := 4) (by omega) (nI n)
      have m1 : f_X7_mark M1 46 4 (nI n) = some M2 := m1
      rw [if_pos rfl, gI_at (ct_shp h1), bb_some, h1.2.2.1, ob_at (ct_shp h1), bb_some, m1, bb_some]
      refine ⟨M2, rfl, fr_trans (sr_sc f1) (fr_mono m3 (fun a b hh => by unfold SR; omega)), ⟨fun _ => oc_cong (fun n k hn hn' => m3.2 _ _ (by omega)) a2, fun e => absurd e (by omega), fun e => absurd e (by omega)⟩, fun hd => ?_, fun _ => m2⟩
      obtain ⟨c, hc, hc'⟩ := b3
      have := hd rfl c hc
      omega
  · rw [if_neg (nI_ne0 (by omega) (by omega))]
    exact ⟨M, rfl, fr_refl, ⟨fun e' => absurd e' e, fun e' => (hC.2.1 e').1, fun e' => (hC.2.2 e').1⟩, fun _ => hF, fun hd => (hd (fun e' => absurd e' e)).elim⟩
theorem rP (h : Sk N) (x : Nat) (v : Int32) : pI N 7 46 x v = some (wI N 46 x v) := pI_at (sk_shp h (by omega) rfl) x v
theorem rr0 (h : Sk N) : gR N 7 46 0 = some 47 := by rw [gR_at (sk_shp h (by omega) rfl), h.2 (46, 0, 47) (by decide)]
theorem rr1 (h : Sk N) : gR N 7 46 1 = some 58 := by rw [gR_at (sk_shp h (by omega) rfl), h.2 (46, 1, 58) (by decide)]
theorem rr2 (h : Sk N) : gR N 7 46 2 = some 61 := by rw [gR_at (sk_shp h (by omega) rfl), h.2 (46, 2, 61) (by decide)]
theorem ro5 (h : Sk N) : ob N 5 47 = some () := ob_at (sk_shp h (by omega) rfl)
theorem ln3 (h : Sk N) : lnA N 1 3 = some (nI 600) := by
  unfold lnA
  rw [sk_shp h (n := 3) (by omega) rfl]
  rfl
theorem c_oclear (h : Sk N) : f_X5_clear N 47 = some (wI (wI (wI (wI (wI N 47 0 0) 47 1 0) 47 2 10) 47 3 0) 47 4 1) := by
  unfold f_X5_clear
  simp [oP, sk_wI, h, bb_some]
theorem kt_n (M : Mem) (hi : n ≤ i) : kt M n i = 0 := if_neg (by omega)
theorem kt_i (M : Mem) (hi : i < n) : kt M n i = kf (M.1 3 i) := if_pos hi
theorem cs_row0 {D : Mem} (h : (D.1 47 0 = 0 ∧ D.1 47 1 = 0 ∧ D.1 47 2 = 10 ∧ D.1 47 3 = 0 ∧ D.1 47 4 = 1) ∧ D.1 58 0 = 0 ∧ D.1 61 0 = 0) (s : Nat) : CS D s (row0 s) := by
  obtain ⟨⟨h0, h1, h2, h3, h4⟩, h5, h6⟩ := h
  refine ⟨fun e => ?_, fun e => ?_, fun e => ?_⟩
  · subst e
    refine ⟨⟨fun i hi => ?_, fun d hd => absurd hd (Nat.not_lt_zero d), fun c hc => absurd hc (Nat.not_lt_zero c)⟩, by decide, by decide⟩
    rcases (show i = 0 ∨ i = 1 ∨ i = 2 ∨ i = 3 ∨ i = 4 by omega) with rfl | rfl | rfl | rfl | rfl
    · exact h0
    · exact h1
    · exact h2
    · exact h3
    · exact h4
  · subst e
    exact ⟨⟨h5, fun d hd => absurd hd (Nat.not_lt_zero d)⟩, by decide⟩
  · subst e
    exact ⟨⟨h6, fun d hd => absurd hd (Nat.not_lt_zero d)⟩, by decide⟩
/-- how a text of the class ends: m whole lines, then the end or a break -/
def CEnd (M' : Mem) (k : Nat → Nat) (n s m : Nat) : Prop := (∀ q, q < m → LnG k s (rn k (0, -1) (row0 s) q).1) ∧ ((tD k (rn k (0, -1) (row0 s) m).1 ≠ 0 ∧ ∃ b, LnB k s (rn k (0, -1) (row0 s) m).1 b ∧ M'.1 46 3 = 1 ∧ M'.1 46 4 = nI (tA k b)) ∨ (tD k (rn k (0, -1) (row0 s) m).1 = 0 ∧ CFn M' s (rn k (0, -1) (row0 s) m).2.2 ∧ (Dk s (rn k (0, -1) (row0 s) m).2.2 → FtS M' (rn k (0, -1) (row0 s) m).2.1) ∧ (¬ Dk s (rn k (0, -1) (row0 s) m).2.2 → FtS M' (mkF (rn k (0, -1) (row0 s) m).2.1 4 (nI n)))))
theorem c_read (hS : Sk M) (hs : s < 3) (hn : n ≤ 600) (hb : ∀ i, i < 600 → fits .byte (.int (M.1 3 i)) = true) : ∃ M' m, f_X7_readText M 46 (nI s) 3 (nI n) = some M' ∧ Fr SR (wR M 46 5 3) M' ∧ CEnd M' (kt M n) n s m := by
  have hW : Sk (wR M 46 5 3) := wR46_sk hS
  obtain ⟨D, hD⟩ : ∃ D, D = wI (wI (wI (wI (wI (wI (wI (wI (wI (wI (wI (wR M 46 5 3) 46 7 (nI n)) 46 10 0) 46 3 0) 46 4 (-1)) 47 0 0) 47 1 0) 47 2 10) 47 3 0) 47 4 1) 58 0 0) 61 0 0 := ⟨_, rfl⟩
  have fD : Fr SR (wR M 46 5 3) D := by
    rw [hD]
    repeat' (first | exact fr_refl | refine fr_put ?_ ⟨by omega, by omega⟩)
  have e7 : D.1 46 7 = nI n := by rw [hD]; simp [wI_rd]
  have e10 : D.1 46 10 = nI 0 := by rw [hD]; simp [wI_rd]; rfl
  have e3 : D.1 46 3 = nI 0 := by rw [hD]; simp [wI_rd]; rfl
  have e4 : D.1 46 4 = -1 := by rw [hD]; simp [wI_rd]
  have e47 : (D.1 47 0 = 0 ∧ D.1 47 1 = 0 ∧ D.1 47 2 = 10 ∧ D.1 47 3 = 0 ∧ D.1 47 4 = 1) ∧ D.1 58 0 = 0 ∧ D.1 61 0 = 0 := by rw [hD]; simp [wI_rd]
  have hC : CT D (kt M n) n := by
    refine ⟨fr_sk fD hW, ?_, e7, hn, fun i hi => kt_n M hi, fun i hi => ?_⟩
    · rw [fD.1]
      show (if 46 = 46 ∧ 5 = 5 then 3 else M.2.2.1 46 5) = 3
      rw [if_pos ⟨rfl, rfl⟩]
    · rw [fD.2 3 i (by unfold SR; omega), kt_i M hi]
      exact (KV_b (hb i (by omega))).1
  obtain ⟨res, e1, m, hg, hc⟩ := c_lines hC hs e10 (F := (0, -1)) ⟨e3, e4, by decide⟩ (cs_row0 e47 s)
  have im : imin (nI n) (nI 600) = nI n := by rw [imin_at (by omega) (by omega), Nat.min_eq_left hn]
  have e0 : f_X7_readText M 46 (nI s) 3 (nI n) = match (generalizing := false) res with
      | .inl r13 => f_X7_readText_J107 r13 46 (nI s)
      | .inr (.inl r13) => (pI r13 7 46 3 (1 : Int32)).bind fun M14 =>
        (gI M14 7 46 9).bind fun v15 =>
        (pI M14 7 46 4 v15).bind fun M16 =>
        some M16
      | .inr (.inr r13) => f_X7_readText_J107 r13 46 (nI s) := by
    unfold f_X7_readText
    rw [pR_at (sk_shp hS (by omega) rfl), bb_some, ln3 hW, bb_some, im]
    simp only [rP, rr0, rr1, rr2, ro5, c_oclear, dP, gP, sk_wI, hW, bb_some]
    rw [← hD, e1, bb_some]
    rcases res with r1 | r1 | r1 <;> rfl
  rcases hc with ⟨M1, q1, q2, q3, q4, q5⟩ | ⟨M1, b, q1, q2, q3, q4, q5⟩
  · subst q1
    obtain ⟨M2, a1, a2, a3, a4, a5⟩ := c_tfin (ct_sc hC q2) hs q4 q5 (oks_rn hs (oks_row0 s) m hg)
    refine ⟨M2, m, ?_, fr_trans fD (fr_trans (sr_sc q2) a2), hg, Or.inr ⟨q3, a3, a4, a5⟩⟩
    rw [e0]
    exact a1
  · subst q1
    have hC1 := ct_sc hC q2
    refine ⟨wI (wI M1 46 3 1) 46 4 (nI (tA (kt M n) b)), m, ?_, fr_trans fD (fr_put (fr_put (sr_sc q2) ⟨by omega, by omega⟩) ⟨by omega, by omega⟩), hg, Or.inl ⟨q3, b, q4, ?_, ?_⟩⟩
    · rw [e0]
      show (pI M1 7 46 3 1).bind _ = _
      rw [rP hC1.1, bb_some, gI_at (show shp (wI M1 46 3 1) 46 = some (.inl 7) from ct_shp hC1), bb_some, wI_rd, if_neg (by omega), q5, rP (N := wI M1 46 3 1) hC1.1, bb_some]
    · rw [wI_rd, if_neg (by omega), wI_same]
    · rw [wI_same]
end
