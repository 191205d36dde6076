/-! the model reads a text -/
section
variable {M M' N P : Mem} {k r v : Nat → Nat} {n p i w s c x j d m : Nat} {F F' : Nat × Int32}
theorem m1_lt {a b : Nat} (ha : a < 2 ^ 20) (hb : b < 2 ^ 20) : nI a - 1 < nI b ↔ a ≤ b := by
  have e : (nI a - nI 1).toInt = (a : Int) - (1 : Nat) := pk_sub_toInt (a := a) (b := 1) (by omega) (by omega)
  rw [show (1 : Int32) = nI 1 from rfl, Int32.lt_iff_toInt_lt, e, nI_toInt (by omega)]
  omega
theorem mP (h : Sk N) (x : Nat) (v : Int32) : pI N 12 255 x v = some (wI N 255 x v) := pI_at (m_shp h) x v
theorem mZ (h : Sk N) (x : Nat) : pZ N 12 255 x 0 = some (wI N 255 x 0) := pZ_at (m_shp h) x (Or.inl rfl)
theorem m_clr (h : Sk M) (x1 x2 : Int32) : ∃ M', f_X12_text_L88 M 255 x1 x2 0 = some M' ∧ Fr (fun a _ => a = 258) M M' ∧ ∀ x, x < 81 → M'.1 258 x = 0 := by
  refine iter_rel (f := fun s' : Int32 × Mem => f_X12_text_B88 s'.2 255 x1 x2 s'.1) 81 (fun j s' => s'.1 = nI j ∧ Fr (fun a _ => a = 258) M s'.2 ∧ ∀ x, x < j → s'.2.1 258 x = 0) (fun M' => Fr (fun a _ => a = 258) M M' ∧ ∀ x, x < 81 → M'.1 258 x = 0) ?_ ?_ 1048576 0 (0, M) (Nat.zero_le _) ⟨rfl, fr_refl, fun x hx => absurd hx (by omega)⟩ (by omega)
  · intro j ⟨y, N⟩ hj ⟨q1, q2, q3⟩
    have q1 : y = nI j := q1
    subst q1
    have q2 : Fr (fun a _ => a = 258) M N := q2
    have hN := fr_sk q2 h
    refine Or.inl ⟨(nI j + 1, wI N 258 j 0), ?_, nI_1 j, fr_put q2 rfl, fun x hx => ?_⟩
    · show f_X12_text_B88 N 255 x1 x2 (nI j) = _
      unfold f_X12_text_B88
      rw [if_neg (show ¬ (81 : Int32) ≤ nI j from nI_ge (b := 81) hj (by omega)), m_r10 hN, bb_some, rwS hN hj, bb_some]
    · show (wI N 258 j 0).1 258 x = 0
      rw [wI_rd]
      by_cases e : x = j
      · rw [if_pos ⟨rfl, e⟩]
      · rw [if_neg (by omega)]; exact q3 x (by omega)
  · intro ⟨y, N⟩ ⟨q1, q2, q3⟩
    have q1 : y = nI 81 := q1
    subst q1
    refine ⟨N, ?_, q2, q3⟩
    show f_X12_text_B88 N 255 x1 x2 (nI 81) = _
    unfold f_X12_text_B88
    rw [if_pos (show (81 : Int32) ≤ nI 81 by decide)]
theorem m_beg (h : Sk P) (hs : s < 3) (a2 : Int32) : ∃ Q, f_X12_text_J71 P 255 (nI s) a2 = f_X12_text_J126 Q 255 (nI s) a2 ∧ Fr (fun a b => a = 258 ∨ (a = 255 ∧ (b = 3 ∨ b = 8 ∨ b = 9))) P Q ∧ Q.1 255 3 = nI 0 ∧ Q.1 255 8 = 0 ∧ Q.1 255 9 = nI 0 - 1 ∧ ∀ x, x < 81 → Q.1 258 x = nI (row0 s x) := by
  obtain ⟨P3, hP⟩ : ∃ P3, P3 = wI (wI (wI P 255 3 0) 255 8 0) 255 9 (-1) := ⟨_, rfl⟩
  have h3 : Sk P3 := by rw [hP]; exact h
  have fP : Fr (fun a b => a = 258 ∨ (a = 255 ∧ (b = 3 ∨ b = 8 ∨ b = 9))) P P3 := by
    rw [hP]
    exact fr_put (fr_put (fr_wI (Or.inr ⟨rfl, Or.inl rfl⟩)) (Or.inr ⟨rfl, Or.inr (Or.inl rfl)⟩)) (Or.inr ⟨rfl, Or.inr (Or.inr rfl)⟩)
  have g3 : P3.1 255 3 = nI 0 := by rw [hP]; simp [wI_rd]; rfl
  have g8 : P3.1 255 8 = 0 := by rw [hP]; simp [wI_rd]
  have g9 : P3.1 255 9 = nI 0 - 1 := by rw [hP]; simp [wI_rd]; rfl
  obtain ⟨R, e1, f1, z1⟩ := m_clr h3 (nI s) a2
  have hR := fr_sk f1 h3
  have fR : Fr (fun a b => a = 258 ∨ (a = 255 ∧ (b = 3 ∨ b = 8 ∨ b = 9))) P R := fr_trans fP (fr_mono f1 (fun a b hh => Or.inl hh))
  have e0 : f_X12_text_J71 P 255 (nI s) a2 = if nI s = 0 then
      (gR R 12 255 10).bind fun v6 =>
      (sI R 0 v6 (2 : Int32) (10 : Int32)).bind fun M7 =>
      (gR M7 12 255 10).bind fun v8 =>
      (sI M7 0 v8 (4 : Int32) (1 : Int32)).bind fun M9 =>
      f_X12_text_J126 M9 255 (nI s) a2 
    else
      f_X12_text_J126 R 255 (nI s) a2 := by
    unfold f_X12_text_J71
    simp only [mP, mZ, sk_wI, h, bb_some]
    rw [← hP, e1, bb_some]
  rw [e0]
  by_cases e : s = 0
  · subst e
    have s1 : sI R 0 258 2 10 = some (wI R 258 2 10) := rwS hR (x := 2) (by omega) 10
    have hR2 : Sk (wI R 258 2 10) := hR
    have s2 : sI (wI R 258 2 10) 0 258 4 1 = some (wI (wI R 258 2 10) 258 4 1) := rwS hR2 (x := 4) (by omega) 1
    rw [if_pos (show nI 0 = 0 from rfl), m_r10 hR, bb_some, s1, bb_some, m_r10 hR2, bb_some, s2, bb_some]
    refine ⟨_, rfl, fr_put (fr_put fR (Or.inl rfl)) (Or.inl rfl), ?_, ?_, ?_, fun x hx => ?_⟩
    · rw [wI_rd, if_neg (by omega), wI_rd, if_neg (by omega), f1.2 _ _ (by omega)]; exact g3
    · rw [wI_rd, if_neg (by omega), wI_rd, if_neg (by omega), f1.2 _ _ (by omega)]; exact g8
    · rw [wI_rd, if_neg (by omega), wI_rd, if_neg (by omega), f1.2 _ _ (by omega)]; exact g9
    · rw [wI_rd, wI_rd]
      unfold row0
      rw [if_pos rfl]
      by_cases e4 : x = 4
      · subst e4; rw [if_pos ⟨rfl, rfl⟩, if_neg (by omega), if_pos rfl]; rfl
      · rw [if_neg (by omega), if_neg e4]
        by_cases e2 : x = 2
        · subst e2; rw [if_pos ⟨rfl, rfl⟩, if_pos rfl]; rfl
        · rw [if_neg (by omega), if_neg e2]; exact z1 x hx
  · rw [if_neg (nI_ne0 (by omega) (by omega))]
    refine ⟨R, rfl, fR, ?_, ?_, ?_, fun x hx => ?_⟩
    · rw [f1.2 _ _ (by omega)]; exact g3
    · rw [f1.2 _ _ (by omega)]; exact g8
    · rw [f1.2 _ _ (by omega)]; exact g9
    · unfold row0
      rw [if_neg e]; exact z1 x hx
/-- how a text of the model ends: m whole lines, then the end or a break -/
def MEnd (M' : Mem) (k : Nat → Nat) (n s m : Nat) : Prop := (∀ q, q < m → LnG k s (rn k (0, -1) (row0 s) q).1) ∧ ((tD k (rn k (0, -1) (row0 s) m).1 ≠ 0 ∧ ∃ b, LnB k s (rn k (0, -1) (row0 s) m).1 b ∧ M'.1 256 5 = 1 ∧ M'.1 256 6 = nI (tA k b)) ∨ (tD k (rn k (0, -1) (row0 s) m).1 = 0 ∧ ((rn k (0, -1) (row0 s) m).2.1.1 = 0 → ∀ x, x < 81 → M'.1 258 x = nI ((rn k (0, -1) (row0 s) m).2.2 x)) ∧ (Dk s (rn k (0, -1) (row0 s) m).2.2 → FtM M' (rn k (0, -1) (row0 s) m).2.1) ∧ (¬ Dk s (rn k (0, -1) (row0 s) m).2.2 → FtM M' (mkF (rn k (0, -1) (row0 s) m).2.1 4 (nI n)))))
theorem m_tfin {a2 : Int32} (hs : s < 3) (hT : TX k n) (h : MtG M k n i F) (hD0 : tD k i = 0) (hR : RW M s F r) (hD : s = 0 → FD M F r) (hb : Bd s r) : ∃ M', ((gR M 12 255 0).bind fun v3 =>
    (aI M 0 v3 (5 : Int32)).bind fun v4 =>
    (if v4 = 0 then
      (if nI s = 0 then
        (gI M 12 255 9).bind fun v7 =>
        (gR M 12 255 10).bind fun v8 =>
        (aI M 0 v8 (0 : Int32)).bind fun v9 =>
        (if v7 < v9 then
          f_X12_text_J228 M 255 (nI s) a2 
        else
          (gI M 12 255 4).bind fun v11 =>
          (ob M 12 255).bind fun _ => (f_X12_also M 255 (4 : Int32) v11).bind fun z12 =>
          f_X12_text_J228 z12 255 (nI s) a2 )
      else
        f_X12_text_J228 M 255 (nI s) a2 )
    else
      f_X12_text_J228 M 255 (nI s) a2 )) = f_X12_text_J228 M' 255 (nI s) a2 ∧ Fr S56 M M' ∧ (Dk s r → FtM M' F) ∧ (¬ Dk s r → FtM M' (mkF F 4 (nI n))) := by
  have hS := h.1.1.1
  have hF := h.2.2
  have e5 : aI M 0 256 5 = some (M.1 256 5) := m_get hS (i := 5) (by omega)
  have e80 : aI M 0 258 0 = some (M.1 258 0) := rwG hS (x := 0) (by omega)
  rw [m_r0 hS, bb_some, e5, bb_some, hF.1]
  by_cases h0 : F.1 = 0
  · rw [if_pos (by rw [h0]; rfl)]
    by_cases e : s = 0
    · subst e
      obtain ⟨mm, d1, d2, d3⟩ := hD rfl
      obtain ⟨d3, d4⟩ := d3 h0
      have hr0 := hR.2.2 h0 0 (by omega)
      have hb0 : r 0 ≤ 8 := hb.1
      rw [if_pos (show nI 0 = 0 from rfl), gI_at (m_shp hS), bb_some, m_r10 hS, bb_some, e80, bb_some, d1, hr0]
      by_cases hl : mm ≤ r 0
      · rw [if_pos ((m1_lt (by omega) (by omega)).mpr hl)]
        refine ⟨M, rfl, fr_refl, fun _ => hF, fun hd => (hd (fun _ c hc => ?_)).elim⟩
        have := d3 c hc
        omega
      · rw [if_neg (fun hc => hl ((m1_lt (by omega) (by omega)).mp hc)), gI_at (m_shp hS), bb_some, ob_at (m_shp hS), bb_some, h.1.2.1, tA_n hT hD0]
        obtain ⟨M2, m1, m2, m3⟩ := m_also hS h.2.1 hF (c := 4) (q := n) (by omega) hT.1 (fun hc => absurd h0 hc)
        have m1 : f_X12_also M 255 4 (nI n) = some M2 := m1
        rw [m1, bb_some]
        refine ⟨M2, rfl, m3, fun hd => ?_, fun _ => m2⟩
        rcases d4 with d4 | ⟨c, hc, d4⟩
        · omega
        · have := hd rfl c hc
          omega
    · rw [if_neg (nI_ne0 (by omega) (by omega))]
      exact ⟨M, rfl, fr_refl, fun _ => hF, fun hd => (hd (fun e' => absurd e' e)).elim⟩
  · rw [if_neg (nI_ne0 (by omega) (by have := hF.2.2; omega))]
    refine ⟨M, rfl, fr_refl, fun _ => hF, fun _ => ?_⟩
    unfold mkF
    rw [if_neg h0]; exact hF
theorem m_read (hT : MT P k n) (h5 : P.1 256 5 = 0) (h6 : P.1 256 6 = -1) (hs : s < 3) (a2 : Int32) : ∃ M' m, f_X12_text_J71 P 255 (nI s) a2 = f_X12_text_J228 M' 255 (nI s) a2 ∧ Fr SMl P M' ∧ MEnd M' k n s m := by
  have hS := hT.1
  have hX := hT.2.2.1
  obtain ⟨Q, e1, fQ, q3, q8, q9, qr⟩ := m_beg hS hs a2
  have hQ : MT Q k n := by
    obtain ⟨t1, t2, t3, t4⟩ := hT
    refine ⟨fr_sk fQ t1, ?_, t3, fun i hi => ?_⟩
    · rw [fQ.2 255 2 (by omega)]; exact t2
    · rw [fQ.2 256 (10 + i) (by omega)]; exact t4 i hi
  obtain ⟨Z, e2, fZ, hZ⟩ := m_first hQ (i := 0) q3
  have sZ : ∀ a b, ¬ (a = 255 ∧ 3 ≤ b ∧ b ≤ 7) → Z.1 a b = Q.1 a b := fun a b hh => fZ.2 a b (by unfold S55; exact hh)
  have g5 : Z.1 256 5 = nI 0 := by rw [sZ _ _ (by omega), fQ.2 _ _ (by omega)]; exact h5
  have g6 : Z.1 256 6 = -1 := by rw [sZ _ _ (by omega), fQ.2 _ _ (by omega)]; exact h6
  have g8 : Z.1 255 8 = 0 := by rw [sZ _ _ (by omega)]; exact q8
  have g9 : Z.1 255 9 = nI 0 - 1 := by rw [sZ _ _ (by omega)]; exact q9
  have gr : ∀ x, x < 81 → Z.1 258 x = nI (row0 s x) := fun x hx => by rw [sZ _ _ (by omega)]; exact qr x hx
  have hG : MtG Z k n 0 (0, -1) := ⟨hZ, g8, g5, g6, by decide⟩
  have hB := bd_row0 s
  have hRW : RW Z s (0, -1) (row0 s) := ⟨⟨row0 s 0, gr 0 (by omega), hB.1⟩, fun e => ⟨row0 s 1, gr 1 (by omega), hB.2 e⟩, fun _ => gr⟩
  have hFD : s = 0 → FD Z (0, -1) (row0 s) := fun e => ⟨0, g9, by omega, fun _ => ⟨fun c hc => absurd hc (by rw [e]; exact Nat.not_lt_zero c), Or.inl rfl⟩⟩
  obtain ⟨R, e3, fR, m, hg, hc⟩ := m_lines hs hX hG (fun hh => absurd rfl hh) hRW hFD hB a2
  have fA : Fr SMl P R := fr_trans (fr_mono fQ (fun a b hh => by unfold SMl Sm7 S56; omega)) (fr_trans (fr_mono fZ (fun a b hh => by unfold S55 at hh; unfold SMl Sm7 S56; omega)) fR)
  have e0 : f_X12_text_J71 P 255 (nI s) a2 = ((gR R 12 255 0).bind fun v3 =>
    (aI R 0 v3 (5 : Int32)).bind fun v4 =>
    (if v4 = 0 then
      (if nI s = 0 then
        (gI R 12 255 9).bind fun v7 =>
        (gR R 12 255 10).bind fun v8 =>
        (aI R 0 v8 (0 : Int32)).bind fun v9 =>
        (if v7 < v9 then
          f_X12_text_J228 R 255 (nI s) a2 
        else
          (gI R 12 255 4).bind fun v11 =>
          (ob R 12 255).bind fun _ => (f_X12_also R 255 (4 : Int32) v11).bind fun z12 =>
          f_X12_text_J228 z12 255 (nI s) a2 )
      else
        f_X12_text_J228 R 255 (nI s) a2 )
    else
      f_X12_text_J228 R 255 (nI s) a2 )) := by
    rw [e1]
    unfold f_X12_text_J126
    rw [ob_at (m_shp hQ.1), bb_some, e2, bb_some, e3, bb_some]
  rw [e0]
  rcases hc with ⟨c1, c2, c3, c4, c5⟩ | ⟨c1, b, c2, c3⟩
  · obtain ⟨M2, a1, f2, a3, a4⟩ := m_tfin (a2 := a2) hs hX c2 c1 c3 c4 c5
    refine ⟨M2, m, a1, fr_trans fA (fr_mono f2 (fun a b hh => Or.inl (Or.inr hh))), hg, Or.inr ⟨c1, fun h0 x hx => ?_, a3, a4⟩⟩
    rw [f2.2 _ _ (by unfold S56; omega)]; exact c3.2.2 h0 x hx
  · have hSR := c3.1.1
    have e5 : aI R 0 256 5 = some (R.1 256 5) := m_get hSR (i := 5) (by omega)
    rw [m_r0 hSR, bb_some, e5, bb_some, c3.2.2.1, if_neg (by decide)]
    exact ⟨R, m, rfl, fA, hg, Or.inl ⟨c1, b, c2, c3.2.2.1, c3.2.2.2⟩⟩
end
