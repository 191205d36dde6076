section
variable {M M' : Mem} {k : Nat → Nat} {n p i : Nat}
/-- the model holds the text k of length n -/
def MT (M : Mem) (k : Nat → Nat) (n : Nat) : Prop := Sk M ∧ M.1 255 2 = nI n ∧ TX k n ∧ ∀ i, i < n → KV (M.1 256 (10 + i)) (k i) ∧ ¬ M.1 256 (10 + i) < 0
def S55 (a b : Nat) : Prop := a = 255 ∧ 3 ≤ b ∧ b ≤ 7
theorem S55_8 {b : Nat} (h : 3 ≤ b ∧ b ≤ 7) : S55 255 b := ⟨rfl, h.1, h.2⟩
theorem mt_fr (h : MT M k n) (hF : Fr S55 M M') : MT M' k n := by
  obtain ⟨h1, h2, h3, h4⟩ := h
  refine ⟨fr_sk hF h1, ?_, h3, fun i hi => ?_⟩
  · rw [hF.2 255 2 (by unfold S55; omega)]; exact h2
  · rw [hF.2 256 (10 + i) (by unfold S55; omega)]; exact h4 i hi
theorem mt_by (h : MT M k n) (hi : i ≤ n) : ∃ v c, f_X12_byteAt M 255 (nI i) = some v ∧ KV v c ∧ (c = k i ∨ (c = 3 ∧ k i = 0)) ∧ (v < 0 ↔ k i = 0) := by
  have hn := h.2.2.1.1
  unfold f_X12_byteAt
  rw [gI_at (m_shp h.1), bb_some, h.2.1]
  by_cases hi' : i < n
  · rw [if_neg (nI_ge hi' (by omega)), m_r0 h.1, bb_some, show (10 : Int32) + nI i = nI (10 + i) from nI_add 10 i, m_get h.1 (by omega), bb_some]
    have := h.2.2.2 i hi'
    have hr := h.2.2.1.2.2 i hi'
    exact ⟨_, _, rfl, this.1, Or.inl rfl, fun hh => absurd hh this.2, fun hh => by omega⟩
  · rw [if_pos (nI_le (by omega) (by omega))]
    have := h.2.2.1.2.1 i (by omega)
    exact ⟨_, 3, rfl, ⟨127, by omega, by decide +kernel, by decide +kernel⟩, Or.inr ⟨rfl, this⟩, fun _ => this, fun _ => by decide⟩
theorem mt_B0 (h : MT M k n) (hi : M.1 255 3 = nI i) (hin : i ≤ n) : f_X12_advance_B0 M 255 = if k i = 1 then some (.inl (wI M 255 3 (nI (i + 1)))) else some (.inr M) := by
  obtain ⟨v, c, h1, h2, h3, h4⟩ := mt_by h hin
  have hK := (KV_f h2).1
  have hc : c = 1 ↔ k i = 1 := by omega
  simp only [f_X12_advance_B0, gI_at (m_shp h.1), hi, ob_at (m_shp h.1), bb_some, h1, f_X12_advance_J26, pI_at (m_shp h.1), nI_1]
  by_cases g1 : v = 10
  · rw [if_pos g1, if_pos (hc.mp (hK.mp (Or.inl g1)))]
  · by_cases g2 : v = 32
    · rw [if_neg g1, if_pos g2, if_pos (hc.mp (hK.mp (Or.inr g2)))]
    · rw [if_neg g1, if_neg g2, if_neg (fun hh => (hK.mpr (hc.mpr hh)).elim g1 g2)]
/-- the letters of a word -/
def lt (k : Nat → Nat) (s : Nat) : Nat → Nat := fun j => k (s + j) - 32
theorem lt_up (x d : Nat) : (32 : Int64) * lN x + lN (d + 96) - 96 = lN (32 * x + d) := by
  show lN 32 * lN x + lN (d + 96) - lN 96 = _
  rw [lN_mul, lN_add, lN_sub (by omega)]
  congr 1
theorem mt_B77 (h : MT M k n) (hi : M.1 255 3 = nI i) (hin : i ≤ n) {s : Nat} (h4 : M.1 255 4 = nI s) (hs : s ≤ i) : f_X12_advance_B77 M 255 (lN (cd (lt k s) (min (i - s) 8))) = if 33 ≤ k i then some (.inl (lN (cd (lt k s) (min (i + 1 - s) 8)), wI M 255 3 (nI (i + 1)))) else some (.inr (lN (cd (lt k s) (min (i - s) 8)), M)) := by
  obtain ⟨v, c, h1, h2, h3, h5⟩ := mt_by h hin
  have hn := h.2.2.1.1
  have hc : 33 ≤ c ↔ 33 ≤ k i := by omega
  simp only [f_X12_advance_B77, gI_at (m_shp h.1), hi, ob_at (m_shp h.1), bb_some, h1, f_X12_advance_J125, pI_at (m_shp h.1), nI_1, (KV_let h2 M).2, h4, nI_sb hs]
  by_cases g1 : 33 ≤ k i
  · have hv := (KV_f h2).2.2.2.2.1 (hc.mpr g1)
    have hc58 := (KV_f h2).2.2.2.2.2.2.2.1
    have hck : c = k i := by omega
    rw [if_pos (hc.mpr g1), if_neg (by decide), if_pos g1]
    by_cases g2 : 8 ≤ i - s
    · rw [if_pos (show (8 : Int32) ≤ nI (i - s) from nI_le g2 (by omega)), show min (i - s) 8 = 8 by omega, show min (i + 1 - s) 8 = 8 by omega]
    · rw [if_neg (show ¬ (8 : Int32) ≤ nI (i - s) from nI_ge (a := i - s) (b := 8) (by omega) (by omega)), hv, nI_l (by omega), hck, show k i + 64 = (k i - 32) + 96 by omega, lt_up, show min (i + 1 - s) 8 = (i - s) + 1 by omega, show min (i - s) 8 = i - s by omega]
      have : cd (lt k s) (i - s + 1) = 32 * cd (lt k s) (i - s) + (k i - 32) := by
        show 32 * cd (lt k s) (i - s) + (k (s + (i - s)) - 32) = _
        rw [show s + (i - s) = i by omega]
      rw [this]
  · rw [if_neg (fun hh => g1 (hc.mp hh)), if_pos rfl, if_neg g1]
theorem dg_up2 (x d : Nat) : (10 : Int32) * nI x + nI (d + 48) - 48 = nI (10 * x + d) := by
  show nI 10 * nI x + nI (d + 48) - nI 48 = _
  rw [pk_mul, nI_add, ← Nat.add_assoc, ← nI_add (10 * x + d) 48, Int32.add_sub_cancel]
theorem mt_B198 (h : MT M k n) (hi : M.1 255 3 = nI i) (hin : i ≤ n) {s : Nat} (h4 : M.1 255 4 = nI s) (hs : s ≤ i) (h6 : M.1 255 6 = nI (nv k s (min (i - s) 2))) : if 10 ≤ k i ∧ k i ≤ 19 then ∃ M', f_X12_advance_B198 M 255 = some (.inl M') ∧ Fr (fun a b => a = 255 ∧ (b = 3 ∨ b = 6)) M M' ∧ M'.1 255 3 = nI (i + 1) ∧ M'.1 255 6 = nI (nv k s (min (i + 1 - s) 2)) else f_X12_advance_B198 M 255 = some (.inr M) := by
  obtain ⟨v, c, h1, h2, h3, h5⟩ := mt_by h hin
  have hn := h.2.2.1.1
  have hc : (10 ≤ c ∧ c ≤ 19) ↔ (10 ≤ k i ∧ k i ≤ 19) := by omega
  simp only [f_X12_advance_B198, gI_at (m_shp h.1), hi, ob_at (m_shp h.1), bb_some, h1, f_X12_advance_J248, pI_at (m_shp h.1), nI_1, (KV_dig h2 M).2, h4, nI_sb hs, h6]
  by_cases g1 : 10 ≤ k i ∧ k i ≤ 19
  · have hg := hc.mpr g1
    have hv := (KV_f h2).2.2.2.2.2.1 hg.1 hg.2
    have hck : c = k i := by omega
    rw [if_pos g1, if_pos hg, if_neg (by decide)]
    by_cases g2 : 2 ≤ i - s
    · rw [if_pos (show (2 : Int32) ≤ nI (i - s) from nI_le g2 (by omega))]
      refine ⟨_, rfl, fr_wI ⟨rfl, Or.inl rfl⟩, wI_same _ _ _ _, ?_⟩
      rw [wI_rd, if_neg (by omega), h6, show min (i - s) 2 = 2 by omega, show min (i + 1 - s) 2 = 2 by omega]
    · rw [if_neg (show ¬ (2 : Int32) ≤ nI (i - s) from nI_ge (a := i - s) (b := 2) (by omega) (by omega)), hv, hck, show k i + 38 = (k i - 10) + 48 by omega, dg_up2]
      have s1 : shp (wI M 255 6 (nI (10 * nv k s (min (i - s) 2) + (k i - 10)))) 255 = some (.inl 12) := m_shp h.1
      rw [gI_at s1, bb_some, pI_at s1, bb_some]
      refine ⟨_, rfl, fr_put (fr_wI ⟨rfl, Or.inr rfl⟩) ⟨rfl, Or.inl rfl⟩, ?_, ?_⟩
      · rw [wI_same, wI_rd, if_neg (by omega), hi, nI_1]
      · rw [wI_rd, if_neg (by omega), wI_same, show min (i + 1 - s) 2 = (i - s) + 1 by omega, show min (i - s) 2 = i - s by omega]
        show _ = nI (10 * nv k s (i - s) + (k (s + (i - s)) - 10))
        rw [show s + (i - s) = i by omega]
  · rw [if_neg g1, if_neg (fun hh => g1 (hc.mp hh)), if_pos rfl]
theorem mt_L0 (h : MT M k n) (hp : M.1 255 3 = nI p) (hpn : p ≤ n) : ∃ M', f_X12_advance_L0 M 255 = some M' ∧ Fr S55 M M' ∧ M'.1 255 3 = nI (ts k p) := by
  have hn := h.2.2.1.1
  obtain ⟨g1, g2, g3, g4⟩ := sc_ok (P := pSp) rfl h.2.2.1.2.1 700 p hpn (by omega)
  have g2 : ts k p ≤ n := g2
  refine iter_rel (f := fun s : Mem => f_X12_advance_B0 s 255) (ts k p) (fun i s => Fr S55 M s ∧ s.1 255 3 = nI i ∧ p ≤ i) (fun r => Fr S55 M r ∧ r.1 255 3 = nI (ts k p)) ?_ ?_ 1048576 p M g1 ⟨fr_refl, hp, Nat.le_refl _⟩ (by omega)
  · intro i s hi hs
    refine Or.inl ⟨_, ?_, fr_put hs.1 (S55_8 (by omega)), wI_same _ _ _ _, by omega⟩
    have := g3 i hs.2.2 hi
    rw [mt_B0 (mt_fr h hs.1) hs.2.1 (by omega), if_pos (of_decide_eq_true this)]
  · intro s hs
    refine ⟨s, ?_, hs.1, hs.2.1⟩
    show f_X12_advance_B0 s 255 = _
    rw [mt_B0 (mt_fr h hs.1) hs.2.1 g2, if_neg (show ¬ k (ts k p) = 1 from of_decide_eq_false g4)]
theorem mt_LW (h : MT M k n) (hp : M.1 255 3 = nI p) (h4 : M.1 255 4 = nI p) (hpn : p ≤ n) : ∃ r, f_X12_advance_L77 M 255 0 = some r ∧ r.1 = lN (cd (lt k p) (min (sc pLt k 700 p - p) 8)) ∧ Fr (fun a b => a = 255 ∧ b = 3) M r.2 ∧ r.2.1 255 3 = nI (sc pLt k 700 p) := by
  have hn := h.2.2.1.1
  obtain ⟨g1, g2, g3, g4⟩ := sc_ok (P := pLt) rfl h.2.2.1.2.1 700 p hpn (by omega)
  have up55 : ∀ {s : Mem}, Fr (fun a b => a = 255 ∧ b = 3) M s → Fr S55 M s := fun hf => fr_mono hf (fun a b hh => ⟨hh.1, by omega, by omega⟩)
  refine iter_rel (f := fun s : Int64 × Mem => f_X12_advance_B77 s.2 255 s.1) (sc pLt k 700 p) (fun i s => s.1 = lN (cd (lt k p) (min (i - p) 8)) ∧ Fr (fun a b => a = 255 ∧ b = 3) M s.2 ∧ s.2.1 255 3 = nI i ∧ p ≤ i) (fun r => r.1 = lN (cd (lt k p) (min (sc pLt k 700 p - p) 8)) ∧ Fr (fun a b => a = 255 ∧ b = 3) M r.2 ∧ r.2.1 255 3 = nI (sc pLt k 700 p)) ?_ ?_ 1048576 p (0, M) g1 ⟨?_, fr_refl, hp, Nat.le_refl _⟩ (by omega)
  · intro i ⟨x, s⟩ hi ⟨q1, q2, q3, q4⟩
    have q1 : x = _ := q1
    have := g3 i q4 hi
    refine Or.inl ⟨(lN (cd (lt k p) (min (i + 1 - p) 8)), wI s 255 3 (nI (i + 1))), ?_, rfl, fr_put q2 ⟨rfl, rfl⟩, wI_same _ _ _ _, by omega⟩
    · show f_X12_advance_B77 s 255 x = _
      rw [q1, mt_B77 (mt_fr h (up55 q2)) q3 (by omega) (s := p) (by rw [q2.2 255 4 (by omega)]; exact h4) q4, if_pos (of_decide_eq_true this)]
  · intro ⟨x, s⟩ ⟨q1, q2, q3, q4⟩
    have q1 : x = _ := q1
    refine ⟨(x, s), ?_, q1, q2, q3⟩
    show f_X12_advance_B77 s 255 x = _
    rw [q1, mt_B77 (mt_fr h (up55 q2)) q3 g2 (s := p) (by rw [q2.2 255 4 (by omega)]; exact h4) q4, if_neg (of_decide_eq_false g4)]
  · show (0 : Int64) = lN (cd (lt k p) (min (p - p) 8))
    rw [Nat.sub_self]; rfl
theorem mt_LN (h : MT M k n) (hp : M.1 255 3 = nI p) (h4 : M.1 255 4 = nI p) (hpn : p ≤ n) (hx : M.1 255 6 = nI 0) : ∃ M', f_X12_advance_L198 M 255 = some M' ∧ Fr (fun a b => a = 255 ∧ (b = 3 ∨ b = 6)) M M' ∧ M'.1 255 3 = nI (sc pDg k 700 p) ∧ M'.1 255 6 = nI (nv k p (min (sc pDg k 700 p - p) 2)) := by
  have hn := h.2.2.1.1
  obtain ⟨g1, g2, g3, g4⟩ := sc_ok (P := pDg) rfl h.2.2.1.2.1 700 p hpn (by omega)
  have up55 : ∀ {s : Mem}, Fr (fun a b => a = 255 ∧ (b = 3 ∨ b = 6)) M s → Fr S55 M s := fun hf => fr_mono hf (fun a b hh => ⟨hh.1, by omega, by omega⟩)
  refine iter_rel (f := fun s : Mem => f_X12_advance_B198 s 255) (sc pDg k 700 p) (fun i s => Fr (fun a b => a = 255 ∧ (b = 3 ∨ b = 6)) M s ∧ s.1 255 3 = nI i ∧ s.1 255 6 = nI (nv k p (min (i - p) 2)) ∧ p ≤ i) (fun r => Fr (fun a b => a = 255 ∧ (b = 3 ∨ b = 6)) M r ∧ r.1 255 3 = nI (sc pDg k 700 p) ∧ r.1 255 6 = nI (nv k p (min (sc pDg k 700 p - p) 2))) ?_ ?_ 1048576 p M g1 ⟨fr_refl, hp, ?_, Nat.le_refl _⟩ (by omega)
  · intro i s hi ⟨q1, q2, q3, q4⟩
    have := g3 i q4 hi
    have hb := mt_B198 (mt_fr h (up55 q1)) q2 (by omega) (s := p) (by rw [q1.2 255 4 (by omega)]; exact h4) q4 q3
    rw [if_pos (of_decide_eq_true this)] at hb
    obtain ⟨s', b1, b2, b3, b4⟩ := hb
    exact Or.inl ⟨s', b1, fr_trans q1 b2, b3, b4, by omega⟩
  · intro s ⟨q1, q2, q3, q4⟩
    refine ⟨s, ?_, q1, q2, q3⟩
    have hb := mt_B198 (mt_fr h (up55 q1)) q2 g2 (s := p) (by rw [q1.2 255 4 (by omega)]; exact h4) q4 q3
    rw [if_neg (of_decide_eq_false g4)] at hb
    exact hb
  · rw [hx, Nat.sub_self]; rfl
/-- which word, and the token's kind -/
def wx (k : Nat → Nat) (p : Nat) : Nat := if te k p - ts k p ≤ 8 then wf (cd (lt k (ts k p)) (te k p - ts k p)) else 99
def td (k : Nat → Nat) (p : Nat) : Nat := if k (ts k p) = 0 then 0 else if 33 ≤ k (ts k p) then (if wx k p = 99 then 4 else 3) else if 10 ≤ k (ts k p) then (if 2 < te k p - ts k p then 4 else 1) else if k (ts k p) = 2 then 2 else 4
theorem cd_lt {a : Nat → Nat} : ∀ m, (∀ i, i < m → a i ≤ 26) → cd a m < 32 ^ m := by
  intro m
  induction m with
  | zero => intro _; exact Nat.one_pos
  | succ m ih =>
    intro h
    have h1 := ih (fun i hi => h i (by omega))
    have h2 := h m (by omega)
    show 32 * cd a m + a m < 32 ^ (m + 1)
    rw [Nat.pow_succ]
    omega
theorem m_tok (h : MT M k n) (hp : M.1 255 3 = nI p) (hpn : p ≤ n) : ∃ M', f_X12_advance M 255 = some M' ∧ Fr S55 M M' ∧ M'.1 255 4 = nI (ts k p) ∧ M'.1 255 3 = nI (te k p) ∧ M'.1 255 5 = nI (td k p) ∧ (td k p = 1 → M'.1 255 6 = nI (nv k (ts k p) (te k p - ts k p))) ∧ (td k p = 3 → M'.1 255 7 = nI (mc (wx k p))) := by
  have hn := h.2.2.1.1
  obtain ⟨i1, i2, i3, i4, i5, i6⟩ := tk_in h.2.2.1 hpn
  obtain ⟨M1, e1, f1, g1⟩ := mt_L0 h hp hpn
  have hC1 := mt_fr h f1
  have f2 : Fr S55 M (wI M1 255 4 (nI (ts k p))) := fr_put f1 (S55_8 (by omega))
  have hC2 := mt_fr h f2
  generalize hM2 : wI M1 255 4 (nI (ts k p)) = M2 at f2 hC2
  have r4 : M2.1 255 4 = nI (ts k p) := by rw [← hM2]; exact wI_same _ _ _ _
  have r3 : M2.1 255 3 = nI (ts k p) := by rw [← hM2, wI_rd, if_neg (by omega)]; exact g1
  obtain ⟨v, c, b1, b2, b3, b4⟩ := mt_by hC2 (i := ts k p) (by omega)
  unfold f_X12_advance
  rw [e1, bb_some, gI_at (m_shp hC1.1), bb_some, pI_at (m_shp hC1.1), bb_some, g1, hM2, gI_at (m_shp hC2.1), bb_some, ob_at (m_shp hC2.1), bb_some, r3, b1, bb_some]
  generalize hs : ts k p = s at *
  generalize he : te k p = e at *
  have htd : td k p = if k s = 0 then 0 else if 33 ≤ k s then (if wx k p = 99 then 4 else 3) else if 10 ≤ k s then (if 2 < e - s then 4 else 1) else if k s = 2 then 2 else 4 := by unfold td; rw [hs, he]
  have hwx : wx k p = if e - s ≤ 8 then wf (cd (lt k s) (e - s)) else 99 := by unfold wx; rw [hs, he]
  have hte : e = if k s = 0 then s else if 33 ≤ k s then sc pLt k 700 s else if 10 ≤ k s then sc pDg k 700 s else s + 1 := by rw [← he]; unfold te ee; rw [hs]
  have hv0 : 0 ≤ v ↔ ¬ k s = 0 := by
    rw [← b4, Int32.lt_iff_toInt_lt, Int32.le_iff_toInt_le]; omega
  by_cases h0 : k s = 0
  · rw [if_neg (fun hh => hv0.mp hh h0), pI_at (m_shp hC2.1), bb_some]
    rw [if_pos h0] at htd
    refine ⟨_, rfl, fr_put f2 (S55_8 (by omega)), ?_, ?_, ?_, fun hh => ?_, fun hh => ?_⟩
    · rw [wI_rd, if_neg (by omega)]; exact r4
    · rw [wI_rd, if_neg (by omega), r3, i6.mp h0]
    · rw [wI_same, htd]; rfl
    · rw [htd] at hh; omega
    · rw [htd] at hh; omega
  · have hsn : s < n := by
      rcases Nat.lt_or_ge s n with h' | h'
      · exact h'
      · exact absurd (h.2.2.1.2.1 s h') h0
    have hR := h.2.2.1.2.2 s hsn
    have hck : c = k s := by omega
    subst hck
    rw [if_neg h0] at htd hte
    rw [if_pos (hv0.mpr h0), (KV_let b2 M2).2, bb_some]
    by_cases h1 : 33 ≤ k s
    · rw [if_pos h1] at htd hte
      rw [if_pos h1, if_neg (by decide)]
      obtain ⟨⟨x, M3⟩, e3, g0, f3, g3⟩ := mt_LW hC2 r3 r4 (by omega)
      have g0 : x = lN (cd (lt k s) (min (sc pLt k 700 s - s) 8)) := g0
      have f3 : Fr (fun a b => a = 255 ∧ b = 3) M2 M3 := f3
      have g3 : M3.1 255 3 = nI (sc pLt k 700 s) := g3
      rw [← hte] at g0 g3
      have f4 : Fr S55 M M3 := fr_trans f2 (fr_mono f3 (fun a b hh => ⟨hh.1, by omega, by omega⟩))
      have hC3 := mt_fr h f4
      have r4' : M3.1 255 4 = nI s := by rw [f3.2 255 4 (by omega)]; exact r4
      rw [e3, bb_some]
      simp only
      rw [gI_at (m_shp hC3.1), bb_some, gI_at (m_shp hC3.1), bb_some, g3, r4', nI_sb i2]
      have key : ∀ w, w = wx k p → (w < 15 ∨ w = 99) → ∃ M', f_X12_advance_J162 M3 255 255 (nI (mc w)) = some M' ∧ Fr S55 M M' ∧ M'.1 255 4 = nI s ∧ M'.1 255 3 = nI e ∧ M'.1 255 5 = nI (td k p) ∧ (td k p = 1 → M'.1 255 6 = nI (nv k s (e - s))) ∧ (td k p = 3 → M'.1 255 7 = nI (mc (wx k p))) := by
        intro w hw hw'
        rw [← hw] at htd ⊢
        have s1 : shp (wI M3 255 7 (nI (mc w))) 255 = some (.inl 12) := m_shp hC3.1
        have f5 := fr_put (v := nI (mc w)) f4 (S55_8 (b := 7) (by omega))
        unfold f_X12_advance_J162 f_X12_advance_J180
        rw [pI_at (m_shp hC3.1), bb_some, gI_at s1, bb_some, wI_same, pI_at s1, bb_some, pI_at s1, bb_some]
        have hm : mc w = 99 ↔ w = 99 := by
          rcases hw' with hh | hh
          · have : ∀ w, w < 15 → (mc w = 99 ↔ w = 99) := by decide
            exact this w hh
          · rw [hh]; decide
        have hmb : mc w < 2 ^ 31 := by unfold mc; repeat' split
                                       all_goals omega
        by_cases h9 : w = 99
        · rw [if_pos h9] at htd
          rw [if_pos (by rw [hm.mpr h9]; rfl)]
          refine ⟨_, rfl, fr_put f5 (S55_8 (by omega)), ?_, ?_, ?_, fun hh => ?_, fun hh => ?_⟩
          · rw [wI_rd, if_neg (by omega), wI_rd, if_neg (by omega)]; exact r4'
          · rw [wI_rd, if_neg (by omega), wI_rd, if_neg (by omega)]; exact g3
          · rw [wI_same, htd]; rfl
          · rw [htd] at hh; omega
          · rw [htd] at hh; omega
        · rw [if_neg h9] at htd
          rw [if_neg (show ¬ nI (mc w) = 99 from fun hh => h9 (hm.mp ((nI_eq (b := 99) hmb (by omega)).mp hh)))]
          refine ⟨_, rfl, fr_put f5 (S55_8 (by omega)), ?_, ?_, ?_, fun hh => ?_, fun hh => ?_⟩
          · rw [wI_rd, if_neg (by omega), wI_rd, if_neg (by omega)]; exact r4'
          · rw [wI_rd, if_neg (by omega), wI_rd, if_neg (by omega)]; exact g3
          · rw [wI_same, htd]; rfl
          · rw [htd] at hh; omega
          · rw [wI_rd, if_neg (by omega), wI_same]
      by_cases h8 : e - s ≤ 8
      · rw [if_pos (show nI (e - s) ≤ (8 : Int32) from nI_le (b := 8) h8 (by omega)), g0, show min (e - s) 8 = e - s by omega, m_word M3 ?_, bb_some]
        · rw [if_pos h8] at hwx
          exact key _ hwx.symm ((wf_c _).elim (fun hh => Or.inl hh.1) Or.inr)
        · have h26 : ∀ i, i < e - s → lt k s i ≤ 26 := fun i hi => by
            have := h.2.2.1.2.2 (s + i) (by omega)
            show k (s + i) - 32 ≤ 26
            omega
          have q1 := cd_lt (e - s) h26
          have q2 : 32 ^ (e - s) ≤ 32 ^ 8 := Nat.pow_le_pow_right (by omega) h8
          omega
      · rw [if_neg (show ¬ nI (e - s) ≤ (8 : Int32) from nI_ge (a := 8) (b := e - s) (by omega) (by omega))]
        rw [if_neg h8] at hwx
        exact key 99 hwx.symm (Or.inr rfl)
    · rw [if_neg h1] at htd hte
      rw [if_neg h1, if_pos rfl, (KV_dig b2 M2).2, bb_some]
      by_cases h2 : 10 ≤ k s
      · rw [if_pos h2] at htd hte
        rw [if_pos (show 10 ≤ k s ∧ k s ≤ 19 by omega), if_neg (by decide)]
        have f3 : Fr S55 M (wI M2 255 6 (nI 0)) := fr_put f2 (S55_8 (by omega))
        have q3 : (wI M2 255 6 (nI 0)).1 255 3 = nI s := by rw [wI_rd, if_neg (by omega)]; exact r3
        have q4 : (wI M2 255 6 (nI 0)).1 255 4 = nI s := by rw [wI_rd, if_neg (by omega)]; exact r4
        obtain ⟨M4, e4, f4, g4, g5⟩ := mt_LN (mt_fr h f3) q3 q4 (by omega) (wI_same _ _ _ _)
        rw [← hte] at g4 g5
        have f5 : Fr S55 M M4 := fr_trans f3 (fr_mono f4 (fun a b hh => ⟨hh.1, by omega, by omega⟩))
        have hC5 := mt_fr h f5
        have r4' : M4.1 255 4 = nI s := by rw [f4.2 255 4 (by omega)]; exact q4
        rw [pI_at (m_shp hC2.1), bb_some]
        have e4 : f_X12_advance_L198 (wI M2 255 6 0) 255 = some M4 := e4
        rw [e4, bb_some, gI_at (m_shp hC5.1), bb_some, gI_at (m_shp hC5.1), bb_some, g4, r4', nI_sb i2]
        unfold f_X12_advance_J280
        rw [pI_at (m_shp hC5.1), bb_some, pI_at (m_shp hC5.1), bb_some]
        by_cases h3 : 2 < e - s
        · rw [if_neg (show ¬ nI (e - s) ≤ (2 : Int32) from nI_ge (a := 2) (b := e - s) h3 (by omega))]
          rw [if_pos h3] at htd
          refine ⟨_, rfl, fr_put f5 (S55_8 (by omega)), ?_, ?_, ?_, fun hh => ?_, fun hh => ?_⟩
          · rw [wI_rd, if_neg (by omega)]; exact r4'
          · rw [wI_rd, if_neg (by omega), g4]
          · rw [wI_same, htd]; rfl
          · rw [htd] at hh; omega
          · rw [htd] at hh; omega
        · rw [if_pos (show nI (e - s) ≤ (2 : Int32) from nI_le (b := 2) (by omega) (by omega))]
          rw [if_neg h3] at htd
          refine ⟨_, rfl, fr_put f5 (S55_8 (by omega)), ?_, ?_, ?_, fun hh => ?_, fun hh => ?_⟩
          · rw [wI_rd, if_neg (by omega)]; exact r4'
          · rw [wI_rd, if_neg (by omega), g4]
          · rw [wI_same, htd]; rfl
          · rw [wI_rd, if_neg (by omega), g5, show min (e - s) 2 = e - s by omega]
          · rw [htd] at hh; omega
      · rw [if_neg h2] at htd hte
        rw [if_neg (show ¬ (10 ≤ k s ∧ k s ≤ 19) by omega), if_pos rfl, bb_some, pI_at (m_shp hC2.1), bb_some, nI_1, ← hte]
        have s1 : shp (wI M2 255 3 (nI e)) 255 = some (.inl 12) := m_shp hC2.1
        have f5 := fr_put (v := nI e) f2 (S55_8 (b := 3) (by omega))
        unfold f_X12_advance_J308
        rw [pI_at s1, bb_some, pI_at s1, bb_some]
        have key : ∀ x : Nat, x = td k p → (Fr S55 M (wI (wI M2 255 3 (nI e)) 255 5 (nI x)) ∧ (wI (wI M2 255 3 (nI e)) 255 5 (nI x)).1 255 4 = nI s ∧ (wI (wI M2 255 3 (nI e)) 255 5 (nI x)).1 255 3 = nI e ∧ (wI (wI M2 255 3 (nI e)) 255 5 (nI x)).1 255 5 = nI (td k p) ∧ (td k p = 1 → (wI (wI M2 255 3 (nI e)) 255 5 (nI x)).1 255 6 = nI (nv k s (e - s))) ∧ (td k p = 3 → (wI (wI M2 255 3 (nI e)) 255 5 (nI x)).1 255 7 = nI (mc (wx k p)))) := by
          intro x hx
          refine ⟨fr_put f5 (S55_8 (by omega)), ?_, ?_, by rw [wI_same, hx], fun hh => ?_, fun hh => ?_⟩
          · rw [wI_rd, if_neg (by omega), wI_rd, if_neg (by omega)]; exact r4
          · rw [wI_rd, if_neg (by omega), wI_same]
          · rw [htd] at hh; split at hh <;> omega
          · rw [htd] at hh; split at hh <;> omega
        by_cases h3 : k s = 2
        · rw [if_pos ((KV_f b2).2.1.mpr h3)]
          exact ⟨_, rfl, key 2 (by rw [htd, if_pos h3])⟩
        · rw [if_neg (fun hh => h3 ((KV_f b2).2.1.mp hh))]
          exact ⟨_, rfl, key 4 (by rw [htd, if_neg h3])⟩
end
