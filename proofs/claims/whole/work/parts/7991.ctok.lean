/-! the class's tokens -/
section
variable {M M' : Mem} {k : Nat → Nat} {n p i : Nat}
/-- the class's reader holds the text k of length n -/
def CT (M : Mem) (k : Nat → Nat) (n : Nat) : Prop := Sk M ∧ M.2.2.1 46 5 = 3 ∧ M.1 46 7 = nI n ∧ n ≤ 600 ∧ (∀ i, n ≤ i → k i = 0) ∧ ∀ i, i < n → KV (M.1 3 i) (k i)
def S46 (a b : Nat) : Prop := a = 46 ∧ 8 ≤ b ∧ b ≤ 11
theorem ct_fr (h : CT M k n) (hF : Fr S46 M M') : CT M' k n := by
  obtain ⟨h1, h2, h3, h4, h5, h6⟩ := h
  refine ⟨fr_sk hF h1, by rw [hF.1]; exact h2, ?_, h4, h5, fun i hi => ?_⟩
  · rw [hF.2 46 7 (by unfold S46; omega)]; exact h3
  · rw [hF.2 3 i (by unfold S46; omega)]; exact h6 i hi
theorem ct_shp (h : CT M k n) : shp M 46 = some (.inl 7) := sk_shp h.1 (by omega) rfl
theorem ct_at (h : CT M k n) (hi : i < n) : aI M 1 3 (nI i) = some (M.1 3 i) := aI_at (sk_shp h.1 (by omega) rfl) (show i < 600 by have := h.2.2.2.1; omega) (by omega) (by omega)
theorem ct_r5 (h : CT M k n) : gR M 7 46 5 = some 3 := by rw [gR_at (ct_shp h), h.2.1]
theorem ct_B0 (h : CT M k n) (hi : M.1 46 10 = nI i) (hin : i ≤ n) : f_X7_takeToken_B0 M 46 = if k i = 1 then some (.inl (wI M 46 10 (nI (i + 1)))) else some (.inr M) := by
  have hn := h.2.2.2.1
  simp only [f_X7_takeToken_B0, gI_at (ct_shp h), hi, h.2.2.1, bb_some]
  by_cases hi' : i < n
  · rw [if_neg (nI_ge hi' (by omega))]
    have hK := (KV_f (h.2.2.2.2.2 i hi')).1
    simp only [ct_r5 h, ct_at h hi', bb_some, f_X7_takeToken_J39, gI_at (ct_shp h), pI_at (ct_shp h), hi, nI_1]
    by_cases h1 : M.1 3 i = 10
    · rw [if_pos h1, if_pos (hK.mp (Or.inl h1))]
    · by_cases h2 : M.1 3 i = 32
      · rw [if_neg h1, if_pos h2, if_pos (hK.mp (Or.inr h2))]
      · rw [if_neg h1, if_neg h2, if_neg (fun hh => (hK.mpr hh).elim h1 h2)]
  · rw [if_pos (nI_le (by omega) (by omega)), if_neg (by rw [h.2.2.2.2.1 i (by omega)]; omega)]
theorem ct_BW (h : CT M k n) (hi : M.1 46 10 = nI i) (hin : i ≤ n) : f_X7_takeWord_B0 M 46 = if 33 ≤ k i then some (.inl (wI M 46 10 (nI (i + 1)))) else some (.inr M) := by
  have hn := h.2.2.2.1
  simp only [f_X7_takeWord_B0, gI_at (ct_shp h), hi, h.2.2.1, bb_some]
  by_cases hi' : i < n
  · rw [if_neg (nI_ge hi' (by omega))]
    simp only [ct_r5 h, ct_at h hi', bb_some, (KV_let (h.2.2.2.2.2 i hi') M).1, pI_at (ct_shp h), nI_1]
    by_cases h1 : 33 ≤ k i
    · rw [if_pos h1, if_neg (by decide), if_pos h1]
    · rw [if_neg h1, if_pos rfl, if_neg h1]
  · rw [if_pos (nI_le (by omega) (by omega)), if_neg (by rw [h.2.2.2.2.1 i (by omega)]; omega)]
theorem dg_up (x d : Nat) : nI x * 10 + nI (d + 48) - 48 = nI (10 * x + d) := by
  show nI x * nI 10 + nI (d + 48) - nI 48 = _
  rw [pk_mul, nI_add, show x * 10 + (d + 48) = 10 * x + d + 48 by omega, ← nI_add (10 * x + d) 48, Int32.add_sub_cancel]
theorem ct_BN (h : CT M k n) (hi : M.1 46 10 = nI i) (hin : i ≤ n) {x : Nat} (hx : M.1 46 11 = nI x) : f_X7_takeNumber_B5 M 46 = if 10 ≤ k i ∧ k i ≤ 19 then some (.inl (wI (wI M 46 11 (nI (10 * x + (k i - 10)))) 46 10 (nI (i + 1)))) else some (.inr M) := by
  have hn := h.2.2.2.1
  simp only [f_X7_takeNumber_B5, gI_at (ct_shp h), hi, h.2.2.1, bb_some]
  by_cases hi' : i < n
  · rw [if_neg (nI_ge hi' (by omega))]
    have hK := (KV_f (h.2.2.2.2.2 i hi')).2.2.2.2.2.1
    simp only [ct_r5 h, ct_at h hi', bb_some, (KV_dig (h.2.2.2.2.2 i hi') M).1, pI_at (ct_shp h), hx]
    by_cases h1 : 10 ≤ k i ∧ k i ≤ 19
    · rw [if_pos h1, if_neg (by decide), if_pos h1, hK h1.1 h1.2, show k i + 38 = k i - 10 + 48 by omega, dg_up]
      have s1 : shp (wI M 46 11 (nI (10 * x + (k i - 10)))) 46 = some (.inl 7) := ct_shp h
      rw [gI_at s1, bb_some, pI_at s1, bb_some, wI_rd, if_neg (by omega), hi, nI_1]
    · rw [if_neg h1, if_pos rfl, if_neg h1]
  · rw [if_pos (nI_le (by omega) (by omega)), if_neg (by rw [h.2.2.2.2.1 i (by omega)]; omega)]
theorem S46_8 {b : Nat} (h : 8 ≤ b ∧ b ≤ 11) : S46 46 b := ⟨rfl, h.1, h.2⟩
theorem ct_L0 (h : CT M k n) (hp : M.1 46 10 = nI p) (hpn : p ≤ n) : ∃ M', f_X7_takeToken_L0 M 46 = some M' ∧ Fr S46 M M' ∧ M'.1 46 10 = nI (ts k p) := by
  have hn := h.2.2.2.1
  obtain ⟨g1, g2, g3, g4⟩ := sc_ok (P := pSp) rfl h.2.2.2.2.1 700 p hpn (by omega)
  refine iter_rel (f := fun s : Mem => f_X7_takeToken_B0 s 46) (ts k p) (fun i s => Fr S46 M s ∧ s.1 46 10 = nI i ∧ p ≤ i) (fun r => Fr S46 M r ∧ r.1 46 10 = nI (ts k p)) ?_ ?_ 1048576 p M g1 ⟨fr_refl, hp, Nat.le_refl _⟩ (by have : ts k p ≤ n := g2; omega)
  · intro i s hi hs
    refine Or.inl ⟨_, ?_, fr_put hs.1 (S46_8 (by omega)), wI_same _ _ _ _, by omega⟩
    have := g3 i hs.2.2 hi
    have hh : ts k p ≤ n := g2
    rw [ct_B0 (ct_fr h hs.1) hs.2.1 (by omega), if_pos (of_decide_eq_true this)]
  · intro s hs
    refine ⟨s, ?_, hs.1, hs.2.1⟩
    have hh : ts k p ≤ n := g2
    show f_X7_takeToken_B0 s 46 = _
    rw [ct_B0 (ct_fr h hs.1) hs.2.1 hh, if_neg (show ¬ k (ts k p) = 1 from of_decide_eq_false g4)]
theorem ct_LW (h : CT M k n) (hp : M.1 46 10 = nI p) (hpn : p ≤ n) : ∃ M', f_X7_takeWord_L0 M 46 = some M' ∧ Fr (fun a b => a = 46 ∧ b = 10) M M' ∧ M'.1 46 10 = nI (sc pLt k 700 p) := by
  have hn := h.2.2.2.1
  obtain ⟨g1, g2, g3, g4⟩ := sc_ok (P := pLt) rfl h.2.2.2.2.1 700 p hpn (by omega)
  have up46 : ∀ {s : Mem}, Fr (fun a b => a = 46 ∧ b = 10) M s → Fr S46 M s := fun hf => fr_mono hf (fun a b hh => ⟨hh.1, by omega, by omega⟩)
  refine iter_rel (f := fun s : Mem => f_X7_takeWord_B0 s 46) (sc pLt k 700 p) (fun i s => Fr (fun a b => a = 46 ∧ b = 10) M s ∧ s.1 46 10 = nI i ∧ p ≤ i) (fun r => Fr (fun a b => a = 46 ∧ b = 10) M r ∧ r.1 46 10 = nI (sc pLt k 700 p)) ?_ ?_ 1048576 p M g1 ⟨fr_refl, hp, Nat.le_refl _⟩ (by omega)
  · intro i s hi hs
    refine Or.inl ⟨_, ?_, fr_put hs.1 ⟨rfl, rfl⟩, wI_same _ _ _ _, by omega⟩
    have := g3 i hs.2.2 hi
    rw [ct_BW (ct_fr h (up46 hs.1)) hs.2.1 (by omega), if_pos (of_decide_eq_true this)]
  · intro s hs
    refine ⟨s, ?_, hs.1, hs.2.1⟩
    show f_X7_takeWord_B0 s 46 = _
    rw [ct_BW (ct_fr h (up46 hs.1)) hs.2.1 g2, if_neg (of_decide_eq_false g4)]
theorem ct_LN (h : CT M k n) (hp : M.1 46 10 = nI p) (hpn : p ≤ n) (hx : M.1 46 11 = nI 0) : ∃ M', f_X7_takeNumber_L5 M 46 = some M' ∧ Fr (fun a b => a = 46 ∧ (b = 10 ∨ b = 11)) M M' ∧ M'.1 46 10 = nI (sc pDg k 700 p) ∧ M'.1 46 11 = nI (nv k p (sc pDg k 700 p - p)) := by
  have hn := h.2.2.2.1
  obtain ⟨g1, g2, g3, g4⟩ := sc_ok (P := pDg) rfl h.2.2.2.2.1 700 p hpn (by omega)
  have up46 : ∀ {s : Mem}, Fr (fun a b => a = 46 ∧ (b = 10 ∨ b = 11)) M s → Fr S46 M s := fun hf => fr_mono hf (fun a b hh => ⟨hh.1, by omega, by omega⟩)
  refine iter_rel (f := fun s : Mem => f_X7_takeNumber_B5 s 46) (sc pDg k 700 p) (fun i s => Fr (fun a b => a = 46 ∧ (b = 10 ∨ b = 11)) M s ∧ s.1 46 10 = nI i ∧ s.1 46 11 = nI (nv k p (i - p)) ∧ p ≤ i) (fun r => Fr (fun a b => a = 46 ∧ (b = 10 ∨ b = 11)) M r ∧ r.1 46 10 = nI (sc pDg k 700 p) ∧ r.1 46 11 = nI (nv k p (sc pDg k 700 p - p))) ?_ ?_ 1048576 p M g1 ⟨fr_refl, hp, by rw [Nat.sub_self]; exact hx, Nat.le_refl _⟩ (by omega)
  · intro i s hi ⟨q1, q2, q3, q4⟩
    have := g3 i q4 hi
    refine Or.inl ⟨_, by rw [ct_BN (ct_fr h (up46 q1)) q2 (by omega) q3, if_pos (of_decide_eq_true this)], fr_put (fr_put q1 ⟨rfl, Or.inr rfl⟩) ⟨rfl, Or.inl rfl⟩, wI_same _ _ _ _, ?_, by omega⟩
    rw [wI_rd, if_neg (by omega), wI_same, show i + 1 - p = (i - p) + 1 by omega]
    show _ = nI (10 * nv k p (i - p) + (k (p + (i - p)) - 10))
    rw [show p + (i - p) = i by omega]
  · intro s ⟨q1, q2, q3, q4⟩
    refine ⟨s, ?_, q1, q2, q3⟩
    show f_X7_takeNumber_B5 s 46 = _
    rw [ct_BN (ct_fr h (up46 q1)) q2 g2 q3, if_neg (of_decide_eq_false g4)]
def tc (k : Nat → Nat) (p : Nat) : Nat := if k (ts k p) = 0 then 0 else if 33 ≤ k (ts k p) then 1 else if 10 ≤ k (ts k p) then (if 2 < te k p - ts k p then 4 else 2) else if k (ts k p) = 2 then 3 else 4
def TX (k : Nat → Nat) (n : Nat) : Prop := n ≤ 600 ∧ (∀ i, n ≤ i → k i = 0) ∧ ∀ i, i < n → 1 ≤ k i ∧ k i ≤ 58 ∧ (k i ≤ 3 ∨ (10 ≤ k i ∧ k i ≤ 19) ∨ 33 ≤ k i)
theorem ct_tx (h : CT M k n) : TX k n := ⟨h.2.2.2.1, h.2.2.2.2.1, fun i hi => (KV_f (h.2.2.2.2.2 i hi)).2.2.2.2.2.2⟩
theorem tk_in (hT : TX k n) (hp : p ≤ n) : p ≤ ts k p ∧ ts k p ≤ te k p ∧ te k p ≤ n ∧ (k (ts k p) ≠ 0 → ts k p < te k p) ∧ k (ts k p) ≠ 1 ∧ (k (ts k p) = 0 ↔ te k p = ts k p) := by
  obtain ⟨hn, hk, hr⟩ := hT
  obtain ⟨g1, g2, g3, g4⟩ := sc_ok (P := pSp) rfl hk 700 p hp (by omega)
  have g2 : ts k p ≤ n := g2
  have g4 : ¬ k (ts k p) = 1 := of_decide_eq_false g4
  have key : ts k p ≤ te k p ∧ te k p ≤ n ∧ (k (ts k p) ≠ 0 → ts k p < te k p) ∧ (k (ts k p) = 0 ↔ te k p = ts k p) := by
    unfold te ee
    by_cases h0 : k (ts k p) = 0
    · rw [if_pos h0]; exact ⟨Nat.le_refl _, g2, fun h => absurd h0 h, fun _ => rfl, fun _ => h0⟩
    · have hl : ts k p < n := by
        rcases Nat.lt_or_ge (ts k p) n with h | h
        · exact h
        · exact absurd (hk _ h) h0
      rw [if_neg h0]
      by_cases h1 : 33 ≤ k (ts k p)
      · rw [if_pos h1]
        obtain ⟨a1, a2, a3, a4⟩ := sc_ok (P := pLt) rfl hk 700 (ts k p) g2 (by omega)
        have : ts k p ≠ sc pLt k 700 (ts k p) := fun e => by rw [← e] at a4; exact (of_decide_eq_false a4) h1
        exact ⟨a1, a2, fun _ => by omega, fun h => absurd h h0, fun h => by omega⟩
      · rw [if_neg h1]
        by_cases h2 : 10 ≤ k (ts k p)
        · rw [if_pos h2]
          obtain ⟨a1, a2, a3, a4⟩ := sc_ok (P := pDg) rfl hk 700 (ts k p) g2 (by omega)
          by_cases h3 : k (ts k p) ≤ 19
          · have : ts k p ≠ sc pDg k 700 (ts k p) := fun e => by rw [← e] at a4; exact (of_decide_eq_false a4) ⟨h2, h3⟩
            exact ⟨a1, a2, fun _ => by omega, fun h => absurd h h0, fun h => by omega⟩
          · have := hr _ hl
            omega
        · rw [if_neg h2]; exact ⟨by omega, by omega, fun _ => by omega, fun h => absurd h h0, fun h => by omega⟩
  exact ⟨g1, key.1, key.2.1, key.2.2.1, g4, key.2.2.2⟩
theorem nI_sb {a b : Nat} (h : b ≤ a) : nI a - nI b = nI (a - b) := by
  conv => lhs; rw [show a = a - b + b by omega, ← nI_add]
  exact Int32.add_sub_cancel _ _
theorem c_tok (h : CT M k n) (hp : M.1 46 10 = nI p) (hpn : p ≤ n) : ∃ M', f_X7_takeToken M 46 = some M' ∧ Fr S46 M M' ∧ M'.1 46 9 = nI (ts k p) ∧ M'.1 46 10 = nI (te k p) ∧ M'.1 46 8 = nI (tc k p) ∧ (tc k p = 2 → M'.1 46 11 = nI (nv k (ts k p) (te k p - ts k p))) := by
  have hn := h.2.2.2.1
  obtain ⟨i1, i2, i3, i4, i5, i6⟩ := tk_in (ct_tx h) hpn
  obtain ⟨M1, e1, f1, g1⟩ := ct_L0 h hp hpn
  have hC1 := ct_fr h f1
  have f2 : Fr S46 M (wI M1 46 9 (nI (ts k p))) := fr_put f1 (S46_8 (by omega))
  have hC2 := ct_fr h f2
  generalize hM2 : wI M1 46 9 (nI (ts k p)) = M2 at f2 hC2
  have r9 : M2.1 46 9 = nI (ts k p) := by rw [← hM2]; exact wI_same _ _ _ _
  have r10 : M2.1 46 10 = nI (ts k p) := by rw [← hM2, wI_rd, if_neg (by omega)]; exact g1
  unfold f_X7_takeToken
  rw [e1, bb_some, gI_at (ct_shp hC1), bb_some, pI_at (ct_shp hC1), bb_some, g1, hM2, gI_at (ct_shp hC2), bb_some, gI_at (ct_shp hC2), bb_some, r10, hC2.2.2.1]
  generalize hs : ts k p = s at *
  generalize he : te k p = e at *
  have htc : tc k p = if k s = 0 then 0 else if 33 ≤ k s then 1 else if 10 ≤ k s then (if 2 < e - s then 4 else 2) else if k s = 2 then 3 else 4 := by unfold tc; rw [hs, he]
  have hte : e = if k s = 0 then s else if 33 ≤ k s then sc pLt k 700 s else if 10 ≤ k s then sc pDg k 700 s else s + 1 := by rw [← he]; unfold te ee; rw [hs]
  by_cases h0 : k s = 0
  · have hsn : n ≤ s := by
      rcases Nat.lt_or_ge s n with h' | h'
      · have := (ct_tx h).2.2 s h'; omega
      · exact h'
    rw [if_neg (nI_nlt hsn (by omega)), pI_at (ct_shp hC2), bb_some]
    rw [if_pos h0] at htc
    refine ⟨_, rfl, fr_put f2 (S46_8 (by omega)), ?_, ?_, ?_, fun hh => ?_⟩
    · rw [wI_rd, if_neg (by omega)]; exact r9
    · rw [wI_rd, if_neg (by omega), r10, i6.mp h0]
    · rw [wI_same, htc]; rfl
    · rw [htc] at hh; omega
  · have hsn : s < n := by
      rcases Nat.lt_or_ge s n with h' | h'
      · exact h'
      · exact absurd (h.2.2.2.2.1 s h') h0
    have hKV := hC2.2.2.2.2.2 s hsn
    have hR := (ct_tx h).2.2 s hsn
    rw [if_neg h0] at htc hte
    rw [if_pos (nI_lt hsn (by omega))]
    simp only [ct_r5 hC2, ct_at hC2 hsn, bb_some, (KV_let hKV M2).1, (KV_dig hKV M2).1, gI_at (ct_shp hC2), r10, ob_at (ct_shp hC2)]
    by_cases h1 : 33 ≤ k s
    · rw [if_pos h1] at htc hte
      rw [if_pos h1, if_neg (by decide)]
      obtain ⟨M3, e3, f3, g3⟩ := ct_LW hC2 r10 (by omega)
      have f4 : Fr S46 M M3 := fr_trans f2 (fr_mono f3 (fun a b hh => ⟨hh.1, by omega, by omega⟩))
      unfold f_X7_takeWord
      rw [e3, bb_some, pI_at (ct_shp (ct_fr h f4)), bb_some, bb_some]
      refine ⟨_, rfl, fr_put f4 (S46_8 (by omega)), ?_, ?_, ?_, fun hh => ?_⟩
      · rw [wI_rd, if_neg (by omega), f3.2 46 9 (by omega)]; exact r9
      · rw [wI_rd, if_neg (by omega), g3, hte]
      · rw [wI_same, htc]; rfl
      · rw [htc] at hh; omega
    · rw [if_neg h1] at htc hte
      rw [if_neg h1, if_pos rfl]
      by_cases h2 : 10 ≤ k s
      · rw [if_pos h2] at htc hte
        rw [if_pos (show 10 ≤ k s ∧ k s ≤ 19 by omega), if_neg (by decide)]
        have f3 : Fr S46 M (wI M2 46 11 (nI 0)) := fr_put f2 (S46_8 (by omega))
        have q10 : (wI M2 46 11 (nI 0)).1 46 10 = nI s := by rw [wI_rd, if_neg (by omega)]; exact r10
        obtain ⟨M4, e4, f4, g4, g5⟩ := ct_LN (ct_fr h f3) q10 (by omega) (wI_same _ _ _ _)
        have f5 : Fr S46 M M4 := fr_trans f3 (fr_mono f4 (fun a b hh => ⟨hh.1, by omega, by omega⟩))
        have hC5 := ct_fr h f5
        have r9' : M4.1 46 9 = nI s := by rw [f4.2 46 9 (by omega), wI_rd, if_neg (by omega)]; exact r9
        unfold f_X7_takeNumber
        rw [pI_at (ct_shp hC2), bb_some]
        have e4 : f_X7_takeNumber_L5 (wI M2 46 11 0) 46 = some M4 := e4
        rw [e4, bb_some, gI_at (ct_shp hC5), bb_some, gI_at (ct_shp hC5), bb_some, g4, r9', ← hte, nI_sb i2]
        by_cases h3 : 2 < e - s
        · rw [if_pos (show (2 : Int32) < nI (e - s) from nI_lt h3 (by omega)), f_X7_takeNumber_J87, pI_at (ct_shp hC5), bb_some, bb_some]
          rw [if_pos h3] at htc
          refine ⟨_, rfl, fr_put f5 (S46_8 (by omega)), ?_, ?_, ?_, fun hh => ?_⟩
          · rw [wI_rd, if_neg (by omega)]; exact r9'
          · rw [wI_rd, if_neg (by omega), g4, hte]
          · rw [wI_same, htc]; rfl
          · rw [htc] at hh; omega
        · rw [if_neg (show ¬ (2 : Int32) < nI (e - s) from nI_nlt (a := 2) (b := e - s) (by omega) (by omega)), f_X7_takeNumber_J87, pI_at (ct_shp hC5), bb_some, bb_some]
          rw [if_neg h3] at htc
          refine ⟨_, rfl, fr_put f5 (S46_8 (by omega)), ?_, ?_, ?_, fun hh => ?_⟩
          · rw [wI_rd, if_neg (by omega)]; exact r9'
          · rw [wI_rd, if_neg (by omega), g4, hte]
          · rw [wI_same, htc]; rfl
          · rw [wI_rd, if_neg (by omega), g5, ← hte]
      · rw [if_neg h2] at htc hte
        rw [if_neg (show ¬ (10 ≤ k s ∧ k s ≤ 19) by omega), if_pos rfl]
        have key : ∀ v : Nat, v = tc k p → ∃ M', f_X7_takeToken_J143 M2 46 46 (nI v) = some M' ∧ Fr S46 M M' ∧ M'.1 46 9 = nI s ∧ M'.1 46 10 = nI e ∧ M'.1 46 8 = nI (tc k p) ∧ (tc k p = 2 → M'.1 46 11 = nI (nv k s (e - s))) := by
          intro v hv
          unfold f_X7_takeToken_J143
          have s1 : shp (wI M2 46 8 (nI v)) 46 = some (.inl 7) := ct_shp hC2
          rw [pI_at (ct_shp hC2), bb_some, gI_at s1, bb_some, pI_at s1, bb_some]
          refine ⟨_, rfl, fr_put (fr_put f2 (S46_8 (by omega))) (S46_8 (by omega)), ?_, ?_, ?_, fun hh => ?_⟩
          · rw [wI_rd, if_neg (by omega), wI_rd, if_neg (by omega)]; exact r9
          · rw [wI_same, wI_rd, if_neg (by omega), r10, nI_1, hte]
          · rw [wI_rd, if_neg (by omega), wI_same, hv]
          · rw [htc] at hh
            split at hh <;> omega
        by_cases h3 : k s = 2
        · rw [if_pos ((KV_f hKV).2.1.mpr h3)]
          exact key 3 (by rw [htc, if_pos h3])
        · rw [if_neg (fun hh => h3 ((KV_f hKV).2.1.mp hh))]
          exact key 4 (by rw [htc, if_neg h3])
end
