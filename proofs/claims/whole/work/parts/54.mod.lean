/-! the model: its object, its rows, an office in it -/
section
variable {M : Mem} {a : Nat → Nat}
theorem m_shp (h : Sk M) : shp M 255 = some (.inl 12) := sk_shp h (by omega) rfl
theorem m_r0 (h : Sk M) : gR M 12 255 0 = some 256 := by rw [gR_at (m_shp h), h.2 (255, 0, 256) (by decide)]
theorem m_s256 (h : Sk M) : shp M 256 = some (.inr (0, 3952)) := sk_shp h (by omega) rfl
theorem m_r1 (h : Sk M) : gR M 12 255 1 = some 257 := by rw [gR_at (m_shp h), h.2 (255, 1, 257) (by decide)]
theorem m_s257 (h : Sk M) : shp M 257 = some (.inr (2, 3)) := sk_shp h (by omega) rfl
theorem m_r10 (h : Sk M) : gR M 12 255 10 = some 258 := by rw [gR_at (m_shp h), h.2 (255, 10, 258) (by decide)]
theorem m_s258 (h : Sk M) : shp M 258 = some (.inr (0, 81)) := sk_shp h (by omega) rfl
theorem m_r14 (h : Sk M) : gR M 12 255 14 = some 259 := by rw [gR_at (m_shp h), h.2 (255, 14, 259) (by decide)]
theorem m_s259 (h : Sk M) : shp M 259 = some (.inr (0, 8)) := sk_shp h (by omega) rfl
theorem m_r15 (h : Sk M) : gR M 12 255 15 = some 260 := by rw [gR_at (m_shp h), h.2 (255, 15, 260) (by decide)]
theorem m_s260 (h : Sk M) : shp M 260 = some (.inr (0, 8)) := sk_shp h (by omega) rfl
theorem m_r28 (h : Sk M) : gR M 12 255 28 = some 261 := by rw [gR_at (m_shp h), h.2 (255, 28, 261) (by decide)]
theorem m_s261 (h : Sk M) : shp M 261 = some (.inr (0, 8)) := sk_shp h (by omega) rfl
theorem m_r29 (h : Sk M) : gR M 12 255 29 = some 262 := by rw [gR_at (m_shp h), h.2 (255, 29, 262) (by decide)]
theorem m_s262 (h : Sk M) : shp M 262 = some (.inr (0, 8)) := sk_shp h (by omega) rfl
theorem m_r30 (h : Sk M) : gR M 12 255 30 = some 263 := by rw [gR_at (m_shp h), h.2 (255, 30, 263) (by decide)]
theorem m_s263 (h : Sk M) : shp M 263 = some (.inr (0, 8)) := sk_shp h (by omega) rfl
theorem m_r34 (h : Sk M) : gR M 12 255 34 = some 264 := by rw [gR_at (m_shp h), h.2 (255, 34, 264) (by decide)]
theorem m_s264 (h : Sk M) : shp M 264 = some (.inr (3, 256)) := sk_shp h (by omega) rfl
theorem m_r36 (h : Sk M) : gR M 12 255 36 = some 265 := by rw [gR_at (m_shp h), h.2 (255, 36, 265) (by decide)]
theorem m_s265 (h : Sk M) : shp M 265 = some (.inr (0, 9)) := sk_shp h (by omega) rfl
theorem m_r39 (h : Sk M) : gR M 12 255 39 = some 266 := by rw [gR_at (m_shp h), h.2 (255, 39, 266) (by decide)]
theorem m_s266 (h : Sk M) : shp M 266 = some (.inr (0, 5)) := sk_shp h (by omega) rfl
theorem m_r40 (h : Sk M) : gR M 12 255 40 = some 267 := by rw [gR_at (m_shp h), h.2 (255, 40, 267) (by decide)]
theorem m_s267 (h : Sk M) : shp M 267 = some (.inr (0, 5)) := sk_shp h (by omega) rfl
theorem m_r41 (h : Sk M) : gR M 12 255 41 = some 268 := by rw [gR_at (m_shp h), h.2 (255, 41, 268) (by decide)]
theorem m_s268 (h : Sk M) : shp M 268 = some (.inr (0, 2816)) := sk_shp h (by omega) rfl
theorem m_r42 (h : Sk M) : gR M 12 255 42 = some 269 := by rw [gR_at (m_shp h), h.2 (255, 42, 269) (by decide)]
theorem m_s269 (h : Sk M) : shp M 269 = some (.inr (0, 189)) := sk_shp h (by omega) rfl
theorem m_all (h : Sk M) {i : Nat} (hi : i < 3952) : aI M 0 256 (nI i) = some (M.1 256 i) := aI_at (m_s256 h) hi (by omega) (by omega)
def MO (M : Mem) (a : Nat → Nat) : Prop := Sk M ∧ ∃ p, p ≤ 3000 ∧ M.1 255 11 = nI p ∧ M.1 255 12 = nI (a 0) ∧ M.1 255 13 = nI (a 1) ∧ MS M p 75 a
theorem mo_fr {S : Nat → Nat → Prop} {M' : Mem} (h : MO M a) (hF : Fr S M M') (hS : ∀ n k, S n k → n ≠ 256 ∧ ¬ (n = 255 ∧ 11 ≤ k ∧ k ≤ 13)) : MO M' a := by
  obtain ⟨h1, p, h2, h3, h4, h5, h6⟩ := h
  have g : ∀ k, 11 ≤ k → k ≤ 13 → M'.1 255 k = M.1 255 k := fun k hk hk' => hF.2 255 k (fun hh => (hS 255 k hh).2 ⟨rfl, hk, hk'⟩)
  exact ⟨fr_sk hF h1, p, h2, by rw [g 11 (by omega) (by omega), h3], by rw [g 12 (by omega) (by omega), h4], by rw [g 13 (by omega) (by omega), h5], ms_cong (fun k => hF.2 256 k (fun hh => (hS 256 k hh).1 rfl)) h6⟩
theorem mo_ob (h : MO M a) : ob M 12 255 = some () := ob_at (m_shp h.1)
theorem mo_g12 (h : MO M a) : gI M 12 255 12 = some (nI (a 0)) := by obtain ⟨h1, p, h2, h3, h4, h5, h6⟩ := h; rw [gI_at (m_shp h1), h4]
theorem mo_g13 (h : MO M a) : gI M 12 255 13 = some (nI (a 1)) := by obtain ⟨h1, p, h2, h3, h4, h5, h6⟩ := h; rw [gI_at (m_shp h1), h5]
theorem mo_rd (h : MO M a) : ∃ p, gI M 12 255 11 = some (nI p) ∧ gR M 12 255 0 = some 256 ∧ ∀ i, i < 75 → aI M 0 256 (nI (p + i)) = some (nI (a i)) := by
  obtain ⟨h1, p, h2, h3, h4, h5, h6⟩ := h
  exact ⟨p, by rw [gI_at (m_shp h1), h3], m_r0 h1, fun i hi => by rw [m_all h1 (by omega), h6 i hi]⟩
theorem mo_of (h : MO M a) {d j : Nat} (hd : d < 8) (hj : j < 5) : f_X12_of M 255 (nI d) (nI j) = some (nI (a (5 + 5 * d + j))) := by
  obtain ⟨p, h1, h2, h3⟩ := mo_rd h
  have e : nI p + 5 + 5 * nI d + nI j = nI (p + (5 + 5 * d + j)) := by
    show nI p + nI 5 + nI 5 * nI d + nI j = _
    rw [pk_mul, nI_add, nI_add, nI_add]; congr 1; omega
  simp only [f_X12_of, h1, h2, bb_some, e, h3 _ (show 5 + 5 * d + j < 75 by omega)]
theorem mo_of0 (h : MO M a) {d : Nat} (hd : d < 8) : f_X12_of M 255 (nI d) 0 = some (nI (a (5 + 5 * d))) := mo_of h hd (j := 0) (by omega)
theorem mo_of1 (h : MO M a) {d : Nat} (hd : d < 8) : f_X12_of M 255 (nI d) 1 = some (nI (a (6 + 5 * d))) := by
  rw [show 6 + 5 * d = 5 + 5 * d + 1 by omega]; exact mo_of h hd (j := 1) (by omega)
theorem mo_of2 (h : MO M a) {d : Nat} (hd : d < 8) : f_X12_of M 255 (nI d) 2 = some (nI (a (7 + 5 * d))) := by
  rw [show 7 + 5 * d = 5 + 5 * d + 2 by omega]; exact mo_of h hd (j := 2) (by omega)
theorem mo_of3 (h : MO M a) {d : Nat} (hd : d < 8) : f_X12_of M 255 (nI d) 3 = some (nI (a (8 + 5 * d))) := by
  rw [show 8 + 5 * d = 5 + 5 * d + 3 by omega]; exact mo_of h hd (j := 3) (by omega)
theorem mo_of4 (h : MO M a) {d : Nat} (hd : d < 8) : f_X12_of M 255 (nI d) 4 = some (nI (a (9 + 5 * d))) := by
  rw [show 9 + 5 * d = 5 + 5 * d + 4 by omega]; exact mo_of h hd (j := 4) (by omega)
theorem mo_oc (h : MO M a) {c j : Nat} (hc : c < 10) (hj : j < 3) : f_X12_ofCall M 255 (nI c) (nI j) = some (nI (a (45 + 3 * c + j))) := by
  obtain ⟨p, h1, h2, h3⟩ := mo_rd h
  have e : nI p + 45 + 3 * nI c + nI j = nI (p + (45 + 3 * c + j)) := by
    show nI p + nI 45 + nI 3 * nI c + nI j = _
    rw [pk_mul, nI_add, nI_add, nI_add]; congr 1; omega
  simp only [f_X12_ofCall, h1, h2, bb_some, e, h3 _ (show 45 + 3 * c + j < 75 by omega)]
theorem mo_oc0 (h : MO M a) {c : Nat} (hc : c < 10) : f_X12_ofCall M 255 (nI c) 0 = some (nI (a (45 + 3 * c))) := mo_oc h hc (j := 0) (by omega)
theorem mo_oc1 (h : MO M a) {c : Nat} (hc : c < 10) : f_X12_ofCall M 255 (nI c) 1 = some (nI (a (46 + 3 * c))) := by
  rw [show 46 + 3 * c = 45 + 3 * c + 1 by omega]; exact mo_oc h hc (j := 1) (by omega)
theorem mo_oc2 (h : MO M a) {c : Nat} (hc : c < 10) : f_X12_ofCall M 255 (nI c) 2 = some (nI (a (47 + 3 * c))) := by
  rw [show 47 + 3 * c = 45 + 3 * c + 2 by omega]; exact mo_oc h hc (j := 2) (by omega)
theorem mo_hd (h : MO M a) {i : Nat} (hi : i < 75) : ∃ v, gI M 12 255 11 = some v ∧ aI M 0 256 (v + nI i) = some (nI (a i)) := by
  obtain ⟨p, h1, h2, h3⟩ := mo_rd h
  exact ⟨nI p, h1, by rw [nI_add]; exact h3 i hi⟩
theorem mo_gotBy (h : MO M a) (w r : Int32) : f_X12_gotBy M 255 w r = some (imax 0 (w - nI (a 4) * (r - 1))) := by
  obtain ⟨v, h1, h2⟩ := mo_hd h (i := 4) (by omega)
  have h2 : aI M 0 256 (v + 4) = some (nI (a 4)) := h2
  simp only [f_X12_gotBy, m_r0 h.1, h1, h2, bb_some, imax]
  by_cases hh : w - nI (a 4) * (r - 1) ≤ 0
  · rw [if_pos hh, if_neg (by rw [Int32.lt_iff_toInt_lt]; rw [Int32.le_iff_toInt_le] at hh; omega)]
  · rw [if_neg hh, if_pos (by rw [Int32.lt_iff_toInt_lt]; rw [Int32.le_iff_toInt_le] at hh; omega)]
theorem mo_off (h : MO M a) (hO : OkO a) {s d : Nat} (hs : s < a 0) (hd : d < a 0) : f_X12_off M 255 (nI s) (nI d) = some (nI (gp a s d)) := by
  have := hO.1.1
  have e1 := (hO.2.1 s hs).2.1
  have e2 := (hO.2.1 d hd).2.1
  simp only [f_X12_off, mo_ob h, mo_of1 h (show s < 8 by omega), mo_of1 h (show d < 8 by omega), bb_some, nI_leI (show a (6 + 5 * s) < 2 ^ 31 by omega) (show a (6 + 5 * d) < 2 ^ 31 by omega), gp]
  by_cases hh : a (6 + 5 * s) ≤ a (6 + 5 * d)
  · rw [if_pos hh, pk_sub hh]
    by_cases h3 : a (6 + 5 * d) ≤ a (6 + 5 * s)
    · rw [if_pos h3]; congr 2; omega
    · rw [if_neg h3]
  · rw [if_neg hh, if_pos (by omega), pk_sub (by omega)]
theorem mo_hears (h : MO M a) (hO : OkO a) {s d : Nat} (hs : s < a 0) (hd : d < a 0) : f_X12_hears M 255 (nI s) (nI d) = some (if hr a s d = true then 1 else 0) := by
  have h8 := hO.1.1
  have hg := gp_30 hO hd hs
  obtain ⟨v, h1, h2⟩ := mo_hd h (i := 2) (by omega)
  have h2 : aI M 0 256 (v + 2) = some (nI (a 2)) := h2
  have h3 := hO.1.2.2.1
  simp only [f_X12_hears, nI_eq (show s < 2 ^ 31 by omega) (show d < 2 ^ 31 by omega), mo_ob h, mo_off h hO hs hd, m_r0 h.1, h1, h2, bb_some, nI_ltI (show a 2 < 2 ^ 31 by omega) (show gp a s d < 2 ^ 31 by omega), hr]
  by_cases e1 : s = d
  · simp [e1]
  · by_cases e2 : a 2 < gp a s d
    · simp [e1, e2]
    · simp [e1, e2, Nat.le_of_not_lt e2]
theorem m_holds (M : Mem) {m s : Nat} (hm : m < 2 ^ 31) (hs : s < 32) : f_X12_holds M (nI m) (nI s) = some (if m.testBit s = true then 1 else 0) := by
  simp only [f_X12_holds, bit_1 hm hs]
  split <;> rfl
theorem mo_isDesk (h : MO M a) (hO : OkO a) {d : Nat} (hd : d < a 0) : f_X12_isDesk M 255 (nI d) = some 1 := by
  have := hO.1.1
  simp [f_X12_isDesk, mo_g12 h, ii_in M hd (show a 0 < 2 ^ 30 by omega), zr]
theorem mo_noDesk (h : MO M a) (hO : OkO a) {x : Int32} (hx : outO x (a 0)) : f_X12_isDesk M 255 x = some 0 := by
  have := hO.1.1
  simp [f_X12_isDesk, mo_g12 h, ii_out M hx (show a 0 < 2 ^ 30 by omega), zr]
theorem mo_isCall (h : MO M a) (hO : OkO a) {d : Nat} (hd : d < a 1) : f_X12_isCall M 255 (nI d) = some 1 := by
  have := hO.1.2.1
  simp [f_X12_isCall, mo_g13 h, ii_in M hd (show a 1 < 2 ^ 30 by omega), zr]
theorem mo_noCall (h : MO M a) (hO : OkO a) {x : Int32} (hx : outO x (a 1)) : f_X12_isCall M 255 x = some 0 := by
  have := hO.1.2.1
  simp [f_X12_isCall, mo_g13 h, ii_out M hx (show a 1 < 2 ^ 30 by omega), zr]
end
/-! the entries: an office, a day, a log by its number -/
theorem t_shp {M : Mem} (h : Sk M) : shp M 1 = some (.inl 11) ∧ shp M 2 = some (.inl 9) := ⟨sk_shp h (by omega) rfl, sk_shp h (by omega) rfl⟩
theorem d_r0 {M : Mem} (h : Sk M) : gR M 11 1 0 = some 2 := by rw [gR_at (t_shp h).1, h.2 (1, 0, 2) (by decide)]
theorem d_r1 {M : Mem} (h : Sk M) : gR M 11 1 1 = some 44 := by rw [gR_at (t_shp h).1, h.2 (1, 1, 44) (by decide)]
theorem d_r2 {M : Mem} (h : Sk M) : gR M 11 1 2 = some 45 := by rw [gR_at (t_shp h).1, h.2 (1, 2, 45) (by decide)]
theorem d_r3 {M : Mem} (h : Sk M) : gR M 11 1 3 = some 46 := by rw [gR_at (t_shp h).1, h.2 (1, 3, 46) (by decide)]
theorem d_r4 {M : Mem} (h : Sk M) : gR M 11 1 4 = some 67 := by rw [gR_at (t_shp h).1, h.2 (1, 4, 67) (by decide)]
theorem d_r5 {M : Mem} (h : Sk M) : gR M 11 1 5 = some 68 := by rw [gR_at (t_shp h).1, h.2 (1, 5, 68) (by decide)]
theorem d_r6 {M : Mem} (h : Sk M) : gR M 11 1 6 = some 84 := by rw [gR_at (t_shp h).1, h.2 (1, 6, 84) (by decide)]
theorem d_r7 {M : Mem} (h : Sk M) : gR M 11 1 7 = some 87 := by rw [gR_at (t_shp h).1, h.2 (1, 7, 87) (by decide)]
theorem d_r8 {M : Mem} (h : Sk M) : gR M 11 1 8 = some 92 := by rw [gR_at (t_shp h).1, h.2 (1, 8, 92) (by decide)]
theorem d_r9 {M : Mem} (h : Sk M) : gR M 11 1 9 = some 107 := by rw [gR_at (t_shp h).1, h.2 (1, 9, 107) (by decide)]
theorem t_r0 {M : Mem} (h : Sk M) : gR M 9 2 0 = some 3 := by rw [gR_at (t_shp h).2, h.2 (2, 0, 3) (by decide)]
theorem t_r4 {M : Mem} (h : Sk M) : gR M 9 2 4 = some 4 := by rw [gR_at (t_shp h).2, h.2 (2, 4, 4) (by decide)]
theorem t_r5 {M : Mem} (h : Sk M) : gR M 9 2 5 = some 5 := by rw [gR_at (t_shp h).2, h.2 (2, 5, 5) (by decide)]
theorem t_r6 {M : Mem} (h : Sk M) : gR M 9 2 6 = some 6 := by rw [gR_at (t_shp h).2, h.2 (2, 6, 6) (by decide)]
theorem t_r7 {M : Mem} (h : Sk M) : gR M 9 2 7 = some 7 := by rw [gR_at (t_shp h).2, h.2 (2, 7, 7) (by decide)]
theorem t_ob {M : Mem} (h : Sk M) : ob M 9 2 = some () := ob_at (t_shp h).2
theorem t_row {M : Mem} (h : Sk M) {k : Nat} (hk : k < 2) : aR M 5 5 (nI k) = some (8 + 18 * k) ∧ aR M 6 6 (nI k) = some (19 + 18 * k) ∧ aR M 7 7 (nI k) = some (22 + 18 * k) := by
  rw [aR_at (sk_shp h (n := 5) (by omega) rfl) hk (by omega), aR_at (sk_shp h (n := 6) (by omega) rfl) hk (by omega), aR_at (sk_shp h (n := 7) (by omega) rfl) hk (by omega)]
  rcases (show k = 0 ∨ k = 1 by omega) with rfl | rfl
  · rw [h.2 (5, 0, 8) (by decide), h.2 (6, 0, 19) (by decide), h.2 (7, 0, 22) (by decide)]; exact ⟨rfl, rfl, rfl⟩
  · rw [h.2 (5, 1, 26) (by decide), h.2 (6, 1, 37) (by decide), h.2 (7, 1, 40) (by decide)]; exact ⟨rfl, rfl, rfl⟩
/-- which there are -/
def cnt (M : Mem) (s n : Nat) : Prop := n ≤ 2 ∧ M.1 4 s = nI n ∧ M.1 256 s = nI n
theorem t_cnt {M : Mem} (h : Sk M) {s n : Nat} (hs : s < 3) (hc : cnt M s n) : aI M 0 4 (nI s) = some (nI n) := by
  rw [aI_at (sk_shp h (n := 4) (by omega) rfl) hs (by omega) (by omega), hc.2.1]
theorem m_cnt {M : Mem} (h : Sk M) {s n : Nat} (hs : s < 3) (hc : cnt M s n) : aI M 0 256 (nI s) = some (nI n) := by
  rw [m_all h (by omega), hc.2.2]
theorem cnt_q {M M' : Mem} {s n : Nat} (hq : Qf M M') (hc : cnt M s n) : cnt M' s n := ⟨hc.1, by rw [hq.2 4 s (by unfold zT; omega)]; exact hc.2.1, by rw [hq.2 256 s (by unfold zT; omega)]; exact hc.2.2⟩
theorem m_isOf {M : Mem} (h : Sk M) {s n : Nat} (hs : s < 3) (hc : cnt M s n) {k : Nat} (hk : k < n) : f_X12_isOf M 255 (nI s) (nI k) = some 1 := by
  have := hc.1
  simp [f_X12_isOf, m_r0 h, m_cnt h hs hc, ii_in M hk (show n < 2 ^ 30 by omega), zr]
theorem m_noOf {M : Mem} (h : Sk M) {s n : Nat} (hs : s < 3) (hc : cnt M s n) {x : Int32} (hx : outO x n) : f_X12_isOf M 255 (nI s) x = some 0 := by
  have := hc.1
  simp [f_X12_isOf, m_r0 h, m_cnt h hs hc, ii_out M hx (show n < 2 ^ 30 by omega), zr]
theorem t_in {M : Mem} (h : Sk M) {s n : Nat} (hs : s < 3) (hc : cnt M s n) {k : Nat} (hk : k < n) : ¬ nI k < 0 ∧ ¬ nI n ≤ nI k := by
  have := hc.1
  exact ⟨nI_pos (by omega), nI_ge hk (by omega)⟩
theorem ofs {M : Mem} (hI : Inv M) (x : Int32) :
    (f_X9_officeAt M 2 x = some 0 ∧ ∀ M1, Qf M M1 → f_X12_isOffice M1 255 x = some (0, M1)) ∨
    (∃ o a, o ≠ 0 ∧ (o = 8 ∨ o = 26) ∧ OkO a ∧ f_X9_officeAt M 2 x = some o ∧ CO M o a ∧ ∀ M1, Qf M M1 → ∃ M2, f_X12_isOffice M1 255 x = some (1, M2) ∧ Fr (fun n k => n = 255 ∧ 11 ≤ k ∧ k ≤ 13) M1 M2 ∧ MO M2 a) := by
  obtain ⟨hS, ⟨_, _, _, _, c, hc, h0, _, _⟩, _⟩ := hI
  have hc : cnt M 0 (c 0) := hc 0 (by omega)
  have hc2 := hc.1
  rcases io_cases x (n := c 0) (by omega) with hx | ⟨k, hk, rfl⟩
  · left
    refine ⟨?_, fun M1 hq => ?_⟩
    · unfold f_X9_officeAt
      rcases hx with hx | hx
      · rw [if_pos hx]
      · have e : aI M 0 4 0 = some (nI (c 0)) := t_cnt hS (s := 0) (by omega) hc
        simp [t_r4 hS, e, hx]
    · have e : f_X12_isOf M1 255 0 x = some 0 := m_noOf (hq.1 hS) (s := 0) (by omega) (cnt_q hq hc) hx
      simp [f_X12_isOffice, ob_at (m_shp (hq.1 hS)), e]
  · right
    obtain ⟨a, hO, hm, hC⟩ := h0 k hk
    have hC : OC M (8 + 18 * k) a := by rw [show 8 + 18 * k = 2 + 6 + 18 * k by omega]; exact hC
    have hok : 8 + 18 * k = 8 ∨ 8 + 18 * k = 26 := by omega
    refine ⟨8 + 18 * k, a, by omega, hok, hO, ?_, ⟨hS, by omega, hC⟩, fun M1 hq => ?_⟩
    · have e : aI M 0 4 0 = some (nI (c 0)) := t_cnt hS (s := 0) (by omega) hc
      obtain ⟨g1, g2⟩ := t_in hS (by omega) hc hk
      simp [f_X9_officeAt, t_r4 hS, t_r5 hS, e, g1, g2, (t_row hS (show k < 2 by omega)).1]
    · have hS1 := hq.1 hS
      have e : f_X12_isOf M1 255 0 (nI k) = some 1 := m_isOf hS1 (s := 0) (by omega) (cnt_q hq hc) hk
      have hm1 : MS M1 (610 + 75 * k) 75 a := fun i hi => by rw [hq.2 256 _ (by unfold zT; omega)]; have := hm i hi; rwa [show 0 + 610 + 75 * k + i = 610 + 75 * k + i by omega] at this
      have e2 : (610 : Int32) + 75 * nI k = nI (610 + 75 * k) := by
        show nI 610 + nI 75 * nI k = _
        rw [pk_mul, nI_add]
      have e3 : nI (610 + 75 * k) + 1 = nI (610 + 75 * k + 1) := nI_1 _
      have s0 := m_shp hS1
      have hF : Fr (fun n k => n = 255 ∧ 11 ≤ k ∧ k ≤ 13) M1 (wI (wI (wI M1 255 11 (nI (610 + 75 * k))) 255 12 (nI (a 0))) 255 13 (nI (a 1))) := fr_put (fr_put (fr_wI ⟨rfl, by omega, by omega⟩) ⟨rfl, by omega, by omega⟩) ⟨rfl, by omega, by omega⟩
      refine ⟨_, ?_, hF, fr_sk hF hS1, 610 + 75 * k, by omega, by simp [wI], by simp [wI], by simp [wI], ms_cong (fun j => hF.2 256 j (by omega)) hm1⟩
      have w1 : ∀ v, Sk (wI M1 255 11 v) := fun v => hS1
      have w2 : ∀ v w, Sk (wI (wI M1 255 11 v) 255 12 w) := fun v w => hS1
      have q1 : (wI M1 255 11 (nI (610 + 75 * k))).1 256 (610 + 75 * k) = nI (a 0) := by simp only [wI_rd]; rw [if_neg (by omega)]; exact hm1 0 (by omega)
      have q2 : (wI (wI M1 255 11 (nI (610 + 75 * k))) 255 12 (nI (a 0))).1 256 (610 + 75 * k + 1) = nI (a 1) := by simp only [wI_rd]; rw [if_neg (by omega), if_neg (by omega)]; exact hm1 1 (by omega)
      simp only [f_X12_isOffice, ob_at s0, bb_some, e, if_neg (show ¬ (1 : Int32) = 0 by decide), f_X12_placeOf, if_true, e2, pI_at s0, m_r0 (w1 _), gI_at (show shp (wI M1 255 11 (nI (610 + 75 * k))) 255 = some (.inl 12) from s0), wI_same, m_all (w1 _) (show 610 + 75 * k < 3952 by omega), q1, pI_at (show shp (wI M1 255 11 (nI (610 + 75 * k))) 255 = some (.inl 12) from s0), m_r0 (w2 _ _), gI_at (show shp (wI (wI M1 255 11 (nI (610 + 75 * k))) 255 12 (nI (a 0))) 255 = some (.inl 12) from s0)]
      rw [show (wI (wI M1 255 11 (nI (610 + 75 * k))) 255 12 (nI (a 0))).1 255 11 = nI (610 + 75 * k) by simp [wI], e3, m_all (w2 _ _) (by omega), q2, bb_some, pI_at (show shp (wI (wI M1 255 11 (nI (610 + 75 * k))) 255 12 (nI (a 0))) 255 = some (.inl 12) from s0), bb_some]
