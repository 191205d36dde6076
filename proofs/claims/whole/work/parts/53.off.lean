/-! an office as the class has it (o), and as the model has it -/
def outO (x : Int32) (n : Nat) : Prop := x < 0 ∨ nI n ≤ x
theorem io_cases (x : Int32) {n : Nat} (hn : n < 2 ^ 31) : outO x n ∨ ∃ j, j < n ∧ x = nI j := by
  rcases pk_ix x hn with h | h | h
  · exact Or.inl (Or.inl h)
  · exact Or.inl (Or.inr h)
  · exact Or.inr h
theorem ii_in (M : Mem) {n d : Nat} (hd : d < n) (hn : n < 2 ^ 30) : f_X12_isIn M (nI d) 0 (nI n - 1) = some 1 := by
  have h1 : ¬ nI d < 0 := nI_pos (by omega)
  have e : nI n - 1 = nI (n - 1) := pk_sub (b := 1) (by omega)
  have h2 : ¬ nI n - 1 < nI d := by rw [e]; exact nI_nlt (by omega) (by omega)
  simp [f_X12_isIn, h1, h2]
theorem ii_out (M : Mem) {n : Nat} {x : Int32} (h : outO x n) (hn : n < 2 ^ 30) : f_X12_isIn M x 0 (nI n - 1) = some 0 := by
  unfold f_X12_isIn
  rcases h with h | h
  · rw [if_pos h]
  · have h2 : nI n - 1 < x := by
      rw [Int32.lt_iff_toInt_lt]
      rw [Int32.le_iff_toInt_le, nI_toInt (by omega)] at h
      have e := pk_sub_toInt (a := n) (b := 1) hn (by omega)
      have : (nI n - 1).toInt = (n : Int) - 1 := e
      omega
    rw [if_pos h2]
    split <;> rfl
theorem ii_lt (M : Mem) {n d : Nat} (hd : d ≤ n) (hn : n < 2 ^ 30) : f_X12_isIn M (nI d) 0 (nI n) = some 1 := by
  have h1 : ¬ nI d < 0 := nI_pos (by omega)
  have h2 : ¬ nI n < nI d := nI_nlt (by omega) (by omega)
  simp [f_X12_isIn, h1, h2]
def CO (M : Mem) (o : Nat) (a : Nat → Nat) : Prop := Sk M ∧ (o = 8 ∨ o = 26 ∨ o = 47 ∨ o = 94) ∧ OC M o a
theorem rt8a : ∀ j, j < 10 → (8, 5 + j, 8 + 1 + j) ∈ refTab := by decide
theorem rt8b : ∀ j, j < 10 → (26, 5 + j, 26 + 1 + j) ∈ refTab := by decide
theorem rt8c : ∀ j, j < 10 → (47, 5 + j, 47 + 1 + j) ∈ refTab := by decide
theorem rt8d : ∀ j, j < 10 → (94, 5 + j, 94 + 1 + j) ∈ refTab := by decide
theorem rt8 : ∀ j, j < 10 → (8, 5 + j, 8 + 1 + j) ∈ refTab ∧ (26, 5 + j, 26 + 1 + j) ∈ refTab ∧ (47, 5 + j, 47 + 1 + j) ∈ refTab ∧ (94, 5 + j, 94 + 1 + j) ∈ refTab := fun j hj => ⟨rt8a j hj, rt8b j hj, rt8c j hj, rt8d j hj⟩
theorem sh8 : ∀ j, j < 5 ∨ j = 8 → SH[8 + 1 + j - 1]? = some (.inr (0, 8)) ∧ SH[26 + 1 + j - 1]? = some (.inr (0, 8)) ∧ SH[47 + 1 + j - 1]? = some (.inr (0, 8)) ∧ SH[94 + 1 + j - 1]? = some (.inr (0, 8)) := by
  have h : ∀ j, j < 5 → SH[8 + 1 + j - 1]? = some (.inr (0, 8)) ∧ SH[26 + 1 + j - 1]? = some (.inr (0, 8)) ∧ SH[47 + 1 + j - 1]? = some (.inr (0, 8)) ∧ SH[94 + 1 + j - 1]? = some (.inr (0, 8)) := by decide
  intro j hj
  rcases hj with hj | rfl
  · exact h j hj
  · exact ⟨rfl, rfl, rfl, rfl⟩
theorem sh10 : ∀ j, j < 3 → SH[8 + 6 + j - 1]? = some (.inr (0, 10)) ∧ SH[26 + 6 + j - 1]? = some (.inr (0, 10)) ∧ SH[47 + 6 + j - 1]? = some (.inr (0, 10)) ∧ SH[94 + 6 + j - 1]? = some (.inr (0, 10)) := by decide
section
variable {M : Mem} {o : Nat} {a : Nat → Nat}
theorem co_ne (h : CO M o a) : o ≠ 0 := by have := h.2.1; omega
theorem co_shp (h : CO M o a) : shp M o = some (.inl 5) := by
  rcases h.2.1 with rfl | rfl | rfl | rfl <;> exact sk_shp h.1 (by omega) rfl
theorem co_sh8 (h : CO M o a) {j : Nat} (hj : j < 5 ∨ j = 8) : shp M (o + 1 + j) = some (.inr (0, 8)) := by
  have g := sh8 j hj
  rcases h.2.1 with rfl | rfl | rfl | rfl
  · exact sk_shp h.1 (by omega) g.1
  · exact sk_shp h.1 (by omega) g.2.1
  · exact sk_shp h.1 (by omega) g.2.2.1
  · exact sk_shp h.1 (by omega) g.2.2.2
theorem co_sh10 (h : CO M o a) {j : Nat} (hj : j < 3) : shp M (o + 6 + j) = some (.inr (0, 10)) := by
  have g := sh10 j hj
  rcases h.2.1 with rfl | rfl | rfl | rfl
  · exact sk_shp h.1 (by omega) g.1
  · exact sk_shp h.1 (by omega) g.2.1
  · exact sk_shp h.1 (by omega) g.2.2.1
  · exact sk_shp h.1 (by omega) g.2.2.2
theorem co_sh64 (h : CO M o a) : shp M (o + 10) = some (.inr (0, 64)) := by
  rcases h.2.1 with rfl | rfl | rfl | rfl <;> exact sk_shp h.1 (by omega) rfl
theorem co_r (h : CO M o a) {j : Nat} (hj : j < 10) : gR M 5 o (5 + j) = some (o + 1 + j) := by
  have g := rt8 j hj
  rw [gR_at (co_shp h)]
  rcases h.2.1 with rfl | rfl | rfl | rfl
  · rw [h.1.2 _ g.1]
  · rw [h.1.2 _ g.2.1]
  · rw [h.1.2 _ g.2.2.1]
  · rw [h.1.2 _ g.2.2.2]
theorem co_r5 (h : CO M o a) : gR M 5 o 5 = some (o + 1) := co_r h (j := 0) (by omega)
theorem co_r6 (h : CO M o a) : gR M 5 o 6 = some (o + 2) := co_r h (j := 1) (by omega)
theorem co_r7 (h : CO M o a) : gR M 5 o 7 = some (o + 3) := co_r h (j := 2) (by omega)
theorem co_r8 (h : CO M o a) : gR M 5 o 8 = some (o + 4) := co_r h (j := 3) (by omega)
theorem co_r9 (h : CO M o a) : gR M 5 o 9 = some (o + 5) := co_r h (j := 4) (by omega)
theorem co_r10 (h : CO M o a) : gR M 5 o 10 = some (o + 6) := co_r h (j := 5) (by omega)
theorem co_r11 (h : CO M o a) : gR M 5 o 11 = some (o + 7) := co_r h (j := 6) (by omega)
theorem co_r12 (h : CO M o a) : gR M 5 o 12 = some (o + 8) := co_r h (j := 7) (by omega)
theorem co_r13 (h : CO M o a) : gR M 5 o 13 = some (o + 9) := co_r h (j := 8) (by omega)
theorem co_r14 (h : CO M o a) : gR M 5 o 14 = some (o + 10) := co_r h (j := 9) (by omega)
theorem co_g (h : CO M o a) (i : Nat) (hi : i < 5) : gI M 5 o i = some (nI (a i)) := by rw [gI_at (co_shp h), h.2.2.1 i hi]
theorem co_g0 (h : CO M o a) : gI M 5 o 0 = some (nI (a 0)) := co_g h 0 (by omega)
theorem co_g1 (h : CO M o a) : gI M 5 o 1 = some (nI (a 1)) := co_g h 1 (by omega)
theorem co_g2 (h : CO M o a) : gI M 5 o 2 = some (nI (a 2)) := co_g h 2 (by omega)
theorem co_g3 (h : CO M o a) : gI M 5 o 3 = some (nI (a 3)) := co_g h 3 (by omega)
theorem co_g4 (h : CO M o a) : gI M 5 o 4 = some (nI (a 4)) := co_g h 4 (by omega)
theorem co_lt (h : CO M o a) : o < 900 := by have := h.2.1; omega
theorem co_d (h : CO M o a) (hO : OkO a) {d j : Nat} (hd : d < a 0) (hj : j < 5) : aI M 0 (o + 1 + j) (nI d) = some (nI (a (5 + 5 * d + j))) := by
  have := co_lt h
  have := hO.1.1
  rw [aI_at (co_sh8 h (Or.inl hj)) (by omega) (by omega) (by omega), h.2.2.2.1 d hd j hj]
theorem co_kind (h : CO M o a) (hO : OkO a) {d : Nat} (hd : d < a 0) : aI M 0 (o + 1) (nI d) = some (nI (a (5 + 5 * d))) := co_d h hO hd (j := 0) (by omega)
theorem co_place (h : CO M o a) (hO : OkO a) {d : Nat} (hd : d < a 0) : aI M 0 (o + 2) (nI d) = some (nI (a (6 + 5 * d))) := by
  rw [show 6 + 5 * d = 5 + 5 * d + 1 by omega]; exact co_d h hO hd (j := 1) (by omega)
theorem co_rings (h : CO M o a) (hO : OkO a) {d : Nat} (hd : d < a 0) : aI M 0 (o + 3) (nI d) = some (nI (a (7 + 5 * d))) := by
  rw [show 7 + 5 * d = 5 + 5 * d + 2 by omega]; exact co_d h hO hd (j := 2) (by omega)
theorem co_cost (h : CO M o a) (hO : OkO a) {d : Nat} (hd : d < a 0) : aI M 0 (o + 4) (nI d) = some (nI (a (8 + 5 * d))) := by
  rw [show 8 + 5 * d = 5 + 5 * d + 3 by omega]; exact co_d h hO hd (j := 3) (by omega)
theorem co_pres (h : CO M o a) (hO : OkO a) {d : Nat} (hd : d < a 0) : aI M 0 (o + 5) (nI d) = some (nI (a (9 + 5 * d))) := by
  rw [show 9 + 5 * d = 5 + 5 * d + 4 by omega]; exact co_d h hO hd (j := 4) (by omega)
theorem co_c (h : CO M o a) (hO : OkO a) {c j : Nat} (hc : c < a 1) (hj : j < 3) : aI M 0 (o + 6 + j) (nI c) = some (nI (a (45 + 3 * c + j))) := by
  have := co_lt h
  have := hO.1.2.1
  rw [aI_at (co_sh10 h hj) (by omega) (by omega) (by omega), h.2.2.2.2.1 c hc j hj]
theorem co_cdesk (h : CO M o a) (hO : OkO a) {c : Nat} (hc : c < a 1) : aI M 0 (o + 6) (nI c) = some (nI (a (45 + 3 * c))) := co_c h hO hc (j := 0) (by omega)
theorem co_worth (h : CO M o a) (hO : OkO a) {c : Nat} (hc : c < a 1) : aI M 0 (o + 7) (nI c) = some (nI (a (46 + 3 * c))) := by
  rw [show 46 + 3 * c = 45 + 3 * c + 1 by omega]; exact co_c h hO hc (j := 1) (by omega)
theorem co_pat (h : CO M o a) (hO : OkO a) {c : Nat} (hc : c < a 1) : aI M 0 (o + 8) (nI c) = some (nI (a (47 + 3 * c))) := by
  rw [show 47 + 3 * c = 45 + 3 * c + 2 by omega]; exact co_c h hO hc (j := 2) (by omega)
theorem co_hear (h : CO M o a) (hO : OkO a) {d : Nat} (hd : d < a 0) : aI M 0 (o + 9) (nI d) = some (nI (hb a d)) := by
  have := co_lt h
  have := hO.1.1
  rw [show o + 9 = o + 1 + 8 by omega, aI_at (co_sh8 h (Or.inr rfl)) (by omega) (by omega) (by omega), show o + 1 + 8 = o + 9 by omega, h.2.2.2.2.2.1 d hd]
theorem co_gaps (h : CO M o a) (hO : OkO a) {d s : Nat} (hd : d < a 0) (hs : s < a 0) : aI M 0 (o + 10) (nI d * 8 + nI s) = some (nI (gp a s d)) := by
  have := co_lt h
  have := hO.1.1
  rw [show nI d * 8 + nI s = nI (8 * d + s) by rw [show (8 : Int32) = nI 8 from rfl, pk_mul, nI_add, Nat.mul_comm], aI_at (co_sh64 h) (by omega) (by omega) (by omega), h.2.2.2.2.2.2 d hd s hs]
theorem co_fr {S : Nat → Nat → Prop} {M' : Mem} (h : CO M o a) (hF : Fr S M M') (hS : ∀ n k, S n k → n < o ∨ o + 10 < n) : CO M' o a :=
  ⟨fr_sk hF h.1, h.2.1, oc_cong (fun n k h1 h2 => hF.2 n k (fun hh => by have := hS n k hh; omega)) h.2.2⟩
theorem ok_8 (hO : OkO a) : a 0 ≤ 8 := hO.1.1
theorem hb_bit {d s : Nat} : (hb a d).testBit s = (decide (s < a 0) && hr a s d) := by
  unfold hb
  rw [fo_or (p := fun s => hr a s d)]
  simp
theorem hb_lt (d : Nat) : hb a d < 2 ^ a 0 := fo_orlt (p := fun s => hr a s d) (Nat.two_pow_pos _) (Nat.le_refl _)
theorem hb_256 (hO : OkO a) (d : Nat) : hb a d < 256 := Nat.lt_of_lt_of_le (hb_lt d) (pw8 hO.1.1)
theorem gp_30 (hO : OkO a) {d s : Nat} (hd : d < a 0) (hs : s < a 0) : gp a s d ≤ 30 := by
  have h1 := (hO.2.1 d hd).2.1
  have h2 := (hO.2.1 s hs).2.1
  unfold gp
  split <;> omega
/-- its methods -/
theorem c_hasDesk (h : CO M o a) (hO : OkO a) {d : Nat} (hd : d < a 0) : f_X5_hasDesk M o (nI d) = some 1 := by
  have := hO.1.1
  have h1 : ¬ nI d < 0 := nI_pos (by omega)
  have h2 : ¬ nI (a 0) ≤ nI d := nI_ge hd (by omega)
  simp [f_X5_hasDesk, co_g0 h, h1, h2]
theorem c_noDesk (h : CO M o a) {x : Int32} (hx : outO x (a 0)) : f_X5_hasDesk M o x = some 0 := by
  unfold f_X5_hasDesk
  rcases hx with hx | hx
  · rw [if_pos hx]
  · rw [co_g0 h]
    simp [hx]
theorem c_hasCall (h : CO M o a) (hO : OkO a) {d : Nat} (hd : d < a 1) : f_X5_hasCall M o (nI d) = some 1 := by
  have := hO.1.2.1
  have h1 : ¬ nI d < 0 := nI_pos (by omega)
  have h2 : ¬ nI (a 1) ≤ nI d := nI_ge hd (by omega)
  simp [f_X5_hasCall, co_g1 h, h1, h2]
theorem c_noCall (h : CO M o a) {x : Int32} (hx : outO x (a 1)) : f_X5_hasCall M o x = some 0 := by
  unfold f_X5_hasCall
  rcases hx with hx | hx
  · rw [if_pos hx]
  · rw [co_g1 h]
    simp [hx]
theorem c_every (h : CO M o a) (hO : OkO a) : f_X5_everybody M o = some (nI (2 ^ a 0 - 1)) := by
  have := hO.1.1
  simp [f_X5_everybody, co_g0 h, all_sl (show a 0 < 31 by omega)]
theorem c_others (h : CO M o a) (hO : OkO a) {d : Nat} (hd : d < a 0) : f_X5_othersThan M o (nI d) = some (nI (clr (2 ^ a 0 - 1) d)) := by
  have := hO.1.1
  simp only [f_X5_othersThan, ob_at (co_shp h), c_every h hO, bb_some, clr_at _ (show d < 32 by omega)]
theorem c_gap (h : CO M o a) (hO : OkO a) {d s : Nat} (hd : d < a 0) (hs : s < a 0) : f_X5_gap M o (nI s) (nI d) = some (nI (gp a s d)) := by
  simp [f_X5_gap, co_r14 h, co_gaps h hO hd hs]
theorem c_hears (h : CO M o a) (hO : OkO a) {d s : Nat} (hd : d < a 0) (hs : s < a 0) : f_X5_hears M o (nI s) (nI d) = some (if hr a s d = true then 1 else 0) := by
  have := hO.1.1
  have := hb_256 hO d
  have e := bit_0 (m := hb a d) (s := s) (by omega) (by omega)
  rw [hb_bit] at e
  simp only [f_X5_hears, co_r13 h, bb_some, co_hear h hO hd]
  by_cases hh : hr a s d = true
  · rw [if_neg (by rw [e]; simp [hs, hh]), if_pos hh]
  · rw [if_pos (by rw [e]; simp [hh]), if_neg hh]
theorem c_faded (h : CO M o a) (w r : Int32) : f_X5_faded M o w r = some (imax 0 (w - nI (a 4) * (r - 1))) := by
  simp [f_X5_faded, co_g4 h]
end
