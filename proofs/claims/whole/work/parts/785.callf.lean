/-! the calls fits, blame -/
theorem qol {α : Type} {M : Mem} (hI : Inv M) (a1 a2 : Int32) {fC : Option (α × Mem)} {fM : Mem → Option (α × Mem)} {bad : α}
    (hn1 : ∀ q, f_X9_officeAt M 2 a1 = some 0 → f_X9_logAt M 2 a2 = some q → f_X12_isOffice M 255 a1 = some (0, M) → fC = some (bad, M) ∧ fM M = some (bad, M))
    (hn2 : ∀ o M2, o ≠ 0 → f_X9_officeAt M 2 a1 = some o → f_X9_logAt M 2 a2 = some 0 → f_X12_isOffice M 255 a1 = some (1, M2) → Sk M2 → f_X12_isLog M2 255 a2 = some (0, M2) → fC = some (bad, M) ∧ fM M = some (bad, M2))
    (hs : ∀ o a q b n, o ≠ 0 → q ≠ 0 → (o = 8 ∨ o = 26) → OkO a → OL b n → f_X9_officeAt M 2 a1 = some o → f_X9_logAt M 2 a2 = some q → CO M o a → CL M q b → ∃ r M1, fC = some (r, M1) ∧ Qf M M1 ∧ ∀ M2 M3, f_X12_isOffice M1 255 a1 = some (1, M2) → Sk M1 → Sk M2 → f_X12_isLog M2 255 a2 = some (1, M3) → MB M3 a b → ∃ M4, fM M1 = some (r, M4) ∧ Qf M3 M4) :
    ∃ (r : α) (M1 M2 : Mem), fC = some (r, M1) ∧ shp M1 255 = some (.inl 12) ∧ fM M1 = some (r, M2) ∧ Inv M2 := by
  rcases ofs hI a1 with ⟨e1, e2⟩ | ⟨o, a, ho, hor, hO, e1, hC, e2⟩
  · obtain ⟨q, hq⟩ : ∃ q, f_X9_logAt M 2 a2 = some q := by
      rcases lgs hI a2 with ⟨d1, _⟩ | ⟨q, _, _, _, d1, _⟩
      · exact ⟨0, d1⟩
      · exact ⟨q, d1⟩
    obtain ⟨h1, h2⟩ := hn1 q e1 hq (e2 M qf_refl)
    exact ⟨bad, M, M, h1, m_shp hI.1, h2, hI⟩
  · rcases lgs hI a2 with ⟨d1, d2⟩ | ⟨q, b, hq0, hb, d1, hD, d2⟩
    · obtain ⟨M2, e3, hF, hM⟩ := e2 M qf_refl
      obtain ⟨h1, h2⟩ := hn2 o M2 ho e1 d1 e3 hM.1 (d2 M2 (iof_q hF))
      exact ⟨bad, M, M2, h1, m_shp hI.1, h2, inv_q hI (iof_q hF)⟩
    · obtain ⟨n, hn⟩ := ol_of hb
      obtain ⟨r, M1, h1, hq, h2⟩ := hs o a q b n ho hq0 hor hO hn e1 d1 hC hD
      obtain ⟨M2, e3, hF, hM⟩ := e2 M1 hq
      obtain ⟨M3, e4, hF3, hD3⟩ := d2 M2 (qf_trans hq (iof_q hF))
      have hM3 : MO M3 a := mo_fr hM hF3 (fun n k hh => by omega)
      obtain ⟨M4, h3, h4⟩ := h2 M2 M3 e3 (hq.1 hI.1) hM.1 e4 ⟨hM3, hD3⟩
      exact ⟨r, M1, M4, h1, m_shp (hq.1 hI.1), h3, inv_q hI (qf_trans hq (qf_trans (iof_q hF) (qf_trans (idf_q hF3) h4)))⟩
/-- what fits answers -/
def fta (a : Nat → Nat) (p : Nat → Bool) (w : Nat) : Int32 := if w = 0 then nI (cb p (2 ^ a 0)) else if cb p (2 ^ a 0) = 0 then -1 else if w = 1 then ff p (anf 0) (2 ^ a 0) (nI (2 ^ a 0 - 1)) else if w = 2 then ff p (anf 1) (2 ^ a 0) (nI (2 ^ a 0 - 1)) else oI (fo (trf a p) (a 0) (none, 999)).1
theorem fta_1 (a : Nat → Nat) (p : Nat → Bool) : fta a p 1 = if cb p (2 ^ a 0) = 0 then -1 else ff p (anf 0) (2 ^ a 0) (nI (2 ^ a 0 - 1)) := by
  unfold fta
  rw [if_neg (show ¬ 1 = 0 by omega), if_pos (show 1 = 1 from rfl)]
theorem fta_2 (a : Nat → Nat) (p : Nat → Bool) : fta a p 2 = if cb p (2 ^ a 0) = 0 then -1 else ff p (anf 1) (2 ^ a 0) (nI (2 ^ a 0 - 1)) := by
  unfold fta
  rw [if_neg (show ¬ 2 = 0 by omega), if_neg (show ¬ 2 = 1 by omega), if_pos (show 2 = 2 from rfl)]
theorem fta_3 (a : Nat → Nat) (p : Nat → Bool) : fta a p 3 = if cb p (2 ^ a 0) = 0 then -1 else oI (fo (trf a p) (a 0) (none, 999)).1 := by
  unfold fta
  rw [if_neg (show ¬ 3 = 0 by omega), if_neg (show ¬ 3 = 1 by omega), if_neg (show ¬ 3 = 2 by omega)]
theorem c_tell4 {M : Mem} {a : Nat → Nat} {b : Nat → Int32} {p : Nat → Bool} {l w : Nat} (hO : OkO a) (h : FS M a b p l) (hw : w < 4) : ∃ M', f_X8_tell M 92 (nI w) = some (fta a p w, M') ∧ Fr SZ M M' := by
  have p8 := pw8 hO.1.1
  have cl := cb_le p (2 ^ a 0)
  have c0 : nI (cb p (2 ^ a 0)) = 0 ↔ cb p (2 ^ a 0) = 0 := nI_eq (b := 0) (by omega) (by omega)
  have hS := fs_sk h
  unfold f_X8_tell
  rw [if_pos (show nI w < 10 from nI_lt (b := 10) (by omega) (by omega)), fs_g h]
  simp only [bb_some, su_ob hS, c_inAll hO h, c_inNone hO h]
  rcases (show w = 0 ∨ w = 1 ∨ w = 2 ∨ w = 3 by omega) with rfl | rfl | rfl | rfl
  · rw [if_pos (show nI 0 = 0 from rfl)]
    exact ⟨M, rfl, fr_refl⟩
  · rw [if_neg (show ¬ nI 1 = 0 by decide), if_pos (show nI 1 = 1 from rfl), fta_1]
    by_cases hc : cb p (2 ^ a 0) = 0
    · rw [if_pos (c0.mpr hc), if_pos hc]; exact ⟨M, rfl, fr_refl⟩
    · rw [if_neg (fun hh => hc (c0.mp hh)), if_neg hc]; exact ⟨M, rfl, fr_refl⟩
  · rw [if_neg (show ¬ nI 2 = 0 by decide), if_neg (show ¬ nI 2 = 1 by decide), if_pos (show nI 2 = 2 from rfl), fta_2]
    by_cases hc : cb p (2 ^ a 0) = 0
    · rw [if_pos (c0.mpr hc), if_pos hc]; exact ⟨M, rfl, fr_refl⟩
    · rw [if_neg (fun hh => hc (c0.mp hh)), if_neg hc]; exact ⟨M, rfl, fr_refl⟩
  · rw [if_neg (show ¬ nI 3 = 0 by decide), if_neg (show ¬ nI 3 = 1 by decide), if_neg (show ¬ nI 3 = 2 by decide), if_pos (show nI 3 = 3 from rfl), fta_3]
    by_cases hc : cb p (2 ^ a 0) = 0
    · rw [if_pos (c0.mpr hc), if_pos hc]; exact ⟨M, rfl, fr_refl⟩
    · obtain ⟨D, eD, fD⟩ := c_try hO h
      rw [if_neg (fun hh => hc (c0.mp hh)), if_neg hc, eD, bb_some]
      exact ⟨D, rfl, fD⟩
theorem c_tellX {M : Mem} {x : Int32} (hx : x < 0 ∨ ∃ w, 4 ≤ w ∧ w < 10 ∧ x = nI w) : f_X8_tell M 92 x = some (-2, M) := by
  unfold f_X8_tell
  rcases hx with hx | ⟨w, h1, h2, rfl⟩
  · have l10 : x < 10 := by
      rw [Int32.lt_iff_toInt_lt] at hx ⊢
      have e0 : (0 : Int32).toInt = 0 := rfl
      have e1 : (10 : Int32).toInt = 10 := rfl
      omega
    rw [if_pos l10, if_neg (show ¬ x = 0 from neg_nq hx (k := 0) (by omega)), if_neg (show ¬ x = 1 from neg_nq hx (k := 1) (by omega)), if_neg (show ¬ x = 2 from neg_nq hx (k := 2) (by omega)), if_neg (show ¬ x = 3 from neg_nq hx (k := 3) (by omega))]
  · rw [if_pos (show nI w < 10 from nI_lt (b := 10) (by omega) (by omega)), if_neg (show ¬ nI w = 0 from nI_nq (k := 0) (by omega) (by omega) (by omega)), if_neg (show ¬ nI w = 1 from nI_nq (k := 1) (by omega) (by omega) (by omega)), if_neg (show ¬ nI w = 2 from nI_nq (k := 2) (by omega) (by omega) (by omega)), if_neg (show ¬ nI w = 3 from nI_nq (k := 3) (by omega) (by omega) (by omega))]
theorem ii_13 (M : Mem) {x : Int32} (h : x < 0 ∨ ∃ w, (w = 0 ∨ 4 ≤ w) ∧ w < 2 ^ 31 ∧ x = nI w) : f_X12_isIn M x 1 3 = some 0 := by
  rcases h with h | ⟨w, h1, h2, rfl⟩
  · exact ii_neg M h (by decide)
  · rw [ii_n M (x := w) (l := 1) (u := 3) (L := 1) (U := 3) rfl rfl h2 (by omega) (by omega), if_neg (by omega)]
theorem fx_nf {M : Mem} {n : Nat} {a : Nat → Nat} {b : Nat → Int32} (hM : MB M a b) (hO : OkO a) {x : Int32} (h : x < 10) : f_X12_fits_L90 M 255 x 0 0 = some (.inr M) := by
  refine iter_end ?_
  have pp := Nat.two_pow_pos (a 0)
  have p8 := pw8 hO.1.1
  show f_X12_fits_B90 M 255 x 0 0 = _
  unfold f_X12_fits_B90
  rw [(mo_sl hM.1 hO).1, bb_some, (mo_sl hM.1 hO).2, if_neg (show ¬ nI (2 ^ a 0) ≤ 0 from nI_ge (a := 0) pp (by omega)), if_pos h]
theorem mo_tell4 {M : Mem} {n w : Nat} {a : Nat → Nat} {b : Nat → Int32} (hM : MB M a b) (hO : OkO a) (hb : OL b n) (hT : LTh a b n) (hw : w < 4) : ∃ M', ((f_X12_fitting M 255).bind fun z7 => (if nI w = 0 then some (z7.1, z7.2) else (f_X12_isIn z7.2 (nI w) (1 : Int32) (3 : Int32)).bind fun v9 => (if v9 = 0 then ((f_X12_fits_L90 z7.2 255 (nI w) (0 : Int32) (0 : Int32)).bind fun r11 => match r11 with | .inl r11 => some (r11.1, r11.2) | .inr r11 => some ((-2 : Int32), r11)) else (if z7.1 = 0 then some ((-1 : Int32), z7.2) else (if nI w = (3 : Int32) then (ob z7.2 12 255).bind fun _ => (f_X12_tryOf z7.2 255).bind fun z14 => some (z14.1, z14.2) else (if nI w = (2 : Int32) then f_X12_fits_J80 z7.2 255 (1 : Int32) else f_X12_fits_J80 z7.2 255 (0 : Int32))))))) = some (fta a (agr a b n) w, M') ∧ Fr SX M M' := by
  have p8 := pw8 hO.1.1
  have cl := cb_le (agr a b n) (2 ^ a 0)
  have c0 : nI (cb (agr a b n) (2 ^ a 0)) = 0 ↔ cb (agr a b n) (2 ^ a 0) = 0 := nI_eq (b := 0) (by omega) (by omega)
  obtain ⟨D, eD, fD⟩ := mo_fitting hM hO hb hT
  have hD := sx_mb hM fD
  rw [eD, bb_some]
  show ∃ M', (if nI w = 0 then some (nI (cb (agr a b n) (2 ^ a 0)), D) else (f_X12_isIn D (nI w) 1 3).bind fun v9 => (if v9 = 0 then ((f_X12_fits_L90 D 255 (nI w) (0 : Int32) (0 : Int32)).bind fun r11 => match r11 with | .inl r11 => some (r11.1, r11.2) | .inr r11 => some ((-2 : Int32), r11)) else (if nI (cb (agr a b n) (2 ^ a 0)) = 0 then some ((-1 : Int32), D) else (if nI w = (3 : Int32) then (ob D 12 255).bind fun _ => (f_X12_tryOf D 255).bind fun z14 => some (z14.1, z14.2) else (if nI w = (2 : Int32) then f_X12_fits_J80 D 255 (1 : Int32) else f_X12_fits_J80 D 255 (0 : Int32)))))) = _ ∧ _
  unfold fta f_X12_fits_J80
  by_cases w0 : w = 0
  · subst w0
    rw [if_pos (show nI 0 = 0 from rfl), if_pos rfl]
    exact ⟨D, rfl, fD⟩
  · rw [if_neg (nI_ne0 (by omega) (by omega)), if_neg w0, ii_n D (x := w) (l := 1) (u := 3) (L := 1) (U := 3) rfl rfl (by omega) (by omega) (by omega), if_pos (by omega), bb_some, if_neg (by decide)]
    by_cases hc : cb (agr a b n) (2 ^ a 0) = 0
    · rw [if_pos (c0.mpr hc), if_pos hc]; exact ⟨D, rfl, fD⟩
    · rw [if_neg (fun hh => hc (c0.mp hh)), if_neg hc]
      rcases (show w = 1 ∨ w = 2 ∨ w = 3 by omega) with rfl | rfl | rfl
      · obtain ⟨E, eE, fE⟩ := mo_sure hD hO hb hT (c := 0) (by omega)
        rw [nI_0] at eE
        rw [if_neg (show ¬ nI 1 = 3 by decide), if_neg (show ¬ nI 1 = 2 by decide), if_pos rfl, mo_ob hD.1, bb_some, eE, bb_some]
        exact ⟨E, rfl, fr_trans fD fE⟩
      · obtain ⟨E, eE, fE⟩ := mo_sure hD hO hb hT (c := 1) (by omega)
        have eE : f_X12_sureOf D 255 1 = _ := eE
        rw [if_neg (show ¬ nI 2 = 3 by decide), if_pos (show nI 2 = 2 from rfl), if_neg (by omega), if_pos rfl, mo_ob hD.1, bb_some, eE, bb_some]
        exact ⟨E, rfl, fr_trans fD fE⟩
      · obtain ⟨E, eE, fE⟩ := mo_try hD hO hb hT
        rw [if_pos (show nI 3 = 3 from rfl), if_neg (by omega), if_neg (by omega), mo_ob hD.1, bb_some, eE, bb_some]
        exact ⟨E, rfl, fr_trans fD fE⟩
