/-! the call text -/
theorem call_text {M : Mem} (hI : Inv M) (a1 a2 : Int32)  : ∃ (r : Int32) (M1 M2 : Mem), f_X11_text M 1 a1 a2 = some (r, M1) ∧ shp M1 255 = some (.inl 12) ∧ f_X12_text M1 255 a1 a2 = some (r, M2) ∧ Inv M2 := by
  have hS := hI.1
  have hTB : TB M 2 0 := hI.2.1.2.2.2.2
  obtain ⟨⟨n, hn, t1, t2, t3⟩, t4, t5, t6, c, h9, h10, h11, h12⟩ := hI.2.1
  have t1 : M.1 2 1 = nI n := t1
  have t2 : M.1 256 4 = nI n := t2
  have t3 : ∀ i, i < n → M.1 256 (10 + i) = M.1 3 i &&& 255 := t3
  have t4 : ∀ i, i < 600 → fits .byte (.int (M.1 3 i)) = true := t4
  have h9 : ∀ s, s < 3 → c s ≤ 2 ∧ M.1 4 s = nI (c s) ∧ M.1 256 s = nI (c s) := fun s hs => by
    have := h9 s hs
    rw [Nat.zero_add] at this
    exact this
  have h10 : ∀ k, k < c 0 → OR M (8 + 18 * k) (610 + 75 * k) := h10
  have h11 : ∀ k, k < c 1 → DR M (19 + 18 * k) (760 + 81 * k) := h11
  have h12 : ∀ k, k < c 2 → LR M (22 + 18 * k) (922 + 33 * k) := h12
  obtain ⟨A, hA⟩ : ∃ A, A = wI (wI (wI M 2 1 0) 2 2 0) 2 3 (-1) := ⟨_, rfl⟩
  have hSA : Sk A := by rw [hA]; exact hS
  have rA : ∀ a b, ¬ (a = 2 ∧ 1 ≤ b ∧ b ≤ 3) → A.1 a b = M.1 a b := fun a b h => by
    rw [hA, wI_rd, if_neg (by omega), wI_rd, if_neg (by omega), wI_rd, if_neg (by omega)]
  have A1 : A.1 2 1 = 0 := by rw [hA]; simp [wI_rd]
  have A2 : A.1 2 2 = 0 := by rw [hA]; simp [wI_rd]
  have A3 : A.1 2 3 = -1 := by rw [hA]; simp [wI_rd]
  have w1 : ∀ Z n, (Mp Z n).1 256 4 = 0 := fun Z n => by unfold Mp; simp [wI_rd]
  have w2 : ∀ Z n, (Mp Z n).1 256 5 = 0 := fun Z n => by unfold Mp; simp [wI_rd]
  have w3 : ∀ Z n, (Mp Z n).1 256 6 = -1 := fun Z n => by unfold Mp; simp [wI_rd]
  have w4 : ∀ Z n, (Mp Z n).1 255 2 = nI n := fun Z n => by unfold Mp; simp [wI_rd]
  have e0 : f_X11_text M 1 a1 a2 = (f_X9_slotFor A 2 a1 a2).bind fun v10 =>
      (if v10 = (-1 : Int32) then
        some ((-2 : Int32), A)
      else
        (f_X7_readText A 46 a1 3 (nI n)).bind fun z15 =>
        (gR z15 11 1 0).bind fun v16 =>
        (gR z15 11 1 3).bind fun v17 =>
        (gI z15 7 v17 3).bind fun v18 =>
        (pI z15 9 v16 2 v18).bind fun M19 =>
        (gR M19 11 1 0).bind fun v20 =>
        (gR M19 11 1 3).bind fun v21 =>
        (gI M19 7 v21 4).bind fun v22 =>
        (pI M19 9 v20 3 v22).bind fun M23 =>
        (gR M23 11 1 3).bind fun v24 =>
        (gI M23 7 v24 3).bind fun v25 =>
        (if v25 = 0 then
          (gR M23 11 1 0).bind fun v27 =>
          (gR M23 11 1 3).bind fun v28 =>
          (ob M23 9 v27).bind fun _ => (f_X9_keep M23 v27 a1 v10 v28).bind fun z29 =>
          some (v10, z29)
        else
          some ((-1 : Int32), M23))) := by
    unfold f_X11_text
    simp only [d_r0, d_r3, tg, tP, t_ob, t_r0, ro7, t1, sk_wI, hS, bb_some]
    rw [← hA]
  rcases slot_cases (M := A) a1 a2 c (fun s hs => (h9 s hs).1) (fun s hs => by rw [rA 4 s (by omega)]; exact (h9 s hs).2.1) hSA with ⟨s, q, hs, ea, hsl, hv⟩ | ⟨hv, hno⟩
  · subst ea
    obtain ⟨hq, hqc, hsl⟩ := hsl
    have hc2 := (h9 s hs).1
    have hbA : ∀ i, i < 600 → fits .byte (.int (A.1 3 i)) = true := fun i hi => by rw [rA 3 i (by omega)]; exact t4 i hi
    obtain ⟨B, m, eB, fB, hg, hce⟩ := c_read hSA hs hn hbA
    have hSB : Sk B := fr_sk fB (wR46_sk hSA)
    have rB : ∀ a b, ¬ (46 ≤ a ∧ a ≤ 66) → B.1 a b = A.1 a b := fun a b h => fB.2 a b h
    obtain ⟨C, hC⟩ : ∃ C, C = wI (wI B 2 2 (B.1 46 3)) 2 3 (B.1 46 4) := ⟨_, rfl⟩
    have hSC : Sk C := by rw [hC]; exact hSB
    have C1 : C.1 2 1 = 0 := by rw [hC, wI_rd, if_neg (by omega), wI_rd, if_neg (by omega), rB 2 1 (by omega)]; exact A1
    have C2 : C.1 2 2 = B.1 46 3 := by rw [hC]; simp [wI_rd]
    have C3 : C.1 2 3 = B.1 46 4 := by rw [hC]; simp [wI_rd]
    have rCB : ∀ a b, a ≠ 2 → C.1 a b = B.1 a b := fun a b h => by rw [hC, wI_rd, if_neg (by omega), wI_rd, if_neg (by omega)]
    have rC : ∀ a b, a ≠ 2 → ¬ (46 ≤ a ∧ a ≤ 66) → C.1 a b = M.1 a b := fun a b h h' => by rw [rCB a b h, rB a b h', rA a b (by omega)]
    have eC : f_X11_text M 1 (nI s) a2 = if B.1 46 3 = 0 then (f_X9_keep C 2 (nI s) (nI q) 46).bind fun z29 => some (nI q, z29) else some (-1, C) := by
      have x4 : (wI B 2 2 (B.1 46 3)).1 46 4 = B.1 46 4 := by rw [wI_rd, if_neg (by omega)]
      have x3 : (wI (wI B 2 2 (B.1 46 3)) 2 3 (B.1 46 4)).1 46 3 = B.1 46 3 := by rw [wI_rd, if_neg (by omega), wI_rd, if_neg (by omega)]
      rw [e0, hv, bb_some, if_neg (nI_nm1 (by omega)), eB, bb_some]
      simp only [d_r0, d_r3, tP, rg7, t_ob, sk_wI, hSB, bb_some, x4, x3]
      rw [← hC]
    have hX : TX (kt A n) n := ⟨hn, fun i hi => kt_n A hi, fun i hi => by rw [kt_i A hi]; exact (KV_f (KV_b (hbA i (by omega))).1).2.2.2.2.2.2⟩
    have mod : ∀ Z, Sk Z → (∀ b, Z.1 256 b = M.1 256 b) → ∃ R m', f_X12_text Z 255 (nI s) a2 = f_X12_text_J228 R 255 (nI s) a2 ∧ Fr SMl (Mp Z n) R ∧ MEnd R (kt A n) n s m' := fun Z hZ h6 => by
      have hP : MT (Mp Z n) (kt A n) n := by
        refine ⟨hZ, w4 Z n, hX, fun i hi => ?_⟩
        rw [mp_rd Z n 256 (10 + i) (by omega) (by omega), h6, t3 i hi, kt_i A hi, ← rA 3 i (by omega)]
        exact (KV_b (hbA i (by omega))).2
      obtain ⟨R, m', e1, f1, g1⟩ := m_read hP (w2 Z n) (w3 Z n) hs a2
      refine ⟨R, m', ?_, f1, g1⟩
      rw [← e1]
      refine mp_yes hZ (by rw [h6]; exact t2) hs (by rw [h6]; exact (h9 s hs).2.2) ?_
      rcases hsl with ⟨g1, g2⟩ | ⟨g1, g2⟩
      · exact Or.inl ⟨g1, by omega⟩
      · exact Or.inr ⟨q, g1, g2, hc2⟩
    have fin : ∀ R, Fr SMl (Mp C n) R → R.1 256 5 = B.1 46 3 → R.1 256 6 = B.1 46 4 → ¬ B.1 46 3 = 0 → f_X12_text C 255 (nI s) a2 = f_X12_text_J228 R 255 (nI s) a2 → ∃ (r : Int32) (M1 M2 : Mem), f_X11_text M 1 (nI s) a2 = some (r, M1) ∧ shp M1 255 = some (.inl 12) ∧ f_X12_text M1 255 (nI s) a2 = some (r, M2) ∧ Inv M2 := fun R fR g5 g6 h0 eR => by
      have hSR : Sk R := fr_sk fR hSC
      have rR : ∀ a b, a ≠ 255 → a ≠ 258 → ¬ (a = 256 ∧ (b = 4 ∨ b = 5 ∨ b = 6)) → R.1 a b = C.1 a b := fun a b h1 h2 h3 => by
        rw [fR.2 a b (by unfold SMl Sm7 S56; omega), mp_rd C n a b (by omega) h3]
      refine ⟨-1, C, R, by rw [eC, if_neg h0], m_shp hSC, by rw [eR]; exact jno hSR (by rw [g5]; exact h0), ?_⟩
      refine inv_txt hI hSR (by rw [rR _ _ (by omega) (by omega) (by omega)]; exact C1) ?_ (by rw [g5, rR _ _ (by omega) (by omega) (by omega)]; exact C2.symm) (by rw [g6, rR _ _ (by omega) (by omega) (by omega)]; exact C3.symm) (tb_no hTB (fun t ht => ?_) (fun a b ha ha' => ?_) (fun b hb => ?_)) (fun i => ?_) (fun a b hab => ?_) (fun b hb => ?_)
      · rw [fR.2 256 4 (by unfold SMl Sm7 S56; omega)]; exact w1 C n
      · rw [rR _ _ (by omega) (by omega) (by omega), rC _ _ (by omega) (by omega)]
      · rw [rR _ _ (by omega) (by omega) (by omega), rC _ _ (by omega) (by omega)]
      · rw [rR _ _ (by omega) (by omega) (by omega), rC _ _ (by omega) (by omega)]
      · rw [rR _ _ (by omega) (by omega) (by omega), rC _ _ (by omega) (by omega)]
      · rw [rR _ _ (by omega) (by omega) (by omega), rC _ _ (by omega) (by omega)]
      · rw [rR _ _ (by omega) (by omega) (by omega), rC _ _ (by omega) (by omega)]
    have meq : ∀ R m', MEnd R (kt A n) n s m' → ¬ LnG (kt A n) s (rn (kt A n) (0, -1) (row0 s) m).1 → m = m' := fun R m' hE hno => by
      refine m_eq hg hE.1 hno ?_
      rcases hE.2 with ⟨_, b, hb, _⟩ | ⟨h0, _⟩
      · exact fun hG => ln_not hG hb
      · exact lg_no0 h0
    rcases hce with ⟨d0, b, lb, f3, f4⟩ | ⟨d0, cf, fd, fnd⟩
    · obtain ⟨R, m', e1, fR, hE⟩ := mod C hSC (fun b => rC 256 b (by omega) (by omega))
      have hm := meq R m' hE (fun hG => ln_not hG lb)
      subst hm
      rcases hE.2 with ⟨_, b', lb', g5, g6⟩ | ⟨z0, _⟩
      · have := ln_one lb lb'
        subst this
        exact fin R fR (by rw [g5, f3]) (by rw [g6, f4]) (by rw [f3]; decide) e1
      · exact absurd z0 d0
    · have hok := oks_rn (F := (0, -1)) hs (oks_row0 s) m hg
      obtain ⟨F', fS, fM⟩ : ∃ F', FtS B F' ∧ ∀ R m', MEnd R (kt A n) n s m' → FtM R F' ∧ (F'.1 = 0 → Dk s (rn (kt A n) (0, -1) (row0 s) m).2.2 ∧ ∀ x, x < 81 → R.1 258 x = nI ((rn (kt A n) (0, -1) (row0 s) m).2.2 x)) := by
        by_cases hD : Dk s (rn (kt A n) (0, -1) (row0 s) m).2.2
        · refine ⟨_, fd hD, fun R m' hE => ?_⟩
          have hm := meq R m' hE (lg_no0 d0)
          subst hm
          rcases hE.2 with ⟨z0, _⟩ | ⟨_, y1, y2, y3⟩
          · exact absurd d0 z0
          · exact ⟨y2 hD, fun h0 => ⟨hD, y1 h0⟩⟩
        · refine ⟨_, fnd hD, fun R m' hE => ?_⟩
          have hm := meq R m' hE (lg_no0 d0)
          subst hm
          rcases hE.2 with ⟨z0, _⟩ | ⟨_, y1, y2, y3⟩
          · exact absurd d0 z0
          · exact ⟨y3 hD, fun h0 => absurd h0 (mk_nz (by omega))⟩
      by_cases h0 : F'.1 = 0
      · have hB0 : B.1 46 3 = 0 := by rw [fS.1, h0]; rfl
        have hkp := c_keep hSC hs hq (by rw [rC 4 s (by omega) (by omega)]; exact (h9 s hs).2.1) hc2
        obtain ⟨K, hK⟩ : ∃ K, K = wI (cpM (Lfn s) C (srn s) (dsn s q) (nN s) 0) 4 s (nI (max (c s) (q + 1))) := ⟨_, rfl⟩
        rw [← hK] at hkp
        have hSK : Sk K := by rw [hK]; exact hSC
        have hdn : 8 ≤ dsn s q ∧ dsn s q + nN s ≤ 44 := by unfold dsn nN; (repeat' split) <;> omega
        have hsn : 47 ≤ srn s ∧ srn s + nN s ≤ 66 := by unfold srn nN; (repeat' split) <;> omega
        have rK : ∀ a b, ¬ (a = 4 ∧ b = s) → ¬ (dsn s q ≤ a ∧ a < dsn s q + nN s) → K.1 a b = C.1 a b := fun a b h h' => by
          rw [hK, wI_rd, if_neg h, cpM_out (by omega)]
        obtain ⟨R0, m', e1, fR, hE⟩ := mod K hSK (fun b => by rw [rK 256 b (by omega) (by omega)]; exact rC 256 b (by omega) (by omega))
        obtain ⟨ft, hrow⟩ := fM R0 m' hE
        obtain ⟨hD, hrow⟩ := hrow h0
        have hSR0 : Sk R0 := fr_sk fR hSK
        have rR0 : ∀ a b, a ≠ 255 → a ≠ 258 → ¬ (a = 256 ∧ (b = 4 ∨ b = 5 ∨ b = 6)) → R0.1 a b = K.1 a b := fun a b h1 h2 h3 => by
          rw [fR.2 a b (by unfold SMl Sm7 S56; omega), mp_rd K n a b (by omega) h3]
        have k6 : ∀ b, K.1 256 b = M.1 256 b := fun b => by rw [rK 256 b (by omega) (by omega)]; exact rC 256 b (by omega) (by omega)
        obtain ⟨R, e2, fR2, row2, cnt2⟩ := m_keep hSR0 hs (by rw [ft.1, h0]; rfl) hq (by rw [rR0 256 s (by omega) (by omega) (by omega), k6]; exact (h9 s hs).2.2) hsl
        have hSR : Sk R := fr_sk fR2 hSR0
        have hpl := plc_le (s := s) hq
        have rR : ∀ a b, a ≠ 255 → a ≠ 256 → a ≠ 258 → R.1 a b = K.1 a b := fun a b h1 h2 h3 => by
          rw [fR2.2 a b (by omega), rR0 a b h1 h3 (by omega)]
        have r6 : ∀ b, b ≠ 4 → b ≠ 5 → b ≠ 6 → b ≠ s → ¬ (plc s q ≤ b ∧ b < plc s q + szf s) → R.1 256 b = M.1 256 b := fun b h1 h2 h3 h4 h5 => by
          rw [fR2.2 256 b (by omega), rR0 256 b (by omega) (by omega) (by omega), k6]
        have inK : ∀ x, x < nN s → ∀ y, y < Lfn s x → R.1 (dsn s q + x) y = B.1 (srn s + x) y := fun x hx y hy => by
          rw [rR _ _ (by omega) (by omega) (by omega), hK, wI_rd, if_neg (by omega), cpM_in hx hy, rCB _ _ (by omega)]
        have row3 : ∀ x, x < szf s → R.1 256 (plc s q + x) = nI ((rn (kt A n) (0, -1) (row0 s) m).2.2 x) := fun x hx => by
          rw [row2 x hx]; exact hrow x (by have := szf_le s; omega)
        refine ⟨nI q, K, R, by rw [eC, if_pos hB0, hkp, bb_some], m_shp hSK, by rw [e1, e2], ?_⟩
        refine inv_txt hI hSR ?_ ?_ ?_ ?_ (tb_slot h9 h10 h11 h12 hs hq hqc ⟨?_, cnt2⟩ (fun t ht hts => ⟨?_, ?_⟩) (fun a b ha ha' hab => ?_) (fun b hb hb' hbp => ?_) ?_) (fun i => ?_) (fun a b hab => ?_) (fun b hb => ?_)
        · rw [rR _ _ (by omega) (by omega) (by omega), rK _ _ (by omega) (by omega)]; exact C1
        · rw [fR2.2 _ _ (by omega), fR.2 256 4 (by unfold SMl Sm7 S56; omega)]; exact w1 K n
        · rw [fR2.2 _ _ (by omega), ft.1, rR _ _ (by omega) (by omega) (by omega), rK _ _ (by omega) (by omega), C2]; exact fS.1.symm
        · rw [fR2.2 _ _ (by omega), ft.2.1, rR _ _ (by omega) (by omega) (by omega), rK _ _ (by omega) (by omega), C3]; exact fS.2.1.symm
        · rw [rR _ _ (by omega) (by omega) (by omega), hK, wI_same]
        · rw [rR _ _ (by omega) (by omega) (by omega), rK _ _ (by omega) (by omega), rC _ _ (by omega) (by omega)]
        · exact r6 t (by omega) (by omega) (by omega) hts (by omega)
        · rw [rR _ _ (by omega) (by omega) (by omega), rK _ _ (by omega) hab, rC _ _ (by omega) (by omega)]
        · exact r6 b (by omega) (by omega) (by omega) (by omega) hbp
        · refine ⟨fun e => ?_, fun e => ?_, fun e => ?_⟩
          · subst e
            have hO := okf_o (hok.1 rfl) (hD rfl)
            exact ⟨_, hO, fun i hi => row3 i hi, oc_move (M := B) (o := 47) hO (fun x hx y hy => inK x hx y hy) (cf.1 rfl)⟩
          · subst e
            have hO := hok.2.1 rfl
            exact ⟨_, hO, fun i hi => row3 i hi, dc_move (M := B) (o := 58) hO (fun x hx y hy => inK x hx y hy) (cf.2.1 rfl)⟩
          · subst e
            have hO := hok.2.2 rfl
            have hL := cf.2.2 rfl
            have h8 := hO.1
            refine lr_new hO ?_ (fun c' hc' j hj => ?_) (fun i hi => row3 i hi)
            · rw [← hL.1]; exact inK 0 (by decide) 0 (by decide)
            · rw [← hL.2 c' hc' j hj, Nat.add_assoc]
              have := inK (1 + j) (show 1 + j < 4 by omega) c' (show c' < LL (1 + j) by unfold LL; rw [if_neg (by omega)]; omega)
              rw [show 62 + j = 61 + (1 + j) by omega]
              exact this
        · rw [rR _ _ (by omega) (by omega) (by omega), rK _ _ (by omega) (by omega), rC _ _ (by omega) (by omega)]
        · rw [rR _ _ (by omega) (by omega) (by omega), rK _ _ (by omega) (by omega), rC _ _ (by omega) (by omega)]
        · exact r6 b (by omega) (by omega) (by omega) (by omega) (by omega)
      · obtain ⟨R, m', e1, fR, hE⟩ := mod C hSC (fun b => rC 256 b (by omega) (by omega))
        obtain ⟨ft, _⟩ := fM R m' hE
        exact fin R fR (by rw [ft.1, fS.1]) (by rw [ft.2.1, fS.2.1]) (by rw [fS.1]; exact nI_ne0 (by omega) (by have := fS.2.2; omega)) e1
  · have h4 : A.1 256 4 = nI n := by rw [rA 256 4 (by omega)]; exact t2
    have rP : ∀ a b, ¬ (a = 255 ∧ b = 2) → ¬ (a = 256 ∧ (b = 4 ∨ b = 5 ∨ b = 6)) → ¬ (a = 2 ∧ 1 ≤ b ∧ b ≤ 3) → (Mp A n).1 a b = M.1 a b := fun a b h1 h2 h3 => by rw [mp_rd A n a b h1 h2, rA a b h3]
    refine ⟨-2, A, Mp A n, by rw [e0, hv, bb_some, if_pos rfl], m_shp hSA, mp_no hSA h4 (c := c) (fun s hs => ⟨(h9 s hs).1, by rw [rA 256 s (by omega)]; exact (h9 s hs).2.2⟩) hno, ?_⟩
    refine inv_txt hI hSA (by rw [mp_rd A n _ _ (by omega) (by omega)]; exact A1) (w1 A n) (by rw [w2, mp_rd A n _ _ (by omega) (by omega)]; exact A2.symm) (by rw [w3, mp_rd A n _ _ (by omega) (by omega)]; exact A3.symm) (tb_no hTB (fun t ht => ?_) (fun a b ha ha' => ?_) (fun b hb => ?_)) (fun i => ?_) (fun a b hab => ?_) (fun b hb => ?_)
    · exact rP _ _ (by omega) (by omega) (by omega)
    · exact rP _ _ (by omega) (by omega) (by omega)
    · exact rP _ _ (by omega) (by omega) (by omega)
    · exact rP _ _ (by omega) (by omega) (by omega)
    · exact rP _ _ (by omega) (by omega) (by omega)
    · exact rP _ _ (by omega) (by omega) (by omega)
