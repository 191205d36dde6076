/-! a line, in the class -/
section
variable {M M' N : Mem} {k r v : Nat → Nat} {n p i w s c x : Nat} {F : Nat × Int32}
theorem c_store (h : CT M k n) (hs : s < 3) (hw : fw s ≤ w ∧ w < fw (s + 1)) (hS : CS M s r) (hv : ∀ q, q < nw w → M.1 66 q = nI (v q)) (hfree : cntw w r < cap w) : ∃ M', f_X7_store M 46 (nI s) (nI w) = some M' ∧ CS M' s (pst w v r) ∧ Fr S47 M M' := by
  have hr := r46 h
  have hk := h.1
  have hnw := nw_le w
  have hv0 := hv 0 (by omega)
  unfold f_X7_store
  rcases (show s = 0 ∨ s = 1 ∨ s = 2 by omega) with e | e | e
  · subst e
    have h9 : w < 9 := hw.2
    obtain ⟨hO, hc8, hc10⟩ := hS.1 rfl
    rw [if_neg (show ¬ nI 0 = 1 by decide), if_neg (show ¬ nI 0 = 2 by decide), ob_at (ct_shp h), bb_some]
    have fin : ∀ M' : Mem, OCs M' (pst w v r) → pst w v r 0 ≤ 8 → pst w v r 1 ≤ 10 → CS M' 0 (pst w v r) := fun M' g1 g2 g3 => ⟨fun _ => ⟨g1, g2, g3⟩, fun e => absurd e (by omega), fun e => absurd e (by omega)⟩
    unfold f_X7_storeOffice
    by_cases e5 : w = 5
    · subst e5
      have hf : r 1 < 10 := hfree
      obtain ⟨M', a1, a2, a3⟩ := sd_call hk hO hc8 hf (v := v) (fun q hq => hv q hq)
      rw [if_pos (show nI 5 = 5 from rfl), hr.1, bb_some, hr.2.2.2, bb_some, ob_at (sk_shp hk (by omega) rfl), bb_some, a1, bb_some, bb_some]
      exact ⟨M', rfl, fin M' a2 (by rw [pc_n (by omega) (by omega)]; exact hc8) (by rw [pc_x, if_pos rfl]; omega), a3⟩
    · rw [if_neg (show ¬ nI w = 5 from nI_nq (k := 5) (by omega) (by omega) e5)]
      by_cases e6 : 6 ≤ w
      · have hp := fin (wI M 47 (w - 4) (nI (v 0))) (sd_one hO ⟨e6, h9⟩) (by rw [po_x ⟨e6, h9⟩, if_neg (by omega)]; exact hc8) (by rw [po_x ⟨e6, h9⟩, if_neg (by omega)]; exact hc10)
        have hfr : Fr S47 M (wI M 47 (w - 4) (nI (v 0))) := fr_wI ⟨by omega, by omega⟩
        rcases (show w = 6 ∨ w = 7 ∨ w = 8 by omega) with e | e | e
        · subst e
          rw [if_pos (show nI 6 = 6 from rfl), hr.1, bb_some, hr.2.2.2, bb_some, oa0 hk, bb_some, hv0, oP hk, bb_some, bb_some]
          exact ⟨_, rfl, hp, hfr⟩
        · subst e
          rw [if_neg (show ¬ nI 7 = 6 by decide), if_pos (show nI 7 = 7 from rfl), hr.1, bb_some, hr.2.2.2, bb_some, oa0 hk, bb_some, hv0, oP hk, bb_some, bb_some]
          exact ⟨_, rfl, hp, hfr⟩
        · subst e
          rw [if_neg (show ¬ nI 8 = 6 by decide), if_neg (show ¬ nI 8 = 7 by decide), if_pos (show nI 8 = 8 from rfl), hr.1, bb_some, hr.2.2.2, bb_some, oa0 hk, bb_some, hv0, oP hk, bb_some, bb_some]
          exact ⟨_, rfl, hp, hfr⟩
      · have hw5 : w < 5 := by omega
        have h4 : nw w = 4 := if_pos hw5
        have hf : r 0 < 8 := by unfold cntw cap at hfree; rw [if_neg e5, if_pos hw5] at hfree; exact hfree
        obtain ⟨M', a1, a2, a3⟩ := sd_desk hk hO hf hc10 hw5 (v := v) (fun q hq => hv q (by omega))
        rw [if_neg (show ¬ nI w = 6 from nI_nq (k := 6) (by omega) (by omega) (by omega)), if_neg (show ¬ nI w = 7 from nI_nq (k := 7) (by omega) (by omega) (by omega)), if_neg (show ¬ nI w = 8 from nI_nq (k := 8) (by omega) (by omega) (by omega)), hr.1, bb_some, hr.2.2.2, bb_some, ob_at (sk_shp hk (by omega) rfl), bb_some, a1, bb_some, bb_some]
        exact ⟨M', rfl, fin M' a2 (by rw [pd_x hw5, if_pos rfl]; omega) (by rw [pd_n hw5 (by omega) (by omega)]; exact hc10), a3⟩
  · subst e
    have hw1 : 9 ≤ w ∧ w < 13 := hw
    obtain ⟨hO, hc⟩ := hS.2.1 rfl
    have hf : r 0 < 40 := by unfold cntw cap at hfree; rw [if_neg (by omega), if_neg (by omega), if_neg (by omega), if_neg (by omega), if_pos (by omega)] at hfree; exact hfree
    obtain ⟨M', a1, a2, a3⟩ := sd_day hk hO hf hw1 (v := v)
    have a9 : aI M 0 1001 1 = some (nI 9) := rfl
    rw [if_pos (show nI 1 = 1 from rfl), hr.2.1, bb_some, a9, bb_some, hr.2.2.2, bb_some, oa0 hk, bb_some, hv0, nI_sb hw1.1, ob_at (sk_shp hk (by omega) rfl), bb_some, a1, bb_some]
    exact ⟨M', rfl, ⟨fun e => absurd e (by omega), fun _ => ⟨a2, by rw [py_x hw1, if_pos rfl]; omega⟩, fun e => absurd e (by omega)⟩, a3⟩
  · subst e
    have hw2 : 13 ≤ w ∧ w < 15 := hw
    obtain ⟨hO, hc⟩ := hS.2.2 rfl
    have hf : r 0 < 8 := by unfold cntw cap at hfree; rw [if_neg (by omega), if_neg (by omega), if_neg (by omega), if_neg (by omega), if_neg (by omega)] at hfree; exact hfree
    have fin : ∀ M' : Mem, LCs M' (pst w v r) → CS M' 2 (pst w v r) := fun M' g => ⟨fun e => absurd e (by omega), fun e => absurd e (by omega), fun _ => ⟨g, by rw [pl_x hw2.1, if_pos rfl]; omega⟩⟩
    rw [if_neg (show ¬ nI 2 = 1 by decide), if_pos (show nI 2 = 2 from rfl)]
    rcases (show w = 13 ∨ w = 14 by omega) with e | e
    · subst e
      have hv1 := hv 1 (by decide)
      have hv2 := hv 2 (by decide)
      obtain ⟨M', a1, a2, a3⟩ := sd_log hk hO hf hw2.1 (v := v) (y := nI (v 1)) (z := nI (v 2)) rfl rfl
      rw [if_pos (show nI 13 = 13 from rfl)]
      unfold f_X7_store_J44 f_X7_store_J69 f_X7_store_J83
      rw [hr.2.2.1, bb_some, hr.2.2.2, bb_some, oa0 hk, bb_some, if_neg (by decide), bb_some, oa1 hk, bb_some, if_neg (by decide), bb_some, oa2 hk, bb_some, ob_at (sk_shp hk (by omega) rfl), bb_some, hv0, hv1, hv2, a1, bb_some]
      exact ⟨M', rfl, fin M' a2, a3⟩
    · subst e
      obtain ⟨M', a1, a2, a3⟩ := sd_log hk hO hf hw2.1 (v := v) (y := -1) (z := -1) rfl rfl
      rw [if_neg (show ¬ nI 14 = 13 by decide)]
      unfold f_X7_store_J44 f_X7_store_J69 f_X7_store_J83
      rw [hr.2.2.1, bb_some, hr.2.2.2, bb_some, oa0 hk, bb_some, if_pos rfl, if_pos rfl, ob_at (sk_shp hk (by omega) rfl), bb_some, hv0, a1, bb_some]
      exact ⟨M', rfl, fin M' a2, a3⟩
def LnG (k : Nat → Nat) (s i : Nat) : Prop := hd k s i ∧ nums k i (nw (tW k i)) ∧ tD k (i + 1 + nw (tW k i)) = 2
def LnB (k : Nat → Nat) (s i b : Nat) : Prop := (¬ hd k s i ∧ b = i) ∨ (hd k s i ∧ ∃ j, j < nw (tW k i) ∧ nums k i j ∧ tD k (i + 1 + j) ≠ 1 ∧ b = i + 1 + j) ∨ (hd k s i ∧ nums k i (nw (tW k i)) ∧ tD k (i + 1 + nw (tW k i)) ≠ 2 ∧ b = i + 1 + nw (tW k i))
/-- the fault after a line, and what is stored -/
def lF (k : Nat → Nat) (i : Nat) (F : Nat × Int32) (r : Nat → Nat) : Nat × Int32 := fl k i (tW k i) (if cap (tW k i) ≤ cntw (tW k i) r then mkF F 3 (nI (tA k i)) else F) (nw (tW k i))
def lR (k : Nat → Nat) (i : Nat) (F : Nat × Int32) (r : Nat → Nat) : Nat → Nat := if (lF k i F r).1 = 0 then pst (tW k i) (lv k i) r else r
def SC (a b : Nat) : Prop := SLn a b ∨ S47 a b
theorem ct_sc (h : CT M k n) (hF : Fr SC M M') : CT M' k n := by
  obtain ⟨h1, h2, h3, h4, h5, h6⟩ := h
  refine ⟨fr_sk hF h1, by rw [hF.1]; exact h2, ?_, h4, h5, fun i hi => ?_⟩
  · rw [hF.2 46 7 (by unfold SC SLn S47; omega)]; exact h3
  · rw [hF.2 3 i (by unfold SC SLn S47; omega)]; exact h6 i hi
theorem sc_sl (h : Fr SLn M M') : Fr SC M M' := fr_mono h (fun a b hh => Or.inl hh)
theorem fl_0 {w : Nat} : ∀ j, (fl k i w F j).1 = 0 → F.1 = 0 := by
  intro j
  induction j with
  | zero => exact id
  | succ j ih =>
    intro hh
    unfold fl at hh
    by_cases h1 : okb w (lv k i) j = true
    · rw [if_pos h1] at hh; exact ih hh
    · rw [if_neg h1] at hh
      unfold mkF at hh
      by_cases h2 : (fl k i w F j).1 = 0
      · exact ih h2
      · rw [if_neg h2] at hh; exact ih hh
theorem c_tail (h : CT M k n) (hs : s < 3) (hh : hd k s i) (h10 : M.1 46 10 = nI (tp k (i + 1))) (hF : FtS M F) (hS : CS M s r) (hfree : F.1 = 0 → cntw (tW k i) r < cap (tW k i)) : ∃ z M', ((f_X7_readLine_L44 M 46 (nI s) (nI (tW k i)) (0 : Int32)).bind fun r4 => match r4 with
      | .inl r4 => some ((0 : Int32), r4)
      | .inr r4 => (ob r4 7 46).bind fun _ => (f_X7_takeToken r4 46).bind fun z5 =>
        (gI z5 7 46 8).bind fun v6 =>
        (if v6 = (3 : Int32) then
          (gI z5 7 46 3).bind fun v8 =>
          (if v8 = 0 then
            (ob z5 7 46).bind fun _ => (f_X7_store z5 46 (nI s) (nI (tW k i))).bind fun z10 =>
            some ((1 : Int32), z10)
          else
            some ((1 : Int32), z5))
        else
          some ((0 : Int32), z5))) = some (z, M') ∧ Fr SC M M' ∧ ((z = 0 ∧ ∃ b, LnB k s i b ∧ M'.1 46 9 = nI (tA k b)) ∨ (z = 1 ∧ LnG k s i ∧ M'.1 46 10 = nI (tp k (i + 2 + nw (tW k i))) ∧ FtS M' (fl k i (tW k i) F (nw (tW k i))) ∧ CS M' s (if (fl k i (tW k i) F (nw (tW k i))).1 = 0 then pst (tW k i) (lv k i) r else r))) := by
  have hf := fw_le hs
  have hw15 : tW k i < 15 := by have := hh.2.2; omega
  obtain ⟨r1, e1, e2⟩ := c_nums (s := s) h hw15 h10 hF
  rw [e1, bb_some]
  rcases e2 with ⟨M1, j, a1, a2, a3, a4, a5, a6⟩ | ⟨M1, a1, a2⟩
  · subst a1
    exact ⟨0, M1, rfl, sc_sl a6, Or.inl ⟨rfl, i + 1 + j, Or.inr (Or.inl ⟨hh, j, a2, a3, a4, rfl⟩), a5⟩⟩
  · subst a1
    obtain ⟨l1, l2, l3, l4, l5⟩ := a2
    have hC1 := ct_sl h l1
    obtain ⟨M2, b1, f1, g9, g10, g0, g2, g3, g11, _⟩ := c_st hC1 l2
    have hC2 := ct_fr hC1 f1
    have fA : Fr SLn M M2 := fr_trans l1 (sl_46 f1)
    have hS2 : CS M2 s r := cs_cong (fun a b ha hb => fA.2 a b (by unfold SLn; omega)) hS
    have hF2 := fts_fr l4 f1
    show ∃ z M', ((ob M1 7 46).bind fun _ => _) = _ ∧ _
    rw [ob_at (ct_shp hC1), bb_some, b1, bb_some, gI_at (ct_shp hC2), bb_some]
    by_cases hd2 : tD k (i + 1 + nw (tW k i)) = 2
    · rw [if_pos (g3.mpr hd2), gI_at (ct_shp hC2), bb_some, hF2.1]
      have q10 : M2.1 46 10 = nI (tp k (i + 2 + nw (tW k i))) := by rw [g10]; congr 2; omega
      by_cases h0 : (fl k i (tW k i) F (nw (tW k i))).1 = 0
      · rw [if_pos (by rw [h0]; rfl), ob_at (ct_shp hC2), bb_some, if_pos h0]
        obtain ⟨M3, c1, c2, c3⟩ := c_store hC2 hs hh.2 hS2 (v := lv k i) (fun q hq => by rw [f1.2 66 q (by unfold S46; omega)]; exact l3 q hq) (hfree (fl_0 _ h0))
        rw [c1, bb_some]
        refine ⟨1, M3, rfl, fr_trans (sc_sl fA) (fr_mono c3 (fun a b hq => Or.inr hq)), Or.inr ⟨rfl, ⟨hh, l5, hd2⟩, ?_, ⟨?_, ?_, hF2.2.2⟩, c2⟩⟩
        · rw [c3.2 46 10 (by unfold S47; omega)]; exact q10
        · rw [c3.2 46 3 (by unfold S47; omega)]; exact hF2.1
        · rw [c3.2 46 4 (by unfold S47; omega)]; exact hF2.2.1
      · rw [if_neg (nI_ne0 (by omega) (by have := hF2.2.2; omega)), if_neg h0]
        exact ⟨1, M2, rfl, sc_sl fA, Or.inr ⟨rfl, ⟨hh, l5, hd2⟩, q10, hF2, hS2⟩⟩
    · rw [if_neg (fun hc => hd2 (g3.mp hc))]
      exact ⟨0, M2, rfl, sc_sl fA, Or.inl ⟨rfl, _, Or.inr (Or.inr ⟨hh, l5, hd2, rfl⟩), g9⟩⟩
theorem c_line (h : CT M k n) (hs : s < 3) (h9 : M.1 46 9 = nI (tA k i)) (h10 : M.1 46 10 = nI (tp k (i + 1))) (hF : FtS M F) (hS : CS M s r) (hJ1 : hd k s i → f_X7_readLine M 46 (nI s) = f_X7_readLine_J17 M 46 (nI s) (nI (tW k i))) (hJ2 : ¬ hd k s i → f_X7_readLine M 46 (nI s) = f_X7_readLine_J17 M 46 (nI s) (-1)) : ∃ z M', f_X7_readLine M 46 (nI s) = some (z, M') ∧ Fr SC M M' ∧ ((z = 0 ∧ ∃ b, LnB k s i b ∧ M'.1 46 9 = nI (tA k b)) ∨ (z = 1 ∧ LnG k s i ∧ M'.1 46 10 = nI (tp k (i + 2 + nw (tW k i))) ∧ FtS M' (lF k i F r) ∧ CS M' s (lR k i F r))) := by
  by_cases hh : hd k s i
  · rw [hJ1 hh]
    have hf := fw_le hs
    have hw15 : tW k i < 15 := by have := hh.2.2; omega
    unfold f_X7_readLine_J17
    rw [if_neg (nI_nm1 (by omega)), ob_at (ct_shp h), bb_some, c_full h hs hh.2 hS, bb_some]
    unfold lR lF
    by_cases hc : cap (tW k i) ≤ cntw (tW k i) r
    · obtain ⟨M1, m1, m2, m3⟩ := c_mark h hF (c := 3) (by omega) (nI (tA k i))
      have m1 : f_X7_mark M 46 3 (nI (tA k i)) = some M1 := m1
      have fA : Fr SLn M M1 := fr_mono m3 (fun a b hq => Or.inl ⟨hq.1, by have := hq.2; omega⟩)
      have hm : ¬ (mkF F 3 (nI (tA k i))).1 = 0 := by
        unfold mkF
        by_cases h0 : F.1 = 0
        · rw [if_pos h0]; show ¬ 3 = 0; omega
        · rw [if_neg h0]; exact h0
      rw [if_pos hc, if_pos hc, if_neg (by decide), gI_at (ct_shp h), bb_some, h9, m1, bb_some]
      obtain ⟨z, M2, t1, t2, t3⟩ := c_tail (ct_sl h fA) hs hh (by rw [m3.2 46 10 (by omega)]; exact h10) m2 (cs_cong (fun a b ha hb => fA.2 a b (by unfold SLn; omega)) hS) (fun h0 => absurd h0 hm)
      exact ⟨z, M2, t1, fr_trans (sc_sl fA) t2, t3⟩
    · rw [if_neg hc, if_neg hc, if_pos rfl]
      exact c_tail h hs hh h10 hF hS (fun _ => by omega)
  · rw [hJ2 hh]
    unfold f_X7_readLine_J17
    rw [if_pos rfl]
    exact ⟨0, M, rfl, fr_refl, Or.inl ⟨rfl, i, Or.inl ⟨hh, rfl⟩, h9⟩⟩
end
