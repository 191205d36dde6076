/-! rest, fewer -/
theorem mo_plays {M : Mem} {a : Nat → Nat} {d : Nat} (hM : MO M a) (hO : OkO a) (hd : d < a 0) : ∃ M', f_X12_plays M 255 (nI d) = some M' ∧ GM M' a d (cb (el a d) (a 0)) ∧ Qf M M' := by
  have h8 := hO.1.1
  have e7 := el_7 hO hd
  let A := wI M 255 31 0
  have fA : Fr (fun q k => (q = 255 ∧ k = 31) ∨ q = 263) M A := fr_wI (Or.inl ⟨rfl, rfl⟩)
  have mo : ∀ M', Fr (fun q k => (q = 255 ∧ k = 31) ∨ q = 263) M M' → MO M' a := fun M' h => mo_fr hM h (fun q k hh => by omega)
  obtain ⟨B, eB, ⟨hB1, hB2⟩, fB⟩ := iter_rel (f := fun t : Int32 × Mem => f_X12_plays_B7 t.2 255 (nI d) t.1) (a 0) (fun i t => t.1 = nI i ∧ (t.2.1 255 31 = nI (cb (el a d) i) ∧ ∀ j, j < cb (el a d) i → t.2.1 263 j = nI (qq a d j)) ∧ Fr (fun q k => (q = 255 ∧ k = 31) ∨ q = 263) M t.2) (fun R => (R.1 255 31 = nI (cb (el a d) (a 0)) ∧ ∀ j, j < cb (el a d) (a 0) → R.1 263 j = nI (qq a d j)) ∧ Fr (fun q k => (q = 255 ∧ k = 31) ∨ q = 263) M R) (fun i t hi ⟨hs1, ⟨hs2, hs4⟩, hs3⟩ => by
    obtain ⟨t1, t2⟩ := t
    have hq1 : t1 = nI i := hs1
    have hq2 : t2.1 255 31 = nI (cb (el a d) i) := hs2
    have hq4 : ∀ j, j < cb (el a d) i → t2.1 263 j = nI (qq a d j) := hs4
    have hq3 : Fr (fun q k => (q = 255 ∧ k = 31) ∨ q = 263) M t2 := hs3
    clear hs1 hs2 hs3 hs4
    subst hq1
    have hM2 := mo t2 hq3
    have hS2 := hM2.1
    have ci := cb_le (el a d) i
    have cst := cb_st (el a d) i
    have hki := (hO.2.1 i hi).1
    have e2 : nI (a (5 + 5 * i)) = 2 ↔ a (5 + 5 * i) = 2 := nI_eq (b := 2) (by omega) (by omega)
    refine Or.inl ?_
    show ∃ t' : Int32 × Mem, f_X12_plays_B7 t2 255 (nI d) (nI i) = some (.inl t') ∧ _
    unfold f_X12_plays_B7
    rw [mo_g12 hM2, bb_some, if_neg (nI_ge hi (by omega)), mo_ob hM2, bb_some, mo_hears hM2 hO hi hd, bb_some, nI_1]
    by_cases c1 : hr a i d = true
    · rw [if_pos c1, if_neg (by decide), bb_some, mo_of0 hM2 (by omega), bb_some]
      by_cases c2 : a (5 + 5 * i) = 2
      · rw [if_pos (e2.mpr c2)]
        have hn : el a d i = false := by unfold el; rw [c1, decide_eq_false (by omega)]; rfl
        rw [hn, if_neg (by decide)] at cst
        exact ⟨_, rfl, rfl, by rw [cst]; exact ⟨hq2, hq4⟩, hq3⟩
      · rw [if_neg (fun hh => c2 (e2.mp hh))]
        have hy : el a d i = true := by unfold el; rw [c1, decide_eq_true c2]; rfl
        rw [if_pos hy] at cst
        have qi := qq_sp hi hy
        rw [cst]
        generalize hn : cb (el a d) i = n at hq2 hq4 qi ci
        let E := wI t2 263 n (nI i)
        have hSE : Sk E := hS2
        have gE : gI E 12 255 31 = some (nI n) := by rw [gI_at (m_shp hSE), wI_rd, if_neg (by omega), hq2]
        refine ⟨(nI (i + 1), wI E 255 31 (nI (n + 1))), ?_, rfl, ⟨wI_same _ _ _ _, fun j hj => ?_⟩, fr_put (fr_put hq3 (Or.inr rfl)) (Or.inl ⟨rfl, rfl⟩)⟩
        · rw [m_r30 hS2, bb_some, gI_at (m_shp hS2), bb_some, hq2, sI_at (m_s263 hS2) (by omega) (by omega), nar0, bb_some]
          show ((gI E 12 255 31).bind fun v10 => (pI E 12 255 31 (v10 + 1)).bind fun M11 => some (Sum.inl (nI (i + 1), M11))) = _
          rw [gE, bb_some, nI_1, pI_at (m_shp hSE), bb_some]
        · show (wI (wI t2 263 n _) 255 31 _).1 263 j = _
          rw [wI_rd, if_neg (by omega), wI_rd]
          by_cases ej : j = n
          · subst ej; rw [if_pos ⟨rfl, rfl⟩, qi]
          · rw [if_neg (by omega)]; exact hq4 j (by omega)
    · rw [if_neg c1, if_pos rfl]
      have hn : el a d i = false := by unfold el; rw [show hr a i d = false by simpa using c1]; rfl
      rw [hn, if_neg (by decide)] at cst
      exact ⟨_, rfl, rfl, by rw [cst]; exact ⟨hq2, hq4⟩, hq3⟩) (fun t ⟨hs1, hs2, hs3⟩ => by
    obtain ⟨t1, t2⟩ := t
    have hq1 : t1 = nI (a 0) := hs1
    have hq3 : Fr (fun q k => (q = 255 ∧ k = 31) ∨ q = 263) M t2 := hs3
    subst hq1
    exact ⟨t2, by show f_X12_plays_B7 t2 255 (nI d) (nI (a 0)) = _; rw [f_X12_plays_B7, mo_g12 (mo t2 hq3), bb_some, if_pos (nI_le (Nat.le_refl _) (by omega))], hs2, hq3⟩) 1048576 0 (0, A) (by omega) ⟨rfl, ⟨wI_same _ _ _ _, fun j hj => absurd hj (by show ¬ j < 0; omega)⟩, fA⟩ (by omega)
  have eB : f_X12_plays_L7 A 255 (nI d) 0 = some B := eB
  refine ⟨B, ?_, ⟨mo B fB, ⟨hB1, Nat.le_refl _⟩, hB2⟩, fr_q fB (fun q k hh => by unfold zT; omega)⟩
  unfold f_X12_plays
  rw [pI_at (m_shp hM.1), bb_some]
  show ((f_X12_plays_L7 A 255 (nI d) 0).bind fun r2 => some r2) = _
  rw [eB, bb_some]
/-- who lifts first in any rest -/
def QI (R : Nat → Bool) (L : Nat → Option (Nat × Nat)) (i : Nat) (x : Int32) : Prop := (x = -1 ∧ ∀ y, y < i → R y = true → L y = none) ∨ ∃ m, x = nI m ∧ m ≤ 3 ∧ (∃ y j, y < i ∧ R y = true ∧ L y = some (j, m)) ∧ ∀ y j r, y < i → R y = true → L y = some (j, r) → m ≤ r
theorem mo_quick {M : Mem} {a : Nat → Nat} {d P : Nat} (h : GM M a d P) (hO : OkO a) (hd : d < a 0) {W : Nat} (hW : W ≤ 99) : ∃ v M', f_X12_quickOf M 255 (nI d) (nI W) = some (v, M') ∧ QI (Rr P (gq a d) (cq a d) (ww a W)) (fun y => wt (gq a d) (yd P y) P) (4 ^ P) v ∧ Fr SWt M M' := by
  have hP := gm_7 h hO hd
  have p4 := p4_7 hP
  generalize hR : Rr P (gq a d) (cq a d) (ww a W) = R
  obtain ⟨r, e, h1, h2⟩ := iter_rel (f := fun t : Int32 × Int32 × Mem => f_X12_quickOf_B5 t.2.2 255 (nI d) (nI W) t.1 t.2.1) (4 ^ P) (fun i t => QI R (fun y => wt (gq a d) (yd P y) P) i t.1 ∧ t.2.1 = nI i ∧ Fr SWt M t.2.2) (fun r => QI R (fun y => wt (gq a d) (yd P y) P) (4 ^ P) r.1 ∧ Fr SWt M r.2) (fun i t hi ⟨hs1, hs2, hs3⟩ => by
    obtain ⟨t1, t2, t3⟩ := t
    have hq1 : QI R (fun y => wt (gq a d) (yd P y) P) i t1 := hs1
    have hq2 : t2 = nI i := hs2
    have hq3 : Fr SWt M t3 := hs3
    clear hs1 hs2 hs3
    subst hq2
    have hG := gm_fr h hq3
    obtain ⟨D, eD, fD⟩ := mo_isRest hG hO hd (x := i) (by omega) hW
    rw [hR] at eD
    have hGD := gm_fr hG fD
    have fD' := fr_trans hq3 fD
    -- nothing new at i
    have same : (R i = true → wt (gq a d) (yd P i) P = none) → QI R (fun y => wt (gq a d) (yd P y) P) (i + 1) t1 := fun hh => by
      rcases hq1 with ⟨g1, g2⟩ | ⟨m, g1, g2, ⟨y, j, g3, g4, g5⟩, g6⟩
      · refine Or.inl ⟨g1, fun y hy hr => ?_⟩
        by_cases ey : y = i
        · rw [ey] at hr ⊢; exact hh hr
        · exact g2 y (by omega) hr
      · refine Or.inr ⟨m, g1, g2, ⟨y, j, by omega, g4, g5⟩, fun y' j' r' hy' hr' hl' => ?_⟩
        by_cases ey : y' = i
        · rw [ey] at hr' hl'
          have hl' : wt (gq a d) (yd P i) P = some (j', r') := hl'
          rw [hh hr'] at hl'; cases hl'
        · exact g6 y' j' r' (by omega) hr' hl'
    refine Or.inl ?_
    show ∃ t' : Int32 × Int32 × Mem, f_X12_quickOf_B5 t3 255 (nI d) (nI W) t1 (nI i) = some (.inl t') ∧ _
    unfold f_X12_quickOf_B5
    rw [gm_p hG, bb_some, sl_P hP, if_neg (nI_ge hi (by omega)), mo_ob hG.1, bb_some, eD, bb_some]
    by_cases c1 : R i = true
    · obtain ⟨E, eE, lE, fE⟩ := mo_waits hGD hO hd (x := i) (by omega)
      have hSE := (gm_fr hGD fE).1.1
      have fE' := fr_trans fD' fE
      rw [c1, if_neg (show ¬ bI true = 0 by decide)]
      show ∃ t' : Int32 × Int32 × Mem, ((ob D 12 255).bind fun _ => (f_X12_waits D 255 (nI d) (nI i)).bind fun z5 => _) = _ ∧ _
      rw [mo_ob hGD.1, bb_some, eE, bb_some, gI_at (m_shp hSE), bb_some]
      rcases wt_sp (gq a d) (yd P i) P with ⟨e, _⟩ | ⟨j, r, e, L⟩
      · rw [e] at lE
        rw [lE.1, if_pos rfl, nI_1]
        exact ⟨_, rfl, same (fun _ => e), rfl, fE'⟩
      · rw [e] at lE
        have lj := gm_l hG L.1
        have h8 := hO.1.1
        have r4 : r < 4 := by rw [← L.2.1]; exact yd_4 P i j
        unfold f_X12_quickOf_J60
        rw [lE.1, if_neg (nI_nm1 (by omega)), gI_at (m_shp hSE), bb_some, lE.2, bb_some, nI_1]
        have newQ : ∀ m, (∀ y' j' r', y' < i → R y' = true → wt (gq a d) (yd P y') P = some (j', r') → m ≤ r') → m = r → QI R (fun y => wt (gq a d) (yd P y) P) (i + 1) (nI m) := fun m hm he => by
          subst he
          refine Or.inr ⟨m, rfl, by omega, ⟨i, j, by omega, c1, e⟩, fun y' j' r' hy' hr' hl' => ?_⟩
          by_cases ey : y' = i
          · rw [ey] at hl'
            have hl' : wt (gq a d) (yd P i) P = some (j', r') := hl'
            rw [e] at hl'; cases hl'; exact Nat.le_refl _
          · exact hm y' j' r' (by omega) hr' hl'
        rcases hq1 with ⟨g1, g2⟩ | ⟨m, g1, g2, ⟨y, j2, g3, g4, g5⟩, g6⟩
        · rw [if_pos g1]
          exact ⟨_, rfl, newQ r (fun y' j' r' hy' hr' hl' => by
            have := g2 y' hy' hr'
            have this : wt (gq a d) (yd P y') P = none := this
            rw [this] at hl'; cases hl') rfl, rfl, fE'⟩
        · rw [g1, if_neg (nI_nm1 (by omega))]
          by_cases hle : m ≤ r
          · rw [if_pos (nI_le hle (by omega))]
            refine ⟨_, rfl, Or.inr ⟨m, rfl, g2, ⟨y, j2, by omega, g4, g5⟩, fun y' j' r' hy' hr' hl' => ?_⟩, rfl, fE'⟩
            by_cases ey : y' = i
            · rw [ey] at hl'
              have hl' : wt (gq a d) (yd P i) P = some (j', r') := hl'
              rw [e] at hl'; cases hl'; exact hle
            · exact g6 y' j' r' (by omega) hr' hl'
          · rw [if_neg (nI_ge (by omega) (by omega))]
            exact ⟨_, rfl, newQ r (fun y' j' r' hy' hr' hl' => by have := g6 y' j' r' hy' hr' hl'; omega) rfl, rfl, fE'⟩
    · rw [show R i = false by simpa using c1, if_pos (show bI false = 0 by decide), nI_1]
      exact ⟨_, rfl, same (fun hh => absurd hh c1), rfl, fD'⟩) (fun t ⟨hs1, hs2, hs3⟩ => by
    obtain ⟨t1, t2, t3⟩ := t
    have hq2 : t2 = nI (4 ^ P) := hs2
    have hq3 : Fr SWt M t3 := hs3
    subst hq2
    exact ⟨(t1, t3), by show f_X12_quickOf_B5 t3 255 (nI d) (nI W) t1 (nI (4 ^ P)) = _; rw [f_X12_quickOf_B5, gm_p (gm_fr h hq3), bb_some, sl_P hP, if_pos (nI_le (Nat.le_refl _) (by omega))], hs1, hq3⟩) 1048576 0 (-1, 0, M) (Nat.zero_le _) ⟨Or.inl ⟨rfl, fun y hy => absurd hy (by omega)⟩, rfl, fr_refl⟩ (by omega)
  have e : f_X12_quickOf_L5 M 255 (nI d) (nI W) (-1) 0 = some r := e
  exact ⟨r.1, r.2, by rw [f_X12_quickOf, e, bb_some], h1, h2⟩
theorem y_pow {P j k : Nat} (hj : j < P) (hk : k < P) : yd P (4 ^ (P - 1 - j)) k = if k = j then 1 else 0 := by
  unfold yd
  by_cases e : k = j
  · subst e
    rw [if_pos rfl, Nat.div_self (Nat.pow_pos (by omega))]
  · rw [if_neg e]
    rcases Nat.lt_or_ge k j with q | q
    · rw [Nat.div_eq_of_lt (Nat.pow_lt_pow_right (by omega) (by omega))]
    · rw [Nat.pow_div (by omega) (by omega)]
      obtain ⟨t, ht⟩ : ∃ t, P - 1 - j - (P - 1 - k) = t + 1 := ⟨P - 1 - j - (P - 1 - k) - 1, by omega⟩
      rw [ht, Nat.pow_succ, Nat.mul_mod_left]
theorem quick_v {P : Nat} {g c w : Nat → Nat} (hP : P ≤ 7) (hw : Wm w) {v : Int32} (h : QI (Rr P g c w) (fun y => wt g (yd P y) P) (4 ^ P) v) : v = if dc (∃ x, 8 ≤ x ∧ x < 32 ∧ vc P c w x = true) = true then 1 else -1 := by
  have y4 : ∀ y k, k < P → yd P y k < 4 := fun y k _ => yd_4 P y k
  by_cases hx : ∃ x, 8 ≤ x ∧ x < 32 ∧ vc P c w x = true
  · rw [dc_iff.mpr hx, if_pos rfl]
    obtain ⟨x, x1, x2, x3⟩ := hx
    obtain ⟨hj, hf⟩ : x % 8 < P ∧ FamC c w (x % 8) (x / 8) := by
      rcases dc_iff.mp x3 with ⟨q, _⟩ | ⟨_, _, q1, q2⟩
      · omega
      · exact ⟨q1, q2⟩
    have yj : ∀ k, k < P → yd P (4 ^ (P - 1 - x % 8)) k = if k = x % 8 then 1 else 0 := fun k hk => y_pow hj hk
    have F : Fam P g c w (x % 8) 1 (yd P (4 ^ (P - 1 - x % 8))) := ⟨by rw [yj _ hj, if_pos rfl], fun k hk hkj => Or.inl (by rw [yj k hk, if_neg hkj])⟩
    have fc : FamC c w (x % 8) 1 := ⟨rfl, by have := hf.1; have := hf.2; omega⟩
    have r1 : Rr P g c w (4 ^ (P - 1 - x % 8)) = true := dc_iff.mpr (rest_of (y4 _) hw (Or.inr ⟨x % 8, 1, hj, by omega, by omega, fc, F⟩))
    have l1 : wt g (yd P (4 ^ (P - 1 - x % 8))) P = some (x % 8, 1) := wt_of (fam_lf hj (by omega) F)
    have lt : 4 ^ (P - 1 - x % 8) < 4 ^ P := Nat.pow_lt_pow_right (by omega) (by omega)
    rcases h with ⟨_, g2⟩ | ⟨m, g1, _, ⟨y, j, g3, g4, g5⟩, g6⟩
    · have := g2 _ lt r1
      have this : wt g (yd P (4 ^ (P - 1 - x % 8))) P = none := this
      rw [l1] at this; cases this
    · have m1 := g6 _ _ _ lt r1 l1
      have g5 : wt g (yd P y) P = some (j, m) := g5
      have m0 : m ≠ 0 := by
        rcases wt_sp g (yd P y) P with ⟨e, _⟩ | ⟨j', r', e, L⟩
        · rw [e] at g5; cases g5
        · rw [e] at g5; cases g5; exact L.2.2.1
      rw [g1, show m = 1 by omega]; rfl
  · rw [dc_f hx, if_neg (by decide)]
    rcases h with ⟨g1, _⟩ | ⟨m, _, _, ⟨y, j, g3, g4, g5⟩, _⟩
    · exact g1
    · exfalso
      have g5 : wt g (yd P y) P = some (j, m) := g5
      rcases rest_to (y4 y) hw (dc_iff.mp g4) with ⟨_, z⟩ | ⟨j', r', hj', r1, r3, f, F⟩
      · rcases wt_sp g (yd P y) P with ⟨e, _⟩ | ⟨j2, r2, e, L⟩
        · rw [e] at g5; cases g5
        · have := z j2 L.1; have := L.2.1; have := L.2.2.1; omega
      · exact hx ⟨8 * r' + j', by omega, by omega, (vc_e hj' hP r1 r3).mpr f⟩
theorem rc_all {P : Nat} {g c w : Nat → Nat} : cb (Rr P g c w) (4 ^ P) = RCt P g c w P 0 := by
  have := rc_cb (Rr P g c w) P 0
  rw [Nat.zero_mul, Nat.zero_add, Nat.one_mul] at this
  have this : cb (Rr P g c w) (4 ^ P) = 0 + RCt P g c w P 0 := this
  omega
/-- desk and worth, as both take them -/
theorem call_rest {M : Mem} (hI : Inv M) (a1 a2 a3 a4 : Int32)  : ∃ (r : Int32) (M1 M2 : Mem), f_X11_rest M 1 a1 a2 a3 a4 = some (r, M1) ∧ shp M1 255 = some (.inl 12) ∧ f_X12_rest M1 255 a1 a2 a3 a4 = some (r, M2) ∧ Inv M2 := by
  have hS := hI.1
  exact qm hI a1 (fC := f_X11_rest M 1 a1 a2 a3 a4) (fM := fun M => f_X12_rest M 255 a1 a2 a3 a4) (bad := -1) (fun e1 e2 => ⟨by simp [f_X11_rest, d_r0 hS, t_ob hS, e1], by simp [f_X12_rest, ob_at (m_shp hS), e2]⟩) (fun o a ho hO e1 hC => by
    have h8 := hO.1.1
    rcases io_cases a2 (n := a 0) (by omega) with hx | ⟨d, hd, rfl⟩
    · exact ⟨-1, M, by simp [f_X11_rest, d_r0 hS, t_ob hS, e1, ho, ob_at (co_shp hC), c_noDesk hC hx], qf_refl, fun M2 e3 hM hq => ⟨M2, by simp [f_X12_rest, ob_at (m_shp hS), e3, mo_ob hM, mo_noDesk hM hO hx], qf_refl⟩⟩
    rcases io_cases a3 (n := 100) (by omega) with hx | ⟨W, hW, rfl⟩
    · refine ⟨-1, M, ?_, qf_refl, fun M2 e3 hM hq => ⟨M2, ?_, qf_refl⟩⟩
      · unfold f_X11_rest
        rw [d_r0 hS, bb_some, t_ob hS, bb_some, e1, bb_some, if_neg ho, ob_at (co_shp hC), bb_some, c_hasDesk hC hO hd, bb_some, if_neg (by decide)]
        by_cases hn : a3 < 0
        · rw [if_pos hn]
        · rw [if_neg hn, if_neg (by
            have h4 : (100 : Int32) ≤ a3 := hx.resolve_left hn
            have e6 : (100 : Int32).toInt = 100 := rfl
            have e5 : (99 : Int32).toInt = 99 := rfl
            rw [Int32.le_iff_toInt_le] at h4 ⊢; omega)]
      · have i1 : f_X12_isIn M2 a3 0 99 = some 0 := ii_o M2 (n := 100) (by decide) hx (by omega)
        simp [f_X12_rest, ob_at (m_shp hS), e3, mo_ob hM, mo_isDesk hM hO hd, i1]
    have i1 : ∀ N, f_X12_isIn N (nI W) 0 99 = some 1 := fun N => ii_i N (n := 100) (by decide) hW (by omega)
    have e7 := el_7 hO hd
    obtain ⟨M1, eM, hCG, h6, fM⟩ := c_gbeg hC hO hd (show W ≤ 99 by omega) (show 8 ≤ 8 by omega)
    have eM : f_X10_begin M 87 o (nI d) (nI W) 8 = some M1 := eM
    rw [show min (cb (el a d) (a 0)) 8 = cb (el a d) (a 0) by omega] at hCG h6
    generalize hPe : cb (el a d) (a 0) = P at e7 hCG h6
    have hS1 := fr_sk fM hS
    have wm := ww_m a W
    have cs : f_X11_rest M 1 a1 (nI d) (nI W) a4 = (if a4 = (-1 : Int32) then (f_X10_howMany M1 87).bind fun v12 => some (v12, M1) else (if a4 = (-2 : Int32) then (f_X10_quickest M1 87).bind fun v15 => some (v15, M1) else (f_X10_restAt M1 87 a4).bind fun v17 => some (v17, M1))) := by
      unfold f_X11_rest
      rw [d_r0 hS, bb_some, t_ob hS, bb_some, e1, bb_some, if_neg ho, ob_at (co_shp hC), bb_some, c_hasDesk hC hO hd, bb_some, if_neg (by decide), if_neg (nI_pos (by omega)), if_pos (show nI W ≤ 99 from nI_le (b := 99) (by omega) (by omega)), d_r7 hS, bb_some, w_ob hS, bb_some, eM, bb_some]
      simp only [d_r7 hS1, bb_some, w_ob hS1]
    have ms : ∀ M2, f_X12_isOffice M1 255 a1 = some (1, M2) → MO M2 a → f_X12_rest M1 255 a1 (nI d) (nI W) a4 = (if (-2 : Int32) ≤ a4 then (f_X12_plays M2 255 (nI d)).bind fun z8 => (if a4 = (-2 : Int32) then (ob z8 12 255).bind fun _ => (f_X12_quickOf z8 255 (nI d) (nI W)).bind fun z10 => some (z10.1, z10.2) else ((f_X12_rest_L60 z8 255 (nI d) (nI W) a4 (0 : Int32) (0 : Int32)).bind fun r11 => match r11 with | .inl r11 => some (r11.1, r11.2) | .inr r11 => (if a4 = (-1 : Int32) then some (r11.1, r11.2) else some ((-1 : Int32), r11.2)))) else some ((-1 : Int32), M2)) := fun M2 e3 hM => by
      unfold f_X12_rest
      rw [ob_at (m_shp hS1), bb_some, e3, bb_some]
      show (if (1 : Int32) = 0 then _ else (ob M2 12 255).bind fun _ => (f_X12_isDesk M2 255 (nI d)).bind fun v3 => _) = _
      rw [if_neg (by decide), mo_ob hM, bb_some, mo_isDesk hM hO hd, bb_some, if_neg (by decide)]
      show ((f_X12_isIn M2 (nI W) 0 99).bind fun v5 => _) = _
      rw [i1, bb_some, if_neg (by decide)]
      rfl
    have c_q : f_X10_quickest M1 87 = some (if dc (∃ x, 8 ≤ x ∧ x < 32 ∧ vc P (cq a d) (ww a W) x = true) = true then 1 else -1) := by
      rw [f_X10_quickest, gI_at (w_sh hS1).1, bb_some, h6]
      cases dc (∃ x, 8 ≤ x ∧ x < 32 ∧ vc P (cq a d) (ww a W) x = true) <;> rfl
    have rc7 := rc_7 (P := P) (g := gq a d) (c := cq a d) (w := ww a W) (v := 0) e7
    have mp : ∀ M2, MO M2 a → ∃ D, f_X12_plays M2 255 (nI d) = some D ∧ GM D a d P ∧ Qf M2 D := fun M2 hM => by
      obtain ⟨D, eD, hD, qD⟩ := mo_plays hM hO hd
      rw [hPe] at hD
      exact ⟨D, eD, hD, qD⟩
    by_cases k1 : a4 = -1
    · subst k1
      refine ⟨nI (RCt P (gq a d) (cq a d) (ww a W) P 0), M1, by rw [cs, if_pos rfl, c_many hCG e7 wm, bb_some], s87_q fM, fun M2 e3 hM hq => ?_⟩
      obtain ⟨D, eD, hD, qD⟩ := mp M2 hM
      obtain ⟨r, E, eE, hE, fE⟩ := mo_restL hD hO hd (show W ≤ 99 by omega) (x4 := -1) (fun _ => False) (fun n hn => ⟨fun hh => nI_nm1 hn hh, fun hh => False.elim hh⟩)
      refine ⟨E, ?_, qf_trans qD (swt_q fE)⟩
      show f_X12_rest M1 255 a1 (nI d) (nI W) (-1) = _
      rw [ms M2 e3 hM, if_pos (by decide), eD, bb_some, if_neg (by decide), eE, bb_some]
      rcases hE with ⟨rfl, _⟩ | ⟨x, _, _, q, _⟩
      · rw [← rc_all]
        rfl
      · exact False.elim q
    by_cases k2 : a4 = -2
    · subst k2
      refine ⟨_, M1, by rw [cs, if_neg (by decide), if_pos rfl, c_q, bb_some], s87_q fM, fun M2 e3 hM hq => ?_⟩
      obtain ⟨D, eD, hD, qD⟩ := mp M2 hM
      obtain ⟨v, E, eE, hE, fE⟩ := mo_quick hD hO hd (show W ≤ 99 by omega)
      refine ⟨E, ?_, qf_trans qD (swt_q fE)⟩
      show f_X12_rest M1 255 a1 (nI d) (nI W) (-2) = _
      rw [ms M2 e3 hM, if_pos (by decide), eD, bb_some, if_pos rfl, mo_ob hD.1, bb_some, eE, bb_some, ← quick_v e7 wm hE]
    by_cases hneg : a4 < 0
    · have l2 : ¬ (-2 : Int32) ≤ a4 := by
        rw [Int32.le_iff_toInt_le]
        rw [Int32.lt_iff_toInt_lt] at hneg
        have e0 : (0 : Int32).toInt = 0 := rfl
        have e1 : (-1 : Int32).toInt = -1 := rfl
        have e2 : (-2 : Int32).toInt = -2 := rfl
        have n1 : a4.toInt ≠ -1 := fun hh => k1 (Int32.toInt_inj.mp (by rw [hh, e1]))
        have n2 : a4.toInt ≠ -2 := fun hh => k2 (Int32.toInt_inj.mp (by rw [hh, e2]))
        omega
      refine ⟨-1, M1, by rw [cs, if_neg k1, if_neg k2, f_X10_restAt, if_pos hneg, bb_some], s87_q fM, fun M2 e3 hM hq => ⟨M2, ?_, qf_refl⟩⟩
      show f_X12_rest M1 255 a1 (nI d) (nI W) a4 = _
      rw [ms M2 e3 hM, if_neg l2]
    obtain ⟨k, hk31, rfl⟩ := nI_of hneg
    have l2 : (-2 : Int32) ≤ nI k := by
      rw [Int32.le_iff_toInt_le, nI_toInt hk31]
      have e2 : (-2 : Int32).toInt = -2 := rfl
      omega
    have mm : ∀ M2, f_X12_isOffice M1 255 a1 = some (1, M2) → MO M2 a → ∃ E, Qf M2 E ∧ ((f_X12_rest M1 255 a1 (nI d) (nI W) (nI k) = some (-1, E) ∧ ∀ x, x < 4 ^ P → Rr P (gq a d) (cq a d) (ww a W) x = true → ¬ cb (Rr P (gq a d) (cq a d) (ww a W)) x = k) ∨ ∃ x, x < 4 ^ P ∧ Rr P (gq a d) (cq a d) (ww a W) x = true ∧ cb (Rr P (gq a d) (cq a d) (ww a W)) x = k ∧ f_X12_rest M1 255 a1 (nI d) (nI W) (nI k) = some (nI x, E)) := fun M2 e3 hM => by
      obtain ⟨D, eD, hD, qD⟩ := mp M2 hM
      obtain ⟨r, E, eE, hE, fE⟩ := mo_restL hD hO hd (show W ≤ 99 by omega) (x4 := nI k) (fun n => n = k) (fun n hn => nI_eq hn hk31)
      refine ⟨E, qf_trans qD (swt_q fE), ?_⟩
      rcases hE with ⟨rfl, q⟩ | ⟨x, q1, q2, q3, rfl⟩
      · refine Or.inl ⟨?_, q⟩
        rw [ms M2 e3 hM, if_pos l2, eD, bb_some, if_neg k2, eE, bb_some]
        exact if_neg k1
      · refine Or.inr ⟨x, q1, q2, q3, ?_⟩
        rw [ms M2 e3 hM, if_pos l2, eD, bb_some, if_neg k2, eE, bb_some]
    by_cases hk : k < RCt P (gq a d) (cq a d) (ww a W) P 0
    · obtain ⟨x, ex, x1, x2, x3⟩ := c_restAt hCG e7 wm hk
      refine ⟨nI x, M1, by rw [cs, if_neg k1, if_neg k2, ex, bb_some], s87_q fM, fun M2 e3 hM hq => ?_⟩
      obtain ⟨E, qE, hE⟩ := mm M2 e3 hM
      refine ⟨E, ?_, qE⟩
      show f_X12_rest M1 255 a1 (nI d) (nI W) (nI k) = _
      rcases hE with ⟨_, q⟩ | ⟨y, y1, y2, y3, q⟩
      · exact absurd x3 (q x x1 x2)
      · rw [q, cb_inj _ x2 y2 (by rw [x3, y3])]
    · refine ⟨-1, M1, ?_, s87_q fM, fun M2 e3 hM hq => ?_⟩
      · rw [cs, if_neg k1, if_neg k2, f_X10_restAt, if_neg (nI_pos hk31), w_ob hS1, bb_some, c_many hCG e7 wm, bb_some, if_neg (nI_nlt (by omega) hk31), bb_some]
      · obtain ⟨E, qE, hE⟩ := mm M2 e3 hM
        refine ⟨E, ?_, qE⟩
        show f_X12_rest M1 255 a1 (nI d) (nI W) (nI k) = _
        rcases hE with ⟨q, _⟩ | ⟨y, y1, y2, y3, _⟩
        · exact q
        · exfalso
          have h1 := cb_mo (Rr P (gq a d) (cq a d) (ww a W)) (show y + 1 ≤ 4 ^ P by omega)
          rw [cb_st, if_pos y2, rc_all] at h1
          omega)
theorem call_fewer {M : Mem} (hI : Inv M) (a1 a2 a3 a4 : Int32)  : ∃ (r : Int32) (M1 M2 : Mem), f_X11_fewer M 1 a1 a2 a3 a4 = some (r, M1) ∧ shp M1 255 = some (.inl 12) ∧ f_X12_fewer M1 255 a1 a2 a3 a4 = some (r, M2) ∧ Inv M2 := by
  have hS := hI.1
  exact qm hI a1 (fC := f_X11_fewer M 1 a1 a2 a3 a4) (fM := fun M => f_X12_fewer M 255 a1 a2 a3 a4) (bad := -1) (fun e1 e2 => ⟨by simp [f_X11_fewer, d_r0 hS, t_ob hS, e1], by simp [f_X12_fewer, ob_at (m_shp hS), e2]⟩) (fun o a ho hO e1 hC => by
    have h8 := hO.1.1
    rcases io_cases a2 (n := a 0) (by omega) with hx | ⟨d, hd, rfl⟩
    · exact ⟨-1, M, by simp [f_X11_fewer, d_r0 hS, t_ob hS, e1, ho, ob_at (co_shp hC), c_noDesk hC hx], qf_refl, fun M2 e3 hM hq => ⟨M2, by simp [f_X12_fewer, ob_at (m_shp hS), e3, mo_ob hM, mo_noDesk hM hO hx], qf_refl⟩⟩
    rcases io_cases a3 (n := 100) (by omega) with hx | ⟨W, hW, rfl⟩
    · refine ⟨-1, M, ?_, qf_refl, fun M2 e3 hM hq => ⟨M2, ?_, qf_refl⟩⟩
      · unfold f_X11_fewer
        rw [d_r0 hS, bb_some, t_ob hS, bb_some, e1, bb_some, if_neg ho, ob_at (co_shp hC), bb_some, c_hasDesk hC hO hd, bb_some, if_neg (by decide)]
        by_cases hn : a3 < 0
        · rw [if_pos hn]
        · rw [if_neg hn, if_pos (by
            have h4 : (100 : Int32) ≤ a3 := hx.resolve_left hn
            have e6 : (100 : Int32).toInt = 100 := rfl
            have e5 : (99 : Int32).toInt = 99 := rfl
            rw [Int32.le_iff_toInt_le] at h4; rw [Int32.lt_iff_toInt_lt]; omega)]
      · have i1 : f_X12_isIn M2 a3 0 99 = some 0 := ii_o M2 (n := 100) (by decide) hx (by omega)
        simp [f_X12_fewer, ob_at (m_shp hS), e3, mo_ob hM, mo_isDesk hM hO hd, i1]
    have i1 : ∀ N, f_X12_isIn N (nI W) 0 99 = some 1 := fun N => ii_i N (n := 100) (by decide) hW (by omega)
    have cs : f_X11_fewer M 1 a1 (nI d) (nI W) a4 = (if a4 < 0 then some ((-1 : Int32), M) else (if a4 ≤ (8 : Int32) then (f_X10_begin M 87 o (nI d) (nI W) a4).bind fun z11 => (gR z11 11 1 7).bind fun v12 => (ob z11 10 v12).bind fun _ => (f_X10_quickest z11 v12).bind fun v13 => some (v13, z11) else some ((-1 : Int32), M))) := by
      unfold f_X11_fewer
      rw [d_r0 hS, bb_some, t_ob hS, bb_some, e1, bb_some, if_neg ho, ob_at (co_shp hC), bb_some, c_hasDesk hC hO hd, bb_some, if_neg (by decide), if_neg (nI_pos (by omega)), if_neg (show ¬ 99 < nI W from nI_nlt (a := 99) (by omega) (by omega)), d_r7 hS, bb_some, w_ob hS, bb_some]
    have ms : ∀ M1 M2, f_X12_isOffice M1 255 a1 = some (1, M2) → Sk M1 → MO M2 a → f_X12_fewer M1 255 a1 (nI d) (nI W) a4 = ((f_X12_isIn M2 a4 (0 : Int32) (8 : Int32)).bind fun v7 => (if v7 = 0 then some ((-1 : Int32), M2) else (f_X12_plays M2 255 (nI d)).bind fun z9 => (gI z9 12 255 31).bind fun v10 => (if v10 ≤ a4 then (gI z9 12 255 31).bind fun v12 => f_X12_fewer_J63 z9 255 (nI d) (nI W) 255 v12 else f_X12_fewer_J63 z9 255 (nI d) (nI W) 255 a4))) := fun M1 M2 e3 hS1 hM => by
      unfold f_X12_fewer
      rw [ob_at (m_shp hS1), bb_some, e3, bb_some]
      show (if (1 : Int32) = 0 then _ else (ob M2 12 255).bind fun _ => (f_X12_isDesk M2 255 (nI d)).bind fun v3 => _) = _
      rw [if_neg (by decide), mo_ob hM, bb_some, mo_isDesk hM hO hd, bb_some, if_neg (by decide)]
      show ((f_X12_isIn M2 (nI W) 0 99).bind fun v5 => _) = _
      rw [i1, bb_some, if_neg (by decide)]
      rfl
    rcases io_cases a4 (n := 9) (by omega) with hx | ⟨K, hK, rfl⟩
    · refine ⟨-1, M, ?_, qf_refl, fun M2 e3 hM hq => ⟨M2, ?_, qf_refl⟩⟩
      · rw [cs]
        by_cases hn : a4 < 0
        · rw [if_pos hn]
        · rw [if_neg hn, if_neg (by
            have h4 : (9 : Int32) ≤ a4 := hx.resolve_left hn
            have e6 : (9 : Int32).toInt = 9 := rfl
            have e5 : (8 : Int32).toInt = 8 := rfl
            rw [Int32.le_iff_toInt_le] at h4 ⊢; omega)]
      · show f_X12_fewer M 255 a1 (nI d) (nI W) a4 = _
        rw [ms M M2 e3 hS hM, ii_o M2 (n := 9) (by decide) hx (by omega), bb_some, if_pos rfl]
    have e7 := el_7 hO hd
    obtain ⟨M1, eM, hCG, h6, fM⟩ := c_gbeg hC hO hd (show W ≤ 99 by omega) (show K ≤ 8 by omega)
    have hS1 := fr_sk fM hS
    have wm := ww_m a W
    generalize hPe : min (cb (el a d) (a 0)) K = P at hCG h6
    have c_q : f_X10_quickest M1 87 = some (if dc (∃ x, 8 ≤ x ∧ x < 32 ∧ vc P (cq a d) (ww a W) x = true) = true then 1 else -1) := by
      rw [f_X10_quickest, gI_at (w_sh hS1).1, bb_some, h6]
      cases dc (∃ x, 8 ≤ x ∧ x < 32 ∧ vc P (cq a d) (ww a W) x = true) <;> rfl
    refine ⟨_, M1, by rw [cs, if_neg (nI_pos (by omega)), if_pos (show nI K ≤ 8 from nI_le (b := 8) (by omega) (by omega)), eM, bb_some, d_r7 hS1, bb_some, w_ob hS1, bb_some, c_q, bb_some], s87_q fM, fun M2 e3 hM hq => ?_⟩
    obtain ⟨D, eD, hD, qD⟩ := mo_plays hM hO hd
    have hSD := hD.1.1
    have fE : Fr (fun q k => q = 255 ∧ k = 31) D (wI D 255 31 (nI P)) := fr_wI ⟨rfl, rfl⟩
    have hG : GM (wI D 255 31 (nI P)) a d P := ⟨mo_fr hD.1 fE (fun q k hh => by omega), ⟨wI_same _ _ _ _, by omega⟩, fun k hk => by rw [wI_rd, if_neg (by omega)]; exact hD.2.2 k (by omega)⟩
    obtain ⟨v, E, eE, hE, fE2⟩ := mo_quick hG hO hd (show W ≤ 99 by omega)
    have J : f_X12_fewer_J63 D 255 (nI d) (nI W) 255 (nI P) = some (v, E) := by
      unfold f_X12_fewer_J63
      rw [pI_at (m_shp hSD), bb_some, mo_ob hG.1, bb_some, eE, bb_some]
    refine ⟨E, ?_, qf_trans qD (qf_trans (fr_q fE (fun q k hh => by unfold zT; omega)) (swt_q fE2))⟩
    show f_X12_fewer M1 255 a1 (nI d) (nI W) (nI K) = _
    rw [ms M1 M2 e3 hS1 hM, ii_i M2 (n := 9) (by decide) hK (by omega), bb_some, if_neg (by decide), eD, bb_some, gm_p hD, bb_some, bb_some, ← quick_v (by omega) wm hE, ← J]
    by_cases hc : cb (el a d) (a 0) ≤ K
    · rw [if_pos (nI_le hc (by omega)), show cb (el a d) (a 0) = P by omega]
    · rw [if_neg (nI_ge (by omega) (by omega)), show K = P by omega])
