/-! the button: class, model, the call -/
theorem b_sh {M : Mem} (hS : Sk M) : shp M 85 = some (.inr (0, 8)) := sk_shp hS (by omega) rfl
theorem b_r2 {M : Mem} (hS : Sk M) : gR M 0 84 2 = some 85 := by rw [gR_at (c_shp84 hS), hS.2 (84, 2, 85) (by decide)]
def S85 : Nat → Nat → Prop := fun q _ => q = 85
def PI (a : Nat → Nat) (s : Nat) (su : Bool) (i : Nat) (x : Int32) : Prop := (x = -1 ∧ ∀ y, y < i → s.testBit y = false) ∨ ∃ d, x = nI d ∧ d < i ∧ s.testBit d = true ∧ (su = true → ∀ y, y < d → s.testBit y = false) ∧ (su = false → (∀ y, y < i → s.testBit y = true → pr a y ≤ pr a d) ∧ ∀ y, y < d → s.testBit y = true → pr a y < pr a d)
theorem c_pick {M : Mem} {o s L : Nat} {su : Bool} {a : Nat → Nat} (hC : CO M o a) (hO : OkO a) (hs : s < 2 ^ a 0) (hpos : 0 < pc s) (hL : L < 2 ^ a 0) (hb : ∀ y, y < a 0 → L.testBit y = !(s.testBit y)) (x4 : Int32) : ∃ d, f_X0_layRow_L22 M 84 o (nI L) (bI su) x4 (-1) 0 = some (nI d) ∧ PK a s su d := by
  have h8 := hO.1.1
  have p8 := pw8 h8
  obtain ⟨r, e, hr⟩ := iter_rel (f := fun t : Int32 × Int32 => f_X0_layRow_B22 M 84 o (nI L) (bI su) x4 t.1 t.2) (a 0) (fun i t => PI a s su i t.1 ∧ t.2 = nI i) (fun r => PI a s su (a 0) r) (fun i t hi ⟨hs1, hs2⟩ => by
    obtain ⟨t1, t2⟩ := t
    have hq1 : PI a s su i t1 := hs1
    have hq2 : t2 = nI i := hs2
    clear hs1 hs2
    subst hq2
    have b0 := bit_0 (m := L) (s := i) (by omega) (by omega)
    rw [hb i hi] at b0
    have hpi : pr a i ≤ 10 := (hO.2.1 i hi).2.2.2.2
    refine Or.inl ?_
    show ∃ t' : Int32 × Int32, f_X0_layRow_B22 M 84 o (nI L) (bI su) x4 t1 (nI i) = some (.inl t') ∧ _
    unfold f_X0_layRow_B22 f_X0_layRow_J45
    rw [co_g0 hC, bb_some, if_neg (nI_ge hi (by omega)), nI_1]
    by_cases hf : s.testBit i = true
    · rw [if_pos (b0.mpr (by rw [hf]; rfl)), if_neg (by decide)]
      rcases hq1 with ⟨g1, g2⟩ | ⟨d, g1, g2, g3, g4, g5⟩
      · rw [if_pos g1]
        refine ⟨_, rfl, Or.inr ⟨i, rfl, by omega, hf, fun _ y hy => g2 y hy, fun _ => ⟨fun y hy hby => ?_, fun y hy hby => ?_⟩⟩, rfl⟩
        · by_cases ey : y = i
          · rw [ey]; exact Nat.le_refl _
          · rw [g2 y (by omega)] at hby; cases hby
        · rw [g2 y hy] at hby; cases hby
      · have hpd : pr a d ≤ 10 := (hO.2.1 d (by omega)).2.2.2.2
        rw [g1, if_neg (nI_nm1 (by omega)), co_r9 hC, bb_some, co_pres hC hO hi, bb_some, bb_some, co_pres hC hO (show d < a 0 by omega), bb_some]
        cases su with
        | true =>
          rw [if_neg (show ¬ bI true = 0 by decide)]
          exact ⟨_, rfl, Or.inr ⟨d, rfl, by omega, g3, g4, fun h => by cases h⟩, rfl⟩
        | false =>
          obtain ⟨k1, k2⟩ := g5 rfl
          rw [if_pos (show bI false = 0 by decide)]
          show ∃ t' : Int32 × Int32, (if nI (pr a i) ≤ nI (pr a d) then _ else _) = _ ∧ _
          by_cases hc : pr a i ≤ pr a d
          · rw [if_pos (nI_le hc (by omega))]
            refine ⟨_, rfl, Or.inr ⟨d, rfl, by omega, g3, g4, fun _ => ⟨fun y hy hby => ?_, k2⟩⟩, rfl⟩
            by_cases ey : y = i
            · rw [ey]; exact hc
            · exact k1 y (by omega) hby
          · rw [if_neg (nI_ge (by omega) (by omega))]
            refine ⟨_, rfl, Or.inr ⟨i, rfl, by omega, hf, fun h => (by cases h), fun _ => ⟨fun y hy hby => ?_, fun y hy hby => ?_⟩⟩, rfl⟩
            · by_cases ey : y = i
              · rw [ey]; exact Nat.le_refl _
              · have := k1 y (by omega) hby; omega
            · have := k1 y hy hby; omega
    · have hf' : s.testBit i = false := by simpa using hf
      rw [if_neg (fun hh => by have := b0.mp hh; rw [hf'] at this; cases this), if_pos rfl]
      refine ⟨_, rfl, ?_, rfl⟩
      rcases hq1 with ⟨g1, g2⟩ | ⟨d, g1, g2, g3, g4, g5⟩
      · refine Or.inl ⟨g1, fun y hy => ?_⟩
        by_cases ey : y = i
        · rw [ey]; exact hf'
        · exact g2 y (by omega)
      · refine Or.inr ⟨d, g1, by omega, g3, g4, fun h => ⟨fun y hy hby => ?_, (g5 h).2⟩⟩
        by_cases ey : y = i
        · rw [ey, hf'] at hby; cases hby
        · exact (g5 h).1 y (by omega) hby) (fun t ⟨hs1, hs2⟩ => by
    obtain ⟨t1, t2⟩ := t
    have hq2 : t2 = nI (a 0) := hs2
    subst hq2
    exact ⟨t1, by simp [f_X0_layRow_B22, co_g0 hC], hs1⟩) 1048576 0 (-1, 0) (by omega) ⟨Or.inl ⟨rfl, fun y hy => absurd hy (by omega)⟩, rfl⟩ (by omega)
  have e : f_X0_layRow_L22 M 84 o (nI L) (bI su) x4 (-1) 0 = some r := e
  rcases hr with ⟨h1, h2⟩ | ⟨d, h1, h2, h3, h4, h5⟩
  · obtain ⟨d, d1, d2⟩ := pc_ex s (by omega) hpos
    have := h2 d (bit_lt hs d2)
    rw [d2] at this; cases this
  · exact ⟨d, by rw [e, h1], h2, h3, h4, h5⟩
theorem co_85 {M M' : Mem} {o : Nat} {a : Nat → Nat} (hC : CO M o a) (hF : Fr S85 M M') : CO M' o a := co_fr hC hF (fun q k h => by have := hC.2.1; unfold S85 at h; omega)
theorem c_lay {M : Mem} {o : Nat} {a : Nat → Nat} (hC : CO M o a) (hO : OkO a) : ∃ r M', f_X0_layRow M 84 o = some M' ∧ RwO a r (a 0) ∧ (∀ j, j < a 0 → M'.1 85 j = nI (r j)) ∧ Fr S85 M M' := by
  have h8 := hO.1.1
  have p8 := pw8 h8
  have pp := Nat.two_pow_pos (a 0)
  obtain ⟨R, e, r, M', h1, h2, h3, h4⟩ := iter_rel (f := fun t : Int32 × Int32 × Int32 × Mem => f_X0_layRow_B7 t.2.2.2 84 o t.1 t.2.1 t.2.2.1) (a 0) (fun k t => ∃ r L, RwO a r k ∧ (t.1 = nI L ∧ L < 2 ^ a 0 ∧ ∀ y, y < a 0 → L.testBit y = !((stR a r k).testBit y)) ∧ t.2.1 = bI (suR a r k) ∧ t.2.2.1 = nI k ∧ (∀ j, j < k → t.2.2.2.1 85 j = nI (r j)) ∧ Fr S85 M t.2.2.2) (fun R => ∃ r M', (R = .inl M' ∨ R = .inr M') ∧ RwO a r (a 0) ∧ (∀ j, j < a 0 → M'.1 85 j = nI (r j)) ∧ Fr S85 M M') (fun k t hk ⟨r, L, hR, ⟨hs1, hL, hb⟩, hs2, hs3, hs4, hs5⟩ => by
    obtain ⟨t1, t2, t3, t4⟩ := t
    have hq1 : t1 = nI L := hs1
    have hq2 : t2 = bI (suR a r k) := hs2
    have hq3 : t3 = nI k := hs3
    have hq4 : ∀ j, j < k → t4.1 85 j = nI (r j) := hs4
    have hq5 : Fr S85 M t4 := hs5
    clear hs1 hs2 hs3 hs4 hs5
    subst hq1
    subst hq2
    subst hq3
    have hC2 := co_85 hC hq5
    obtain ⟨s1, s2⟩ := stR_ok hO k (by omega) hR
    obtain ⟨d, ed, hd⟩ := c_pick (su := suR a r k) hC2 hO s1 (by omega) hL hb (nI k)
    have d1 := hd.1
    let A := wI t4 85 k (nI d)
    have hSA : Sk A := hC2.1
    have fA : Fr S85 M A := fr_put hq5 rfl
    have hCA := co_85 hC fA
    have upr : ∀ j, j < k → up r k d j = r j := fun j hj => up_n _ _ (by omega)
    have cg := stR_cg (a := a) (r := r) (r' := up r k d)
    have s0 : stR a (up r k d) (k + 1) = clr (stR a r k) d := by
      show clr (stR a (up r k d) k) (up r k d k) = _
      rw [(cg k upr).1, up_s]
    have u0 : suR a (up r k d) (k + 1) = (suR a r k || decide (pr a d = 10)) := by
      show (suR a (up r k d) k || decide (pr a (up r k d k) = 10)) = _
      rw [(cg k upr).2, up_s]
    have hpd : pr a d ≤ 10 := (hO.2.1 d d1).2.2.2.2
    refine Or.inl ⟨(nI (L ||| 2 ^ d), bI (suR a (up r k d) (k + 1)), nI (k + 1), A), ?_, up r k d, L ||| 2 ^ d, fun j hj => ?_, ⟨rfl, or_lt hL (pw_lt d1), fun y hy => ?_⟩, rfl, rfl, fun j hj => ?_, fA⟩
    · show f_X0_layRow_B7 t4 84 o (nI L) (bI (suR a r k)) (nI k) = _
      unfold f_X0_layRow_B7
      rw [co_g0 hC2, bb_some, if_neg (nI_ge hk (by omega)), ed, bb_some, if_neg (nI_nm1 (by omega)), b_r2 hC2.1, bb_some, sI_at (b_sh hC2.1) (by omega) (by omega), nar0, bb_some]
      show (if bI (suR a r k) = 0 then (gR A 5 o 9).bind fun v8 => (aI A 0 v8 (nI d)).bind fun v9 => (if v9 = (10 : Int32) then some (Sum.inl (nI L ||| (1 : Int32) <<< (nI d &&& 31), (1 : Int32), nI k + 1, A)) else some (Sum.inl (nI L ||| (1 : Int32) <<< (nI d &&& 31), (0 : Int32), nI k + 1, A))) else some (Sum.inl (nI L ||| (1 : Int32) <<< (nI d &&& 31), (1 : Int32), nI k + 1, A))) = _
      rw [co_r9 hCA, bb_some, co_pres hCA hO d1, bb_some, one_sl (by omega), or_at, nI_1, u0]
      show (if bI (suR a r k) = 0 then (if nI (pr a d) = 10 then _ else _) else _) = _
      cases suR a r k with
      | true => rw [if_neg (show ¬ bI true = 0 by decide)]; rfl
      | false =>
        rw [if_pos (show bI false = 0 by decide)]
        by_cases h10 : pr a d = 10
        · rw [if_pos (show nI (pr a d) = 10 by rw [h10]; rfl), decide_eq_true h10]; rfl
        · rw [if_neg (show ¬ nI (pr a d) = 10 from nI_nq (k := 10) (by omega) (by omega) h10), decide_eq_false h10]; rfl
    · by_cases ej : j = k
      · subst ej
        rw [(cg j upr).1, (cg j upr).2, up_s]; exact hd
      · have c2 := cg j (fun i hi => upr i (by omega))
        rw [c2.1, c2.2, upr j (by omega)]; exact hR j (by omega)
    · rw [s0, Nat.testBit_or, Nat.testBit_two_pow, hb y hy, clr_bit (by omega)]
      by_cases ey : d = y
      · subst ey; simp
      · simp [ey, Ne.symm ey]
    · show (wI t4 85 k _).1 85 j = _
      rw [wI_rd]
      by_cases ej : j = k
      · subst ej; rw [if_pos ⟨rfl, rfl⟩, up_s]
      · rw [if_neg (by omega), upr j (by omega)]; exact hq4 j (by omega)) (fun t ⟨r, L, hR, ⟨hs1, hL, hb⟩, hs2, hs3, hs4, hs5⟩ => by
    obtain ⟨t1, t2, t3, t4⟩ := t
    have hq3 : t3 = nI (a 0) := hs3
    have hq5 : Fr S85 M t4 := hs5
    have hq4 : ∀ j, j < a 0 → t4.1 85 j = nI (r j) := hs4
    clear hs1 hs2 hs3 hs4 hs5
    subst hq3
    exact ⟨.inr t4, by show f_X0_layRow_B7 t4 84 o t1 t2 (nI (a 0)) = _; rw [f_X0_layRow_B7, co_g0 (co_85 hC hq5), bb_some, if_pos (nI_le (Nat.le_refl _) (by omega))], r, t4, Or.inr rfl, hR, hq4, hq5⟩) 1048576 0 (0, 0, 0, M) (by omega) ⟨fun _ => 0, 0, fun j hj => absurd hj (by omega), ⟨rfl, pp, fun y hy => by show Nat.testBit 0 y = !((2 ^ a 0 - 1).testBit y); rw [all_bit, Nat.zero_testBit]; simp [hy]⟩, rfl, rfl, fun j hj => absurd hj (by omega), fr_refl⟩ (by omega)
  have e : f_X0_layRow_L7 M 84 o 0 0 0 = some R := e
  refine ⟨r, M', ?_, h2, h3, h4⟩
  rw [f_X0_layRow, e, bb_some]
  rcases h1 with rfl | rfl <;> rfl
theorem tol {p : Nat} (hp : p ≤ 10) : Int32.toInt64 ((10 : Int32) - nI p) = lN (10 - p) := by
  have e : (10 : Int32) - nI p = nI (10 - p) := pk_sub (a := 10) hp
  rw [e, nI_l (by omega)]
theorem prd_le {a r : Nat → Nat} : ∀ k, prd a r k ≤ 10 ^ k := by
  intro k
  induction k with
  | zero => exact Nat.le_refl _
  | succ k ih =>
    show prd a r k * (10 - pr a (r k)) ≤ 10 ^ k * 10
    exact Nat.mul_le_mul ih (by omega)
theorem c_but {M : Mem} {o : Nat} {a : Nat → Nat} (hC : CO M o a) (hO : OkO a) : ∃ r M', f_X0_reckonButton M 84 o = some M' ∧ RwO a r (a 0) ∧ (∀ j, j < a 0 → M'.1 85 j = nI (r j)) ∧ CF M' (tvv a (2 ^ a 0 - 1)) (10 ^ a 0) ∧ Fx S85 M M' := by
  have h8 := hO.1.1
  have pp := Nat.two_pow_pos (a 0)
  obtain ⟨t1, t2⟩ := ten8 h8
  obtain ⟨r, A, eA, hR, hA, fA⟩ := c_lay hC hO
  have hCA := co_85 hC fA
  have hSA := hCA.1
  let B := wL A 84 1 (lN (10 ^ a 0))
  let D := wL B 84 0 0
  have hSB : Sk B := hSA
  have hSD : Sk D := hSA
  have gD : gL D 0 84 1 = some (lN (10 ^ a 0)) := by rw [gL_at (c_shp84 hSD)]; simp [D, B, wL]
  have smb : ∀ k, k ≤ a 0 → smR a r (a 0) k ≤ 800000000 := fun k hk => by
    have h1 := smR_v hO k hk (fun j hj => hR j (by omega))
    have h2 := tv_lt hO (show 2 ^ a 0 - 1 < 2 ^ a 0 by omega)
    omega
  have ten : ∀ k, k ≤ a 0 → 10 ^ (a 0 - k) * prd a r k ≤ 100000000 := fun k hk => by
    have h1 := prd_le (a := a) (r := r) k
    have h2 : 10 ^ (a 0 - k) * prd a r k ≤ 10 ^ (a 0 - k) * 10 ^ k := Nat.mul_le_mul_left _ h1
    rw [← Nat.pow_add, show a 0 - k + k = a 0 by omega] at h2
    omega
  obtain ⟨E, eE, k1, k2, k3⟩ := iter_rel (f := fun t : Int64 × Int32 × Mem => f_X0_reckonButton_B29 t.2.2 84 o t.1 t.2.1) (a 0) (fun k t => t.1 = lN (10 ^ (a 0 - k) * prd a r k) ∧ t.2.1 = nI k ∧ (t.2.2.2.1 84 0 = lN (smR a r (a 0) k) ∧ t.2.2.2.1 84 1 = lN (10 ^ a 0)) ∧ t.2.2.1 = A.1 ∧ t.2.2.2.2 = A.2.2) (fun R => (R.2.1 84 0 = lN (smR a r (a 0) (a 0)) ∧ R.2.1 84 1 = lN (10 ^ a 0)) ∧ R.1 = A.1 ∧ R.2.2 = A.2.2) (fun k t hk ⟨hs1, hs2, ⟨hs3, hs3'⟩, hs4, hs5⟩ => by
    obtain ⟨x1, x2, x3⟩ := t
    have hq1 : x1 = lN (10 ^ (a 0 - k) * prd a r k) := hs1
    have hq2 : x2 = nI k := hs2
    have hq3 : x3.2.1 84 0 = lN (smR a r (a 0) k) := hs3
    have hq6 : x3.2.1 84 1 = lN (10 ^ a 0) := hs3'
    have hq4 : x3.1 = A.1 := hs4
    have hq5 : x3.2.2 = A.2.2 := hs5
    clear hs1 hs2 hs3 hs3' hs4 hs5
    subst hq1
    subst hq2
    have fx : Fx NoS A x3 := ⟨hq5, fun n j _ => by rw [hq4]⟩
    have hC3 := no_cx hCA fx
    have hS3 := hC3.1
    have d1 := (hR k hk).1
    have hpd : pr a (r k) ≤ 10 := (hO.2.1 (r k) d1).2.2.2.2
    let G := wL x3 84 0 (lN (smR a r (a 0) k + 10 ^ (a 0 - k) * prd a r k))
    have hSG : Sk G := hS3
    have fG : Fx NoS x3 G := fx_wL
    have hCG := no_cx hC3 fG
    have rg : aI G 0 85 (nI k) = some (nI (r k)) := by
      rw [aI_at (b_sh hSG) (by omega) (by omega) (by omega)]
      show some (x3.1 85 k) = _
      rw [hq4, hA k hk]
    have te := ten k (by omega)
    obtain ⟨m, hm⟩ : ∃ m, a 0 - k = m + 1 := ⟨a 0 - k - 1, by omega⟩
    have hm2 : a 0 - (k + 1) = m := by omega
    have dv : 10 ^ (a 0 - k) * prd a r k / 10 = 10 ^ m * prd a r k := by
      rw [hm, Nat.pow_succ, Nat.mul_comm (10 ^ m) 10, Nat.mul_assoc, Nat.mul_div_cancel_left _ (by omega)]
    have dvl : dvL (lN (10 ^ (a 0 - k) * prd a r k)) 10 = some (lN (10 ^ m * prd a r k)) := by
      have := dvL_at (x := 10 ^ (a 0 - k) * prd a r k) (y := 10) (by omega) (by omega) (by omega)
      rw [dv] at this
      exact this
    refine Or.inl ⟨(lN (10 ^ (a 0 - (k + 1)) * prd a r (k + 1)), nI (k + 1), G), ?_, rfl, rfl, ⟨by simp [G, wL]; rfl, by simp [G, wL]; exact hq6⟩, hq4, hq5⟩
    show f_X0_reckonButton_B29 x3 84 o (lN (10 ^ (a 0 - k) * prd a r k)) (nI k) = _
    unfold f_X0_reckonButton_B29
    rw [co_g0 hC3, bb_some, if_neg (nI_ge hk (by omega)), gL_at (c_shp84 hS3), bb_some, hq3, lN_add, pL_at (c_shp84 hS3), bb_some, dvl, bb_some]
    show ((gR G 5 o 9).bind fun v6 => (gR G 0 84 2).bind fun v7 => (aI G 0 v7 (nI k)).bind fun v8 => (aI G 0 v6 v8).bind fun v9 => some (Sum.inl (lN (10 ^ m * prd a r k) * Int32.toInt64 ((10 : Int32) - v9), nI k + 1, G))) = _
    rw [co_r9 hCG, bb_some, b_r2 hSG, bb_some, rg, bb_some, co_pres hCG hO d1, bb_some, nI_1]
    show some (Sum.inl (lN (10 ^ m * prd a r k) * Int32.toInt64 ((10 : Int32) - nI (pr a (r k))), nI (k + 1), G)) = _
    rw [tol hpd, lN_mul, hm2, Nat.mul_assoc]
    rfl) (fun t ⟨hs1, hs2, hs3, hs4, hs5⟩ => by
    obtain ⟨x1, x2, x3⟩ := t
    have hq2 : x2 = nI (a 0) := hs2
    have hq4 : x3.1 = A.1 := hs4
    have hq5 : x3.2.2 = A.2.2 := hs5
    subst hq2
    have fx : Fx NoS A x3 := ⟨hq5, fun n j _ => by rw [hq4]⟩
    exact ⟨x3, by show f_X0_reckonButton_B29 x3 84 o x1 (nI (a 0)) = _; rw [f_X0_reckonButton_B29, co_g0 (no_cx hCA fx), bb_some, if_pos (nI_le (Nat.le_refl _) (by omega))], hs3, hq4, hq5⟩) 1048576 0 (lN (10 ^ a 0), 0, D) (by omega) ⟨by show lN (10 ^ a 0) = lN (10 ^ (a 0 - 0) * 1); rw [Nat.sub_zero, Nat.mul_one], rfl, ⟨by simp [D, wL]; rfl, by simp [D, B, wL]⟩, rfl, rfl⟩ (by omega)
  have eE : f_X0_reckonButton_L29 D 84 o (lN (10 ^ a 0)) 0 = some E := eE
  have fxE : Fx NoS A E := ⟨k3, fun n j _ => by rw [k2]⟩
  have hSE := fx_sk fxE hSA
  have tot : smR a r (a 0) (a 0) = tvv a (2 ^ a 0 - 1) := by
    have h1 := smR_v hO (a 0) (Nat.le_refl _) hR
    obtain ⟨s1, s2⟩ := stR_ok hO (a 0) (Nat.le_refl _) hR
    have z : stR a r (a 0) = 0 := by
      rcases Nat.eq_zero_or_pos (stR a r (a 0)) with h | h
      · exact h
      · exfalso
        have p8 := pw8 h8
        have : ∀ s, s < 256 → 0 < s → 0 < pc s := by decide +kernel
        have := this (stR a r (a 0)) (by omega) h
        omega
    rw [z, tv_0 hO, Nat.mul_zero, Nat.add_zero] at h1
    exact h1
  rw [tot] at k1
  have tl := tv_lt hO (show 2 ^ a 0 - 1 < 2 ^ a 0 by omega)
  obtain ⟨F, eF, f1, f2, f3, f4⟩ := c_reduce hSE (show tvv a (2 ^ a 0 - 1) < 2 ^ 62 by omega) t1 (show 10 ^ a 0 < 2 ^ 62 by omega) k1.1 k1.2
  refine ⟨r, F, ?_, hR, fun j hj => by rw [f3, k2]; exact hA j hj, ⟨f1, f2⟩, by rw [f4, k3, fA.1], fun n j hn => by rw [f3, k2]; exact fA.2 n j hn⟩
  unfold f_X0_reckonButton
  rw [ob_at (c_shp84 hC.1), bb_some, eA, bb_some, co_g0 hCA, bb_some, c_tens A h8, bb_some, pL_at (c_shp84 hSA), bb_some]
  show ((pL B 0 84 0 0).bind fun M5 => (gL M5 0 84 1).bind fun v6 => (f_X0_reckonButton_L29 M5 84 o v6 0).bind fun r7 => (ob r7 0 84).bind fun _ => (f_X0_reduce r7 84).bind fun z8 => some z8) = _
  rw [pL_at (c_shp84 hSB), bb_some]
  show ((gL D 0 84 1).bind fun v6 => (f_X0_reckonButton_L29 D 84 o v6 0).bind fun r7 => (ob r7 0 84).bind fun _ => (f_X0_reduce r7 84).bind fun z8 => some z8) = _
  rw [gD, bb_some, eE, bb_some, ob_at (c_shp84 hSE), bb_some, eF, bb_some]
