/-! the button: the model, the call -/
theorem mo_fx {M M' : Mem} {a : Nat → Nat} (hM : MO M a) (hF : Fx NoS M M') : MO M' a := by
  obtain ⟨h1, p, h2, h3, h4, h5, h6⟩ := hM
  have g : ∀ n k, M'.1 n k = M.1 n k := fun n k => hF.2 n k (fun h => h)
  exact ⟨fx_sk hF h1, p, h2, by rw [g]; exact h3, by rw [g]; exact h4, by rw [g]; exact h5, fun i hi => by rw [g]; exact h6 i hi⟩
def TvR (M : Mem) (a : Nat → Nat) (N : Nat) : Prop := ∀ x, x < N → M.2.1 264 x = lN (tvv a x)
theorem mo_tby {M : Mem} {s d N : Nat} {a : Nat → Nat} (hM : MO M a) (hO : OkO a) (hs : s < 2 ^ a 0) (hd : d < a 0) (hb : s.testBit d = true) (hN : s ≤ N) (hT : TvR M a N) : f_X12_triesBy M 255 (nI s) (nI d) = some (lN (tby a s d)) := by
  have h8 := hO.1.1
  have p8 := pw8 h8
  have c1 := clr_sm (show d < 32 by omega) hb
  have hpd : pr a d ≤ 10 := (hO.2.1 d hd).2.2.2.2
  have p2 := pc_8 s (by omega)
  have ra : aL M 264 (nI (clr s d)) = some (lN (tvv a (clr s d))) := by
    rw [aL_at (m_s264 hM.1) (by omega) (by omega), hT _ (by omega)]
  unfold f_X12_triesBy
  rw [bits_at M s (by omega), bb_some, mo_tens M p2, bb_some, mo_ob hM, bb_some, mo_of4 hM (by omega), bb_some, m_r34 hM.1, bb_some, clr_at _ (by omega), ra, bb_some]
  show some (lN (10 ^ pc s) + Int32.toInt64 ((10 : Int32) - nI (pr a d)) * lN (tvv a (clr s d))) = _
  rw [tol hpd, lN_mul, lN_add]
  rfl
def oL (i : Int64) : Option Nat → Int64
  | none => i
  | some w => lN w
theorem mo_layI {M : Mem} {s : Nat} {a : Nat → Nat} (hM : MO M a) (hO : OkO a) (hs : s < 2 ^ a 0) (hT : TvR M a s) {i0 : Int64} (hi : (s = 0 ∧ i0 = 0) ∨ (s ≠ 0 ∧ i0 = -1)) : f_X12_laysOut_L27 M 255 (nI s) i0 0 = some (lN (tvv a s)) := by
  have h8 := hO.1.1
  have p8 := pw8 h8
  obtain ⟨r, e, hr⟩ := iter_rel (f := fun t : Int64 × Int32 => f_X12_laysOut_B27 M 255 (nI s) t.1 t.2) (a 0) (fun i t => t.1 = oL i0 (mnO (fun d => s.testBit d) (tby a s) i) ∧ t.2 = nI i) (fun r => r = oL i0 (mnO (fun d => s.testBit d) (tby a s) (a 0))) (fun i t hi' ⟨hs1, hs2⟩ => by
    obtain ⟨t1, t2⟩ := t
    have hq1 : t1 = oL i0 (mnO (fun d => s.testBit d) (tby a s) i) := hs1
    have hq2 : t2 = nI i := hs2
    clear hs1 hs2
    subst hq2
    refine Or.inl ⟨(oL i0 (mnO (fun d => s.testBit d) (tby a s) (i + 1)), nI (i + 1)), ?_, rfl, rfl⟩
    show f_X12_laysOut_B27 M 255 (nI s) t1 (nI i) = _
    unfold f_X12_laysOut_B27
    rw [mo_g12 hM, bb_some, if_neg (nI_ge hi' (by omega)), m_holds M (by omega) (by omega), bb_some, nI_1, mnO_st]
    by_cases hb : s.testBit i = true
    · have tl := tb_lt hO hs hi' hb
      rw [if_pos hb, if_neg (by decide), if_pos hb, mo_ob hM, bb_some, mo_tby hM hO hs hi' hb (Nat.le_refl _) hT, bb_some, hq1]
      have hs0 : s ≠ 0 := fun h => by rw [h, Nat.zero_testBit] at hb; cases hb
      rcases mnO_sp (fun d => s.testBit d) (tby a s) i with ⟨h1, _⟩ | ⟨w, h1, _, d, h3, h4, h5⟩
      · rw [h1]
        rcases hi with ⟨h, _⟩ | ⟨_, h⟩
        · exact absurd h hs0
        · rw [h, if_pos (show lg_cmp (oL (-1) none) 0 < 0 from by show lg_cmp (-1) 0 < 0; decide)]
          rfl
      · have wl : w < 2 ^ 40 := by rw [← h5]; exact tb_lt hO hs (by omega) h4
        rw [h1]
        show (if lg_cmp (lN w) 0 < 0 then _ else (if 0 ≤ lg_cmp (lN (tby a s i)) (lN w) then _ else _)) = some (Sum.inl (oL i0 (if w ≤ tby a s i then some w else some (tby a s i)), nI (i + 1)))
        rw [if_neg (by
          rw [lg_cmp_lt]
          have : lN w < lN 0 ↔ w < 0 := pk_lLT (by omega) (by omega)
          exact fun hh => absurd (this.mp hh) (by omega))]
        by_cases hle : w ≤ tby a s i
        · rw [if_pos (by rw [lg_cmp_ge]; exact (pk_lLE (by omega) (by omega)).mpr hle), if_pos hle]
        · rw [if_neg (by rw [lg_cmp_ge]; exact fun hh => hle ((pk_lLE (by omega) (by omega)).mp hh)), if_neg hle]; rfl
    · rw [if_neg hb, if_pos rfl, if_neg hb, hq1]) (fun t ⟨hs1, hs2⟩ => by
    obtain ⟨t1, t2⟩ := t
    have hq2 : t2 = nI (a 0) := hs2
    subst hq2
    exact ⟨t1, by show f_X12_laysOut_B27 M 255 (nI s) t1 (nI (a 0)) = _; rw [f_X12_laysOut_B27, mo_g12 hM, bb_some, if_pos (nI_le (Nat.le_refl _) (by omega))], hs1⟩) 1048576 0 (i0, 0) (by omega) ⟨rfl, rfl⟩ (by omega)
  have e : f_X12_laysOut_L27 M 255 (nI s) i0 0 = some r := e
  rw [e, hr, tvv_st hO]
  rcases mnO_sp (fun d => s.testBit d) (tby a s) (a 0) with ⟨h1, h2⟩ | ⟨w, h1, _⟩
  · rw [h1]
    rcases hi with ⟨_, h⟩ | ⟨h, _⟩
    · rw [h]; rfl
    · exfalso
      have : ∀ s, s < 256 → 0 < s → 0 < pc s := by decide +kernel
      obtain ⟨d, d1, d2⟩ := pc_ex s (by omega) (this s (by omega) (by omega))
      have := h2 d (bit_lt hs d2)
      rw [d2] at this; cases this
  · rw [h1]; rfl
theorem mo_lay {M : Mem} {a : Nat → Nat} (hM : MO M a) (hO : OkO a) : ∃ M', f_X12_laysOut M 255 = some M' ∧ TvR M' a (2 ^ a 0) ∧ Fx NoS M M' := by
  have h8 := hO.1.1
  have p8 := pw8 h8
  obtain ⟨B, eB, hB, fB⟩ := iter_rel (f := fun t : Int32 × Mem => f_X12_laysOut_B2 t.2 255 t.1) (2 ^ a 0) (fun i t => t.1 = nI i ∧ TvR t.2 a i ∧ Fx NoS M t.2) (fun r => TvR r a (2 ^ a 0) ∧ Fx NoS M r) (fun i t hi ⟨hs1, hs2, hs3⟩ => by
    obtain ⟨t1, t2⟩ := t
    have hq1 : t1 = nI i := hs1
    have hq2 : TvR t2 a i := hs2
    have hq3 : Fx NoS M t2 := hs3
    clear hs1 hs2 hs3
    subst hq1
    have hM2 := mo_fx hM hq3
    refine Or.inl ⟨(nI (i + 1), wL t2 264 i (lN (tvv a i))), ?_, rfl, fun x hx => ?_, fx_trans hq3 fx_wL⟩
    · show f_X12_laysOut_B2 t2 255 (nI i) = _
      unfold f_X12_laysOut_B2
      rw [(mo_sl hM2 hO).1, bb_some, (mo_sl hM2 hO).2, if_neg (nI_ge hi (by omega))]
      by_cases h0 : i = 0
      · subst h0
        rw [if_pos (show nI 0 = 0 from rfl), mo_layI hM2 hO hi hq2 (Or.inl ⟨rfl, rfl⟩), bb_some, m_r34 hM2.1, bb_some, sL_at (m_s264 hM2.1) (by omega) (by omega), bb_some, nI_1]
      · rw [if_neg (nI_ne0 (by omega) (by omega)), mo_layI hM2 hO hi hq2 (Or.inr ⟨h0, rfl⟩), bb_some, m_r34 hM2.1, bb_some, sL_at (m_s264 hM2.1) (by omega) (by omega), bb_some, nI_1]
    · show (if 264 = 264 ∧ x = i then lN (tvv a i) else t2.2.1 264 x) = _
      by_cases e : x = i
      · subst e; rw [if_pos ⟨rfl, rfl⟩]
      · rw [if_neg (fun h => e h.2)]; exact hq2 x (by omega)) (fun t ⟨hs1, hs2, hs3⟩ => by
    obtain ⟨t1, t2⟩ := t
    have hq1 : t1 = nI (2 ^ a 0) := hs1
    have hq3 : Fx NoS M t2 := hs3
    subst hq1
    have hM2 := mo_fx hM hq3
    exact ⟨t2, by show f_X12_laysOut_B2 t2 255 (nI (2 ^ a 0)) = _; rw [f_X12_laysOut_B2, (mo_sl hM2 hO).1, bb_some, (mo_sl hM2 hO).2, if_pos (nI_le (Nat.le_refl _) (by omega))], hs2, hq3⟩) 1048576 0 (0, M) (Nat.zero_le _) ⟨rfl, fun x hx => absurd hx (by omega), fx_refl⟩ (by omega)
  have eB : f_X12_laysOut_L2 M 255 0 = some B := eB
  exact ⟨B, by rw [f_X12_laysOut, eB, bb_some], hB, fB⟩
theorem mo_nextOf {M : Mem} {s d : Nat} {su : Bool} {a : Nat → Nat} (hM : MO M a) (hO : OkO a) (hs : s < 2 ^ a 0) (hT : TvR M a (2 ^ a 0)) (hd : PK a s su d) : f_X12_nextOf M 255 (nI s) (bI su) = some (nI d) := by
  have h8 := hO.1.1
  have p8 := pw8 h8
  obtain ⟨g1, g2, g3, g4⟩ := hd
  have rv0 : aL M 264 (nI s) = some (lN (tvv a s)) := by rw [aL_at (m_s264 hM.1) (by omega) (by omega), hT s hs]
  have tvl := tv_lt hO hs
  obtain ⟨r, e, hr⟩ := iter_rel (f := fun t : Int32 => f_X12_nextOf_B2 M 255 (nI s) (bI su) t) d (fun i t => t = nI i) (fun r => r = .inl (nI d)) (fun i t hi ht => by
    subst ht
    refine Or.inl ⟨nI (i + 1), ?_, rfl⟩
    unfold f_X12_nextOf_B2
    rw [mo_g12 hM, bb_some, if_neg (nI_ge (by omega) (by omega)), m_holds M (by omega) (by omega), bb_some, nI_1]
    by_cases hb : s.testBit i = true
    · rw [if_pos hb, if_neg (by decide)]
      cases su with
      | true => have := g3 rfl i hi; rw [hb] at this; cases this
      | false =>
        obtain ⟨k1, k2⟩ := g4 rfl
        have hlt := k2 i hi hb
        have tl := tb_lt hO hs (show i < a 0 by omega) hb
        have ne : tby a s i ≠ tvv a s := fun h => by
          have := (tv_eq hO hs g1 g2 k1 (show i < a 0 by omega) hb).2.mp h
          omega
        rw [if_pos (show bI false = 0 by decide), mo_ob hM, bb_some, mo_tby hM hO hs (by omega) hb (by omega) hT, bb_some, m_r34 hM.1, bb_some, rv0, bb_some, if_neg (by rw [lg_cmp_eq]; exact fun hh => ne ((pk_lEQ (by omega) (by omega)).mp hh))]
    · rw [if_neg hb, if_pos rfl]) (fun t ht => by
    subst ht
    refine ⟨.inl (nI d), ?_, rfl⟩
    unfold f_X12_nextOf_B2
    rw [mo_g12 hM, bb_some, if_neg (nI_ge g1 (by omega)), m_holds M (by omega) (by omega), bb_some, if_pos g2, if_neg (by decide)]
    cases su with
    | true => rw [if_neg (show ¬ bI true = 0 by decide)]
    | false =>
      obtain ⟨k1, k2⟩ := g4 rfl
      have tl := tb_lt hO hs g1 g2
      rw [if_pos (show bI false = 0 by decide), mo_ob hM, bb_some, mo_tby hM hO hs g1 g2 (by omega) hT, bb_some, m_r34 hM.1, bb_some, rv0, bb_some, if_pos (by rw [lg_cmp_eq, (tv_eq hO hs g1 g2 k1 g1 g2).1])]) 1048576 0 0 (by omega) rfl (by omega)
  have e : f_X12_nextOf_L2 M 255 (nI s) (bI su) 0 = some r := e
  rw [f_X12_nextOf, e, bb_some, hr]
theorem mo_butL {M : Mem} {k : Nat} {a r : Nat → Nat} (hM : MO M a) (hO : OkO a) (hT : TvR M a (2 ^ a 0)) (hR : RwO a r (a 0)) (hk : k < a 0) : f_X12_button_L81 M 255 (nI k) (nI (2 ^ a 0 - 1)) 0 (-1) 0 = some (nI (r k)) := by
  have h8 := hO.1.1
  have p8 := pw8 h8
  obtain ⟨q, e, hq⟩ := iter_rel (f := fun t : Int32 × Int32 × Int32 × Int32 => f_X12_button_B81 M 255 (nI k) t.1 t.2.1 t.2.2.1 t.2.2.2) (k + 1) (fun i t => t.1 = nI (stR a r i) ∧ t.2.1 = bI (suR a r i) ∧ (0 < i → t.2.2.1 = nI (r (i - 1))) ∧ t.2.2.2 = nI i) (fun q => q = nI (r k)) (fun i t hi ⟨hs1, hs2, hs3, hs4⟩ => by
    obtain ⟨t1, t2, t3, t4⟩ := t
    have hq1 : t1 = nI (stR a r i) := hs1
    have hq2 : t2 = bI (suR a r i) := hs2
    have hq4 : t4 = nI i := hs4
    clear hs1 hs2 hs3 hs4
    subst hq1
    subst hq2
    subst hq4
    obtain ⟨s1, s2⟩ := stR_ok hO i (by omega) (fun j hj => hR j (by omega))
    have hd := hR i (by omega)
    have d1 := hd.1
    have hpd : pr a (r i) ≤ 10 := (hO.2.1 (r i) d1).2.2.2.2
    have su1 : suR a r (i + 1) = (suR a r i || decide (pr a (r i) = 10)) := rfl
    refine Or.inl ⟨(nI (stR a r (i + 1)), bI (suR a r (i + 1)), nI (r i), nI (i + 1)), ?_, rfl, rfl, fun _ => by rw [show i + 1 - 1 = i by omega], rfl⟩
    show f_X12_button_B81 M 255 (nI k) (nI (stR a r i)) (bI (suR a r i)) t3 (nI i) = _
    unfold f_X12_button_B81 f_X12_button_J113
    rw [if_neg (nI_nlt (by omega) (by omega)), mo_ob hM, bb_some, mo_nextOf hM hO s1 hT hd, bb_some, bb_some, mo_of4 hM (by omega), bb_some, clr_at _ (by omega), nI_1, su1]
    show (if bI (suR a r i) = 0 then (if nI (pr a (r i)) = 10 then _ else _) else _) = _
    cases suR a r i with
    | true => rw [if_neg (show ¬ bI true = 0 by decide)]; rfl
    | false =>
      rw [if_pos (show bI false = 0 by decide)]
      by_cases h10 : pr a (r i) = 10
      · rw [if_pos (show nI (pr a (r i)) = 10 by rw [h10]; rfl), decide_eq_true h10]; rfl
      · rw [if_neg (show ¬ nI (pr a (r i)) = 10 from nI_nq (k := 10) (by omega) (by omega) h10), decide_eq_false h10]; rfl) (fun t ⟨hs1, hs2, hs3, hs4⟩ => by
    obtain ⟨t1, t2, t3, t4⟩ := t
    have hq4 : t4 = nI (k + 1) := hs4
    have hq3 : t3 = nI (r k) := hs3 (by omega)
    subst hq4
    exact ⟨t3, by show f_X12_button_B81 M 255 (nI k) t1 t2 t3 (nI (k + 1)) = _; rw [f_X12_button_B81, if_pos (nI_lt (by omega) (by omega))], hq3⟩) 1048576 0 (nI (2 ^ a 0 - 1), 0, -1, 0) (by omega) ⟨rfl, rfl, fun h => absurd h (by omega), rfl⟩ (by omega)
  have e : f_X12_button_L81 M 255 (nI k) (nI (2 ^ a 0 - 1)) 0 (-1) 0 = some q := e
  rw [e, hq]
theorem io_m2 (x : Int32) {n : Nat} (hn : n < 2 ^ 30) : (x < -2 ∨ nI n ≤ x) ∨ x = -2 ∨ x = -1 ∨ ∃ k, k < n ∧ x = nI k := by
  rcases io_m1 x hn with (h | h) | h | h
  · by_cases e : x = -2
    · exact Or.inr (Or.inl e)
    · refine Or.inl (Or.inl ?_)
      rw [Int32.lt_iff_toInt_lt] at h ⊢
      have e1 : (-1 : Int32).toInt = -1 := rfl
      have e2 : (-2 : Int32).toInt = -2 := rfl
      have : x.toInt ≠ -2 := fun hh => e (Int32.toInt_inj.mp (by rw [hh, e2]))
      omega
  · exact Or.inl (Or.inr h)
  · exact Or.inr (Or.inr (Or.inl h))
  · exact Or.inr (Or.inr (Or.inr h))
theorem ii_m2o (M : Mem) {x : Int32} {n : Nat} (hn : n < 2 ^ 30) (h : x < -2 ∨ nI n ≤ x) : f_X12_isIn M x (-2) (nI n - 1) = some 0 := by
  unfold f_X12_isIn
  rcases h with h | h
  · rw [if_pos h]
  · have h2 : nI n - 1 < x := by
      rw [Int32.lt_iff_toInt_lt]
      rw [Int32.le_iff_toInt_le, nI_toInt (by omega)] at h
      have e : (nI n - 1).toInt = (n : Int) - 1 := pk_sub_toInt (a := n) (b := 1) hn (by omega)
      omega
    rw [if_pos h2]
    split <;> rfl
theorem ii_m2i (M : Mem) {x : Int32} {n : Nat} (hn : n < 2 ^ 30) (h : x = -2 ∨ x = -1 ∨ ∃ k, k < n ∧ x = nI k) : f_X12_isIn M x (-2) (nI n - 1) = some 1 := by
  have e : (nI n - 1).toInt = (n : Int) - 1 := pk_sub_toInt (a := n) (b := 1) hn (by omega)
  have e1 : (-1 : Int32).toInt = -1 := rfl
  have e2 : (-2 : Int32).toInt = -2 := rfl
  have hb : -2 ≤ x.toInt ∧ x.toInt ≤ (n : Int) - 1 := by
    rcases h with h | h | ⟨k, hk, h⟩
    · rw [h, e2]; omega
    · rw [h, e1]; omega
    · rw [h, nI_toInt (by omega)]; omega
  unfold f_X12_isIn
  rw [if_neg (by rw [Int32.lt_iff_toInt_lt, e2]; omega), if_neg (by rw [Int32.lt_iff_toInt_lt, e]; omega)]
theorem s85_q {M M' : Mem} (h : Fx S85 M M') : Qf M M' := fx_q h (fun q k hh => by unfold S85 at hh; unfold zT; omega)
theorem call_button {M : Mem} (hI : Inv M) (a1 a2 : Int32)  : ∃ (r : Int64) (M1 M2 : Mem), f_X11_button M 1 a1 a2 = some (r, M1) ∧ shp M1 255 = some (.inl 12) ∧ f_X12_button M1 255 a1 a2 = some (r, M2) ∧ Inv M2 := by
  have hS := hI.1
  exact qm hI a1 (fC := f_X11_button M 1 a1 a2) (fM := fun M => f_X12_button M 255 a1 a2) (bad := -1) (fun e1 e2 => ⟨by simp [f_X11_button, d_r0 hS, t_ob hS, e1], by simp [f_X12_button, f_X12_button_J23, ob_at (m_shp hS), e2]⟩) (fun o a ho hO e1 hC => by
    have h8 := hO.1.1
    have pp := Nat.two_pow_pos (a 0)
    obtain ⟨t1, t2⟩ := ten8 h8
    have tl := tv_lt hO (show 2 ^ a 0 - 1 < 2 ^ a 0 by omega)
    obtain ⟨r, M1, eM, hR, h85, ⟨v0, v1⟩, fM⟩ := c_but hC hO
    have hS1 := fx_sk fM hS
    have hC1 : CO M1 o a := co_fx hC fM (fun q k h => by have := hC.2.1; unfold S85 at h; omega)
    have cs : f_X11_button M 1 a1 a2 = (if a2 = (-1 : Int32) then some (M1.2.1 84 0, M1) else (if a2 = (-2 : Int32) then some (M1.2.1 84 1, M1) else (f_X5_hasDesk M1 o a2).bind fun v12 => (if v12 = 0 then some ((-1 : Int64), M1) else (aI M1 0 85 a2).bind fun v16 => some ((Int32.toInt64 v16), M1)))) := by
      unfold f_X11_button
      rw [d_r0 hS, bb_some, t_ob hS, bb_some, e1, bb_some, if_neg ho, d_r6 hS, bb_some, ob_at (c_shp84 hS), bb_some, eM, bb_some]
      simp only [d_r6 hS1, bb_some, gL_at (c_shp84 hS1), ob_at (co_shp hC1), b_r2 hS1]
    have ms : ∀ M2, f_X12_isOffice M1 255 a1 = some (1, M2) → MO M2 a → f_X12_button M1 255 a1 a2 = ((f_X12_isIn M2 a2 (-2 : Int32) (nI (a 0) - (1 : Int32))).bind fun v4 => (if v4 = 0 then some ((-1 : Int64), M2) else (f_X12_laysOut M2 255).bind fun z6 => (gI z6 12 255 12).bind fun v7 => (if 0 ≤ a2 then (f_X12_button_L81 z6 255 a2 (((1 : Int32) <<< (v7 &&& 31)) - (1 : Int32)) (0 : Int32) (-1 : Int32) (0 : Int32)).bind fun r9 => some ((Int32.toInt64 r9), z6) else (gR z6 12 255 34).bind fun v10 => (aL z6 v10 (((1 : Int32) <<< (v7 &&& 31)) - (1 : Int32))).bind fun v11 => (gI z6 12 255 12).bind fun v12 => (f_X12_tens z6 v12).bind fun v13 => (if a2 = (-2 : Int32) then f_X12_button_J68 z6 v11 v13 (1 : Int32) else f_X12_button_J68 z6 v11 v13 (0 : Int32))))) := fun M2 e3 hM => by
      unfold f_X12_button
      rw [ob_at (m_shp hS1), bb_some, e3, bb_some]
      show (if (1 : Int32) = 0 then _ else (gI M2 12 255 12).bind fun v3 => _) = _
      rw [if_neg (by decide), mo_g12 hM, bb_some, mo_ob hM]
      rfl
    rcases io_m2 a2 (n := a 0) (by omega) with hx | hx
    · have n1 : ¬ a2 = -1 := fun h => by
        subst h
        rcases hx with h | h
        · exact absurd h (by decide)
        · exact neg_nle (by decide) (by omega) h
      have n2 : ¬ a2 = -2 := fun h => by
        subst h
        rcases hx with h | h
        · exact absurd h (by decide)
        · exact neg_nle (by decide) (by omega) h
      have ho2 : outO a2 (a 0) := by
        rcases hx with h | h
        · left
          rw [Int32.lt_iff_toInt_lt] at h ⊢
          have e2 : (-2 : Int32).toInt = -2 := rfl
          have e0 : (0 : Int32).toInt = 0 := rfl
          omega
        · exact Or.inr h
      refine ⟨-1, M1, ?_, s85_q fM, fun M2 e3 hM hq => ⟨M2, ?_, qf_refl⟩⟩
      · rw [cs, if_neg n1, if_neg n2, c_noDesk hC1 ho2, bb_some, if_pos rfl]
      · show f_X12_button M1 255 a1 a2 = _
        rw [ms M2 e3 hM, ii_m2o M2 (by omega) hx, bb_some, if_pos rfl]
    · have ml : ∀ M2, f_X12_isOffice M1 255 a1 = some (1, M2) → MO M2 a → ∃ D, MO D a ∧ TvR D a (2 ^ a 0) ∧ Qf M2 D ∧ f_X12_button M1 255 a1 a2 = (if 0 ≤ a2 then (f_X12_button_L81 D 255 a2 (nI (2 ^ a 0 - 1)) (0 : Int32) (-1 : Int32) (0 : Int32)).bind fun r9 => some ((Int32.toInt64 r9), D) else some (if a2 = -2 then lN (10 ^ a 0 / Nat.gcd (tvv a (2 ^ a 0 - 1)) (10 ^ a 0)) else lN (tvv a (2 ^ a 0 - 1) / Nat.gcd (tvv a (2 ^ a 0 - 1)) (10 ^ a 0)), D)) := fun M2 e3 hM => by
        have p8 := pw8 h8
        obtain ⟨D, eD, hD, fD⟩ := mo_lay hM hO
        have hMD := mo_fx hM fD
        refine ⟨D, hMD, hD, nos_q fD, ?_⟩
        have ra : aL D 264 (nI (2 ^ a 0 - 1)) = some (lN (tvv a (2 ^ a 0 - 1))) := by rw [aL_at (m_s264 hMD.1) (by omega) (by omega), hD _ (by omega)]
        rw [ms M2 e3 hM, ii_m2i M2 (by omega) hx, bb_some, if_neg (by decide), eD, bb_some, mo_g12 hMD, bb_some, all_sl (by omega), m_r34 hMD.1, bb_some, ra, bb_some, bb_some, mo_tens D h8, bb_some]
        unfold f_X12_button_J68
        rw [mo_frac D (by omega) t1 (by omega), bb_some, mo_frac D (by omega) t1 (by omega), bb_some, if_neg (show ¬ (1 : Int32) = 0 by decide), if_pos (show (0 : Int32) = 0 from rfl)]
        by_cases h0 : 0 ≤ a2
        · rw [if_pos h0, if_pos h0]
        · rw [if_neg h0, if_neg h0]
          by_cases h2 : a2 = -2
          · rw [if_pos h2, if_pos h2]
          · rw [if_neg h2, if_neg h2]
      rcases hx with h | h | ⟨k, hk, h⟩
      · subst h
        refine ⟨M1.2.1 84 1, M1, by rw [cs, if_neg (by decide), if_pos rfl], s85_q fM, fun M2 e3 hM hq => ?_⟩
        obtain ⟨D, hMD, hD, qD, e⟩ := ml M2 e3 hM
        exact ⟨D, by show f_X12_button M1 255 a1 (-2) = _; rw [e, if_neg (by decide), if_pos rfl, v1], qD⟩
      · subst h
        refine ⟨M1.2.1 84 0, M1, by rw [cs, if_pos rfl], s85_q fM, fun M2 e3 hM hq => ?_⟩
        obtain ⟨D, hMD, hD, qD, e⟩ := ml M2 e3 hM
        exact ⟨D, by show f_X12_button M1 255 a1 (-1) = _; rw [e, if_neg (by decide), if_neg (by decide), v0], qD⟩
      · subst h
        have d1 := (hR k hk).1
        refine ⟨Int32.toInt64 (nI (r k)), M1, ?_, s85_q fM, fun M2 e3 hM hq => ?_⟩
        · rw [cs, if_neg (nI_nm1 (by omega)), if_neg (fun hh => nI_pos (show k < 2 ^ 31 by omega) (by rw [hh]; decide)), c_hasDesk hC1 hO hk, bb_some, if_neg (by decide), aI_at (b_sh hS1) (by omega) (by omega) (by omega), h85 k hk, bb_some]
        · obtain ⟨D, hMD, hD, qD, e⟩ := ml M2 e3 hM
          refine ⟨D, ?_, qD⟩
          show f_X12_button M1 255 a1 (nI k) = _
          rw [e, if_pos (nI_pos' (by omega)), mo_butL hMD hO hD hR hk, bb_some])
