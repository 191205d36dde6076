/-! fits, blame: the answers -/
theorem d_tell {M : Mem} {k : Nat} {a : Nat → Nat} {b : Nat → Int32} {p : Nat → Bool} {l : Nat} (hO : OkO a) (h : FS M a b p l) (hk : k + 10 < 2 ^ 31) : f_X8_tell M 92 (nI (k + 10)) = (if cb p (2 ^ a 0) ≤ k then some (-2, M) else (aI M 0 93 (nI k)).bind fun v19 => some (v19, M)) := by
  have p8 := pw8 hO.1.1
  have cl := cb_le p (2 ^ a 0)
  have ek : nI (k + 10) - 10 = nI k := by rw [show (10 : Int32) = nI 10 from rfl, pk_sub (by omega)]; congr 1
  unfold f_X8_tell
  rw [if_neg (show ¬ nI (k + 10) < 10 from nI_nlt (b := 10) (by omega) (by omega)), fs_g h, bb_some, ek, su_r1 (fs_sk h), bb_some]
  by_cases hc : cb p (2 ^ a 0) ≤ k
  · rw [if_pos (nI_le hc (by omega)), if_pos hc]
  · rw [if_neg (nI_ge (by omega) (by omega)), if_neg hc]
theorem cb_in (p : Nat → Bool) {N k : Nat} (h : k < cb p N) : ∃ x, x < N ∧ p x = true ∧ cb p x = k := by
  induction N with
  | zero => exact absurd h (Nat.not_lt_zero k)
  | succ N ih =>
    rw [cb_st] at h
    by_cases hp : p N = true
    · rw [if_pos hp] at h
      by_cases e : k = cb p N
      · exact ⟨N, by omega, hp, e.symm⟩
      · obtain ⟨x, h1, h2, h3⟩ := ih (by omega)
        exact ⟨x, by omega, h2, h3⟩
    · rw [if_neg hp] at h
      obtain ⟨x, h1, h2, h3⟩ := ih h
      exact ⟨x, by omega, h2, h3⟩
theorem cb_inj (p : Nat → Bool) {x y : Nat} (hx : p x = true) (hy : p y = true) (h : cb p x = cb p y) : x = y := by
  rcases Nat.lt_trichotomy x y with l | l | l
  · have h1 := cb_mo p (show x + 1 ≤ y by omega)
    rw [cb_st, if_pos hx] at h1; omega
  · exact l
  · have h1 := cb_mo p (show y + 1 ≤ x by omega)
    rw [cb_st, if_pos hy] at h1; omega
theorem call_fits {M : Mem} (hI : Inv M) (a1 a2 a3 : Int32)  : ∃ (r : Int32) (M1 M2 : Mem), f_X11_fits M 1 a1 a2 a3 = some (r, M1) ∧ shp M1 255 = some (.inl 12) ∧ f_X12_fits M1 255 a1 a2 a3 = some (r, M2) ∧ Inv M2 := by
  have hS := hI.1
  refine qol hI a1 a2 (fC := f_X11_fits M 1 a1 a2 a3) (fM := fun M => f_X12_fits M 255 a1 a2 a3) (bad := -2) (fun q e1 d1 e2 => ⟨by simp [f_X11_fits, d_r0 hS, t_ob hS, e1, d1], by simp [f_X12_fits, ob_at (m_shp hS), e2]⟩) (fun o M2 ho e1 d1 e2 hS2 d2 => ⟨by simp [f_X11_fits, d_r0 hS, t_ob hS, e1, d1], by simp [f_X12_fits, ob_at (m_shp hS), e2, ob_at (m_shp hS2), d2]⟩) (fun o a q b n ho hq hor hO hb e1 d1 hC hL => ?_)
  obtain ⟨t, et, ht⟩ := c_only hC hO hL hb
  have cs : f_X11_fits M 1 a1 a2 a3 = (if bI t = 0 then some ((-2 : Int32), M) else (f_X8_find M 92 o q).bind fun z10 => (gR z10 11 1 8).bind fun v11 => (ob z10 8 v11).bind fun _ => (f_X8_tell z10 v11 a3).bind fun z12 => some (z12.1, z12.2)) := by
    unfold f_X11_fits
    rw [d_r0 hS, bb_some, t_ob hS, bb_some, e1, bb_some, bb_some, t_ob hS, bb_some, d1, bb_some, if_neg ho, if_neg hq, ob_at (cl_shp hL).1, bb_some, et, bb_some, d_r8 hS, bb_some, su_ob hS, bb_some]
  have ms : ∀ M1 M2 M3, f_X12_isOffice M1 255 a1 = some (1, M2) → Sk M1 → Sk M2 → f_X12_isLog M2 255 a2 = some (1, M3) → MB M3 a b → f_X12_fits M1 255 a1 a2 a3 = (if bI t = 0 then some ((-2 : Int32), M3) else (f_X12_fitting M3 255).bind fun z7 => (if a3 = 0 then some (z7.1, z7.2) else (f_X12_isIn z7.2 a3 (1 : Int32) (3 : Int32)).bind fun v9 => (if v9 = 0 then ((f_X12_fits_L90 z7.2 255 a3 (0 : Int32) (0 : Int32)).bind fun r11 => match r11 with | .inl r11 => some (r11.1, r11.2) | .inr r11 => some ((-2 : Int32), r11)) else (if z7.1 = 0 then some ((-1 : Int32), z7.2) else (if a3 = (3 : Int32) then (ob z7.2 12 255).bind fun _ => (f_X12_tryOf z7.2 255).bind fun z14 => some (z14.1, z14.2) else (if a3 = (2 : Int32) then f_X12_fits_J80 z7.2 255 (1 : Int32) else f_X12_fits_J80 z7.2 255 (0 : Int32))))))) := fun M1 M2 M3 g1 g2 g3 g4 g5 => by
    obtain ⟨t', et', ht'⟩ := mo_there g5 hO hb
    have tt : t' = t := by
      cases t <;> cases t' <;> first | rfl | exact absurd (ht'.mpr (ht.mp rfl)) (by decide) | exact absurd (ht.mpr (ht'.mp rfl)) (by decide)
    subst tt
    unfold f_X12_fits
    rw [ob_at (m_shp g2), bb_some, g1, bb_some]
    show (if (1 : Int32) = 0 then _ else (ob M2 12 255).bind fun _ => (f_X12_isLog M2 255 a2).bind fun z3 => _) = _
    rw [if_neg (by decide), ob_at (m_shp g3), bb_some, g4, bb_some]
    show (if (1 : Int32) = 0 then _ else (ob M3 12 255).bind fun _ => (f_X12_areThere M3 255).bind fun v5 => _) = _
    rw [if_neg (by decide), mo_ob g5.1, bb_some, et', bb_some]
    rfl
  cases t with
  | false => exact ⟨-2, M, by rw [cs, if_pos (show bI false = 0 by decide)], qf_refl, fun M2 M3 g1 g2 g3 g4 g5 => ⟨M3, by show f_X12_fits M 255 a1 a2 a3 = _; rw [ms M M2 M3 g1 g2 g3 g4 g5, if_pos (show bI false = 0 by decide)], qf_refl⟩⟩
  | true =>
    have hT : LTh a b n := ht.mp rfl
    obtain ⟨M0, e0, hFS, f0⟩ := c_find hC hO hor hL hb hT
    have hS0 := fs_sk hFS
    have cs2 : f_X11_fits M 1 a1 a2 a3 = (f_X8_tell M0 92 a3).bind fun z12 => some (z12.1, z12.2) := by
      rw [cs, if_neg (show ¬ bI true = 0 by decide), e0, bb_some, d_r8 hS0, bb_some, su_ob hS0, bb_some]
    have ms2 := fun M1 M2 M3 g1 g2 g3 g4 g5 => (ms M1 M2 M3 g1 g2 g3 g4 g5).trans (if_neg (show ¬ bI true = 0 by decide))
    have bad : (a3 < 0 ∨ ∃ w, 4 ≤ w ∧ w < 10 ∧ a3 = nI w) → ∃ r M1, f_X11_fits M 1 a1 a2 a3 = some (r, M1) ∧ Qf M M1 ∧ ∀ M2 M3, f_X12_isOffice M1 255 a1 = some (1, M2) → Sk M1 → Sk M2 → f_X12_isLog M2 255 a2 = some (1, M3) → MB M3 a b → ∃ M4, f_X12_fits M1 255 a1 a2 a3 = some (r, M4) ∧ Qf M3 M4 := fun hbad => by
      refine ⟨-2, M0, by rw [cs2, c_tellX hbad, bb_some], sy_q f0, fun M2 M3 g1 g2 g3 g4 g5 => ?_⟩
      obtain ⟨D, eD, fD⟩ := mo_fitting g5 hO hb hT
      have n0 : ¬ a3 = 0 := by
        rcases hbad with h | ⟨w, h1, h2, h⟩
        · exact neg_nq h (k := 0) (by omega)
        · rw [h]; exact nI_ne0 (by omega) (by omega)
      have i13 : f_X12_isIn D a3 1 3 = some 0 := ii_13 D (by
        rcases hbad with h | ⟨w, h1, h2, h⟩
        · exact Or.inl h
        · exact Or.inr ⟨w, Or.inr h1, by omega, h⟩)
      have l10 : a3 < 10 := by
        rcases hbad with h | ⟨w, h1, h2, h⟩
        · rw [Int32.lt_iff_toInt_lt] at h ⊢
          have e0 : (0 : Int32).toInt = 0 := rfl
          have e1 : (10 : Int32).toInt = 10 := rfl
          omega
        · rw [h]; exact nI_lt (b := 10) (by omega) (by omega)
      refine ⟨D, ?_, sx_q fD⟩
      rw [ms2 M0 M2 M3 g1 g2 g3 g4 g5, eD, bb_some, if_neg n0]
      show ((f_X12_isIn D a3 1 3).bind fun v9 => _) = _
      rw [i13, bb_some, if_pos rfl]
      show ((f_X12_fits_L90 D 255 a3 0 0).bind fun r11 => _) = _
      rw [fx_nf (n := n) (sx_mb g5 fD) hO l10, bb_some]
    by_cases hneg : a3 < 0
    · exact bad (Or.inl hneg)
    obtain ⟨w, hw31, hw⟩ := nI_of hneg
    by_cases h4 : w < 4
    · subst hw
      obtain ⟨M1, e1, f1⟩ := c_tell4 hO hFS h4
      have f01 := fr_trans f0 (sz_sy f1)
      refine ⟨fta a (agr a b n) w, M1, by rw [cs2, e1, bb_some], sy_q f01, fun M2 M3 g1 g2 g3 g4 g5 => ?_⟩
      obtain ⟨D, eD, fD⟩ := mo_tell4 g5 hO hb hT h4
      exact ⟨D, by show f_X12_fits M1 255 a1 a2 (nI w) = _; rw [ms2 M1 M2 M3 g1 g2 g3 g4 g5]; exact eD, sx_q fD⟩
    by_cases h10 : w < 10
    · exact bad (Or.inr ⟨w, by omega, h10, hw⟩)
    obtain ⟨k, rfl⟩ : ∃ k, w = k + 10 := ⟨w - 10, by omega⟩
    subst hw
    have n0 : ¬ nI (k + 10) = 0 := nI_ne0 (by omega) hw31
    have mm : ∀ M2 M3, f_X12_isOffice M0 255 a1 = some (1, M2) → Sk M0 → Sk M2 → f_X12_isLog M2 255 a2 = some (1, M3) → MB M3 a b → ∃ (r : (Int32 × Mem) ⊕ Mem) (M' : Mem), (match r with | .inl r11 => some (r11.1, r11.2) | .inr r11 => some ((-2 : Int32), r11)) = f_X12_fits M0 255 a1 a2 (nI (k + 10)) ∧ ((cb (agr a b n) (2 ^ a 0) ≤ k ∧ r = .inr M') ∨ ∃ x, x < 2 ^ a 0 ∧ agr a b n x = true ∧ cb (agr a b n) x = k ∧ r = .inl (nI x, M')) ∧ Qf M3 M' := fun M2 M3 g1 g2 g3 g4 g5 => by
      obtain ⟨D, eD, fD⟩ := mo_fitting g5 hO hb hT
      obtain ⟨r, M', e, h1, h2⟩ := mo_nth (sx_mb g5 fD) hO hb hT hw31
      refine ⟨r, M', ?_, h1, qf_trans (sx_q fD) (sx_q h2)⟩
      rw [ms2 M0 M2 M3 g1 g2 g3 g4 g5, eD, bb_some, if_neg n0]
      show _ = ((f_X12_isIn D (nI (k + 10)) 1 3).bind fun v9 => _)
      rw [ii_13 D (Or.inr ⟨k + 10, Or.inr (by omega), hw31, rfl⟩), bb_some, if_pos rfl]
      show _ = ((f_X12_fits_L90 D 255 (nI (k + 10)) 0 0).bind fun r11 => _)
      rw [e, bb_some]
    by_cases hc : cb (agr a b n) (2 ^ a 0) ≤ k
    · refine ⟨-2, M0, by rw [cs2, d_tell hO hFS hw31, if_pos hc, bb_some], sy_q f0, fun M2 M3 g1 g2 g3 g4 g5 => ?_⟩
      obtain ⟨r, M', e, h1, h2⟩ := mm M2 M3 g1 g2 g3 g4 g5
      refine ⟨M', ?_, h2⟩
      show f_X12_fits M0 255 a1 a2 (nI (k + 10)) = _
      rcases h1 with ⟨_, rfl⟩ | ⟨x, x1, x2, x3, _⟩
      · rw [← e]
      · exfalso
        have h1 := cb_mo (agr a b n) (show x + 1 ≤ 2 ^ a 0 by omega)
        rw [cb_st, if_pos x2] at h1; omega
    · obtain ⟨y, y1, y2, y3⟩ := cb_in (agr a b n) (show k < cb (agr a b n) (2 ^ a 0) by omega)
      have ey := fs_a hO hFS y1 y2
      rw [y3] at ey
      refine ⟨nI y, M0, by rw [cs2, d_tell hO hFS hw31, if_neg hc, ey, bb_some, bb_some], sy_q f0, fun M2 M3 g1 g2 g3 g4 g5 => ?_⟩
      obtain ⟨r, M', e, h1, h2⟩ := mm M2 M3 g1 g2 g3 g4 g5
      refine ⟨M', ?_, h2⟩
      show f_X12_fits M0 255 a1 a2 (nI (k + 10)) = _
      rcases h1 with ⟨h1, _⟩ | ⟨x, x1, x2, x3, rfl⟩
      · exact absurd h1 hc
      · rw [← e, cb_inj (agr a b n) y2 x2 (by rw [y3, x3])]
theorem call_blame {M : Mem} (hI : Inv M) (a1 a2 a3 : Int32) (h3 : a3 = 0 ∨ a3 = 1) : ∃ (r : Int32) (M1 M2 : Mem), f_X11_blame M 1 a1 a2 a3 = some (r, M1) ∧ shp M1 255 = some (.inl 12) ∧ f_X12_blame M1 255 a1 a2 a3 = some (r, M2) ∧ Inv M2 := by
  have hS := hI.1
  refine qol hI a1 a2 (fC := f_X11_blame M 1 a1 a2 a3) (fM := fun M => f_X12_blame M 255 a1 a2 a3) (bad := -2) (fun q e1 d1 e2 => ⟨by simp [f_X11_blame, d_r0 hS, t_ob hS, e1, d1], by simp [f_X12_blame, ob_at (m_shp hS), e2]⟩) (fun o M2 ho e1 d1 e2 hS2 d2 => ⟨by simp [f_X11_blame, d_r0 hS, t_ob hS, e1, d1], by simp [f_X12_blame, ob_at (m_shp hS), e2, ob_at (m_shp hS2), d2]⟩) (fun o a q b n ho hq hor hO hb e1 d1 hC hL => ?_)
  have p8 := pw8 hO.1.1
  obtain ⟨t, et, ht⟩ := c_only hC hO hL hb
  have cs : f_X11_blame M 1 a1 a2 a3 = (if bI t = 0 then some ((-2 : Int32), M) else (f_X8_find M 92 o q).bind fun z10 => (gR z10 11 1 8).bind fun v11 => (ob z10 8 v11).bind fun _ => (f_X8_smallest z10 v11).bind fun v12 => (if a3 = 0 then (if v12 = (-1 : Int32) then some (v12, z10) else (f_J6_bitCount_0f7a4 z10 v12).bind fun v15 => some (v15, z10)) else some (v12, z10))) := by
    unfold f_X11_blame
    rw [d_r0 hS, bb_some, t_ob hS, bb_some, e1, bb_some, bb_some, t_ob hS, bb_some, d1, bb_some, if_neg ho, if_neg hq, ob_at (cl_shp hL).1, bb_some, et, bb_some, d_r8 hS, bb_some, su_ob hS, bb_some]
  have ms : ∀ M1 M2 M3, f_X12_isOffice M1 255 a1 = some (1, M2) → Sk M1 → Sk M2 → f_X12_isLog M2 255 a2 = some (1, M3) → MB M3 a b → f_X12_blame M1 255 a1 a2 a3 = (if bI t = 0 then some ((-2 : Int32), M3) else (f_X12_blame_L32 M3 255 a3 (-1 : Int32) (0 : Int32)).bind fun r7 => (if r7.1 = (-1 : Int32) then some (r7.1, r7.2) else (if a3 = 0 then (f_X12_bitsOf r7.2 r7.1).bind fun v10 => some (v10, r7.2) else some (r7.1, r7.2)))) := fun M1 M2 M3 g1 g2 g3 g4 g5 => by
    obtain ⟨t', et', ht'⟩ := mo_there g5 hO hb
    have tt : t' = t := by
      cases t <;> cases t' <;> first | rfl | exact absurd (ht'.mpr (ht.mp rfl)) (by decide) | exact absurd (ht.mpr (ht'.mp rfl)) (by decide)
    subst tt
    unfold f_X12_blame
    rw [ob_at (m_shp g2), bb_some, g1, bb_some]
    show (if (1 : Int32) = 0 then _ else (ob M2 12 255).bind fun _ => (f_X12_isLog M2 255 a2).bind fun z3 => _) = _
    rw [if_neg (by decide), ob_at (m_shp g3), bb_some, g4, bb_some]
    show (if (1 : Int32) = 0 then _ else (ob M3 12 255).bind fun _ => (f_X12_areThere M3 255).bind fun v5 => _) = _
    rw [if_neg (by decide), mo_ob g5.1, bb_some, et', bb_some]
  cases t with
  | false => exact ⟨-2, M, by rw [cs, if_pos (show bI false = 0 by decide)], qf_refl, fun M2 M3 g1 g2 g3 g4 g5 => ⟨M3, by show f_X12_blame M 255 a1 a2 a3 = _; rw [ms M M2 M3 g1 g2 g3 g4 g5, if_pos (show bI false = 0 by decide)], qf_refl⟩⟩
  | true =>
    have hT : LTh a b n := ht.mp rfl
    obtain ⟨M0, e0, hFS, f0⟩ := c_find hC hO hor hL hb hT
    have hS0 := fs_sk hFS
    have cs2 : f_X11_blame M 1 a1 a2 a3 = (f_X8_smallest M0 92).bind fun v12 => (if a3 = 0 then (if v12 = (-1 : Int32) then some (v12, M0) else (f_J6_bitCount_0f7a4 M0 v12).bind fun v15 => some (v15, M0)) else some (v12, M0)) := by
      rw [cs, if_neg (show ¬ bI true = 0 by decide), e0, bb_some, d_r8 hS0, bb_some, su_ob hS0, bb_some]
    have ms2 := fun M1 M2 M3 g1 g2 g3 g4 g5 => (ms M1 M2 M3 g1 g2 g3 g4 g5).trans (if_neg (show ¬ bI true = 0 by decide))
    have sl := smf_lt (p := agr a b n) (N := 2 ^ a 0) (2 ^ a 0) (Nat.le_refl _)
    have cm := c_small hO hFS
    generalize hv : ff (agr a b n) smf (2 ^ a 0) none = v at sl cm
    cases v with
    | none =>
      have cm : f_X8_smallest M0 92 = some (-1) := cm
      refine ⟨-1, M0, by rw [cs2, cm, bb_some, if_pos rfl]; split <;> rfl, sy_q f0, fun M2 M3 g1 g2 g3 g4 g5 => ?_⟩
      obtain ⟨u, D, eD, hD, fD⟩ := mo_blame g5 hO hb hT a3
      rw [hv] at hD
      have hu : u = -1 := smI_o hD
      refine ⟨D, ?_, sx_q fD⟩
      show f_X12_blame M0 255 a1 a2 a3 = _
      rw [ms2 M0 M2 M3 g1 g2 g3 g4 g5, eD, bb_some]
      show (if u = -1 then some (u, D) else _) = _
      rw [hu, if_pos rfl]
    | some y =>
      have cm : f_X8_smallest M0 92 = some (nI y) := cm
      have hy := sl y rfl
      refine ⟨if a3 = 0 then nI (pc y) else nI y, M0, ?_, sy_q f0, fun M2 M3 g1 g2 g3 g4 g5 => ?_⟩
      · rw [cs2, cm, bb_some, if_neg (nI_nm1 (by omega)), pc_at M0 y (by omega), bb_some]
        by_cases h0 : a3 = 0
        · rw [if_pos h0, if_pos h0]
        · rw [if_neg h0, if_neg h0]
      · obtain ⟨u, D, eD, hD, fD⟩ := mo_blame g5 hO hb hT a3
        rw [hv] at hD
        have hu : u = nI y := smI_o hD
        refine ⟨D, ?_, sx_q fD⟩
        show f_X12_blame M0 255 a1 a2 a3 = _
        rw [ms2 M0 M2 M3 g1 g2 g3 g4 g5, eD, bb_some]
        show (if u = -1 then some (u, D) else (if a3 = 0 then (f_X12_bitsOf D u).bind fun v10 => some (v10, D) else some (u, D))) = _
        rw [hu, if_neg (nI_nm1 (by omega)), bits_at D y (by omega), bb_some]
        by_cases h0 : a3 = 0
        · rw [if_pos h0, if_pos h0]
        · rw [if_neg h0, if_neg h0]
