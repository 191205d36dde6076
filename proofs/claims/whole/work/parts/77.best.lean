/-! rule, best -/
theorem ii_o (M : Mem) {x U : Int32} {n : Nat} (hU : nI n - 1 = U) (h : outO x n) (hn : n < 2 ^ 30) : f_X12_isIn M x 0 U = some 0 := by
  rw [← hU]; exact ii_out M h hn
theorem ii_i (M : Mem) {U : Int32} {d n : Nat} (hU : nI n - 1 = U) (h : d < n) (hn : n < 2 ^ 30) : f_X12_isIn M (nI d) 0 U = some 1 := by
  rw [← hU]; exact ii_in M h hn
def rzf (a : Nat → Nat) (ru c z : Nat) : Nat := if iT a c (rr (lru a ru (a (45 + 3 * c)) (rrn a ru c).2 (fun d => (rrn a ru c).1 (10 + d)))) = true then z else z + 1
def rz (a : Nat → Nat) (ru k : Nat) : Nat := fo (rzf a ru) k 0
theorem pc_or : ∀ k, k < 10 → ∀ x, x < 2 ^ k → pc (x ||| 2 ^ k) = pc x + 1 := by decide +kernel
theorem rz_pc {a : Nat → Nat} {ru : Nat} (hO : OkO a) : ∀ k, k ≤ a 1 → (rrn a ru k).1 0 < 2 ^ k ∧ pc ((rrn a ru k).1 0) + rz a ru k = k := by
  intro k
  induction k with
  | zero =>
    intro _
    exact ⟨by show us a 0 < 1; unfold us; rw [if_neg (by omega)]; omega, by show pc (us a 0) + 0 = 0; unfold us; rw [if_neg (by omega)]; rfl⟩
  | succ k ih =>
    intro hk
    have h10 := hO.1.2.1
    have h8 := hO.1.1
    obtain ⟨i1, i2⟩ := ih (by omega)
    obtain ⟨h1, h2⟩ := rrn_ok (ru := ru) hO k (by omega)
    have hd := (okc hO (show k < a 1 by omega)).1
    have lk := lru_ok (ru := ru) (t := (rrn a ru k).2) (h := fun d => (rrn a ru k).1 (10 + d)) hO hd h2 (fun s hs => by have := (h1.2.1 s (by omega)).1; show (rrn a ru k).1 (10 + s) < 1000; omega)
    have lh := lru_hr (ru := ru) (t := (rrn a ru k).2) (h := fun d => (rrn a ru k).1 (10 + d)) hO hd
    show (rst a ru k (rrn a ru k)).1 0 < 2 ^ (k + 1) ∧ pc ((rst a ru k (rrn a ru k)).1 0) + rzf a ru k (rz a ru k) = k + 1
    unfold rst rzf
    dsimp only
    generalize lru a ru (a (45 + 3 * k)) (rrn a ru k).2 (fun d => (rrn a ru k).1 (10 + d)) = l at lk lh
    by_cases hi : iT a k (rr l) = true
    · rw [if_pos hi]
      cases l with
      | none => exact absurd hi (by rw [show iT a k (rr none) = false from iT0 a k]; decide)
      | some l =>
        obtain ⟨w, r, q⟩ := l
        have hi : iT a k r = true := hi
        have hst : stl a k (some (w, r, q)) (rrn a ru k).1 = hit a k w r q (rrn a ru k).1 := by
          show (if iT a k r = true then _ else _) = _
          rw [if_pos hi]
        obtain ⟨e0, -, -, -⟩ := hit_at (u := (rrn a ru k).1) (c := k) (r := r) (t := q) (hr_ne lh) (by omega) (show w < 8 by have := lk.1; omega)
        rw [hst, e0]
        refine ⟨or_lt (Nat.lt_trans i1 (pw_lt (by omega))) (pw_lt (by omega)), ?_⟩
        rw [pc_or k (by omega) _ i1]
        omega
    · have hf : iT a k (rr l) = false := by simpa using hi
      rw [if_neg hi, stl_mis hf, mis_at _ _ _ (by omega) (by omega)]
      exact ⟨Nat.lt_trans i1 (pw_lt (by omega)), by omega⟩
def SV : Nat → Nat → Prop := fun q k => SB q k ∨ (q = 255 ∧ (k = 37 ∨ k = 38))
theorem sv_q {M M' : Mem} (h : Fr SV M M') : Qf M M' := fr_q h (fun q k hh => by unfold SV SB at hh; unfold zT; omega)
theorem su_sv {M M' : Mem} (h : Fr SU M M') : Fr SV M M' := fr_mono h (fun q k hh => by unfold SU at hh; unfold SV SB; omega)
theorem mo_beginsR {M : Mem} {a : Nat → Nat} (ru : Nat) (hM : MO M a) (hO : OkO a) : ∃ M', f_X12_beginsRule M 255 = some M' ∧ RM M' a ru (us a) 0 0 ∧ Fr SV M M' := by
  obtain ⟨A, eA, hA, _, fA⟩ := mo_begins hM hO
  have hS := hA.1.1.1
  have fB : Fr (fun q k => q = 255 ∧ (k = 37 ∨ k = 38)) A (wI (wI A 255 37 0) 255 38 0) := fr_put (fr_wI ⟨rfl, Or.inl rfl⟩) ⟨rfl, Or.inr rfl⟩
  have hR := mr_fr hA.1 fB (fun q k h => by omega)
  have fA' : Fr SV M A := fr_mono fA (fun q k h => Or.inl h)
  have fB' : Fr SV A (wI (wI A 255 37 0) 255 38 0) := fr_mono fB (fun q k h => Or.inr h)
  refine ⟨wI (wI A 255 37 0) 255 38 0, ?_, ⟨hR, ⟨?_, ?_, wI_same _ _ _ _, fun h3 => ?_⟩, fun d hd => ?_⟩, fr_trans fA' fB'⟩
  · unfold f_X12_beginsRule
    rw [mo_ob hM, bb_some, eA, bb_some, pI_at (m_shp hS), bb_some, pI_at (m_shp (M := wI A 255 37 0) hS), bb_some]
  · rw [fB.2 255 24 (by omega)]; exact hA.2.1 1 (by omega) (by omega)
  · rw [fB.2 255 25 (by omega)]; exact hA.2.1 2 (by omega) (by omega)
  · rw [wI_rd, if_neg (by omega), wI_same, Nat.zero_mod]; rfl
  · rw [fB.2 259 d (by omega)]; exact (hA.2.2 d hd).2.2
theorem mo_rules {M : Mem} {a : Nat → Nat} {ru : Nat} (hM : MO M a) (hO : OkO a) (hru : ru < 4) : ∃ M', f_X12_rules M 255 (nI ru) = some M' ∧ RM M' a ru (rrn a ru (a 1)).1 (rz a ru (a 1)) (rrn a ru (a 1)).2 ∧ Fr SV M M' := by
  have h10 := hO.1.2.1
  obtain ⟨A, eA, hA, fA⟩ := mo_beginsR ru hM hO
  obtain ⟨B, eB, h1, h2⟩ := iter_rel (f := fun s : Int32 × Mem => f_X12_rules_B6 s.2 255 (nI ru) s.1) (a 1) (fun i s => s.1 = nI i ∧ RM s.2 a ru (rrn a ru i).1 (rz a ru i) (rrn a ru i).2 ∧ Fr SV M s.2) (fun r => RM r a ru (rrn a ru (a 1)).1 (rz a ru (a 1)) (rrn a ru (a 1)).2 ∧ Fr SV M r) (fun i s hi ⟨hs1, hs2, hs3⟩ => by
    obtain ⟨s1, s2⟩ := s
    have hs1 : s1 = nI i := hs1
    subst hs1
    have hs2 : RM s2 a ru (rrn a ru i).1 (rz a ru i) (rrn a ru i).2 := hs2
    have hs3 : Fr SV M s2 := hs3
    obtain ⟨k1, k2⟩ := rrn_ok (ru := ru) hO i (by omega)
    obtain ⟨D, eD, hD, fD⟩ := mo_ruled hs2 hO hi k1 (by omega) hru k2
    refine Or.inl ⟨(nI (i + 1), D), ?_, rfl, hD, fr_trans hs3 (su_sv fD)⟩
    show f_X12_rules_B6 s2 255 (nI ru) (nI i) = _
    unfold f_X12_rules_B6
    rw [mo_g13 hs2.1.1, bb_some, if_neg (nI_ge hi (by omega)), mo_ob hs2.1.1, bb_some, eD, bb_some, nI_1]) (fun s ⟨hs1, hs2, hs3⟩ => by
    obtain ⟨s1, s2⟩ := s
    have hs1 : s1 = nI (a 1) := hs1
    subst hs1
    have hs2 : RM s2 a ru (rrn a ru (a 1)).1 (rz a ru (a 1)) (rrn a ru (a 1)).2 := hs2
    exact ⟨s2, by simp [f_X12_rules_B6, mo_g13 hs2.1.1], hs2, hs3⟩) 1048576 0 (0, A) (by omega) ⟨rfl, hA, fA⟩ (by omega)
  have eB : f_X12_rules_L6 A 255 (nI ru) 0 = some B := eB
  exact ⟨B, by rw [f_X12_rules, mo_ob hM, bb_some, eA, bb_some, eB, bb_some], h1, h2⟩
theorem mo_mostR {M : Mem} {m : Nat} {a u : Nat → Nat} (hM : MO M a) (h9 : ∀ d, d < 8 → M.1 259 d = nI (u (10 + d))) (hO : OkO a) (hu : FOk a m u) (hm : m < 500) : f_X12_mostHelped M 255 = some (nI (mih (a 0) u)) := by
  have h8 := hO.1.1
  have r9 : ∀ d, d < 8 → aI M 0 259 (nI d) = some (nI (u (10 + d))) := fun d hd => by rw [aI_at (m_s259 hM.1) hd (by omega) (by omega), h9 d hd]
  have e : f_X12_mostHelped_L4 M 255 0 1 = some (nI (mih (a 0) u)) := by
    by_cases h0 : a 0 = 0
    · have : mih (a 0) u = 0 := by have := (mih_ok (a 0) u).1; omega
      rw [this]
      refine iter_end ?_
      show f_X12_mostHelped_B4 M 255 0 1 = _
      unfold f_X12_mostHelped_B4
      rw [mo_g12 hM, bb_some, if_pos (by rw [h0]; decide)]; rfl
    · have e := (lpI (f := fun s : Int32 × Int32 => f_X12_mostHelped_B4 M 255 s.1 s.2) 1 (a 0 - 1) (fun i b => if u (10 + (1 + i)) ≤ u (10 + b) then b else 1 + i) nI nI (fun _ b => b < a 0) 0 (by omega) (fun i v hi hv => by
        have b1 := (hu.2.1 (1 + i) (by omega)).1
        have b2 := (hu.2.1 v (by omega)).1
        refine ⟨?_, by split <;> omega⟩
        show f_X12_mostHelped_B4 M 255 (nI v) (nI (1 + i)) = _
        unfold f_X12_mostHelped_B4
        rw [mo_g12 hM, bb_some, if_neg (nI_ge (show 1 + i < a 0 by omega) (by omega)), m_r14 hM.1, bb_some, r9 _ (show 1 + i < 8 by omega), bb_some, bb_some, r9 _ (show v < 8 by omega), bb_some]
        by_cases hc : u (10 + (1 + i)) ≤ u (10 + v)
        · rw [if_pos hc, if_pos (nI_le hc (by omega))]
        · rw [if_neg hc, if_neg (nI_ge (by omega) (by omega))]) (fun v hv => by
        rw [show 1 + (a 0 - 1) = a 0 by omega]
        simp [f_X12_mostHelped_B4, mo_g12 hM]) (by omega)).1
      have e : f_X12_mostHelped_L4 M 255 (nI 0) (nI 1) = some (nI (mih (a 0) u)) := e
      rw [nI_0, show nI 1 = 1 from rfl] at e
      exact e
  rw [f_X12_mostHelped, e, bb_some]
/-- what a rule's answer is -/
def rla (a : Nat → Nat) (ru w : Nat) : Nat := if w = 0 then (rrn a ru (a 1)).1 1 else if w = 1 then (rrn a ru (a 1)).1 2 else if w = 2 then mxh (rrn a ru (a 1)).1 else rz a ru (a 1)
theorem call_rule {M : Mem} (hI : Inv M) (a1 a2 a3 : Int32)  : ∃ (r : Int32) (M1 M2 : Mem), f_X11_rule M 1 a1 a2 a3 = some (r, M1) ∧ shp M1 255 = some (.inl 12) ∧ f_X12_rule M1 255 a1 a2 a3 = some (r, M2) ∧ Inv M2 := by
  have hS := hI.1
  exact qm hI a1 (fC := f_X11_rule M 1 a1 a2 a3) (fM := fun M => f_X12_rule M 255 a1 a2 a3) (bad := -1) (fun e1 e2 => ⟨by simp [f_X11_rule, d_r0 hS, t_ob hS, e1], by simp [f_X12_rule, ob_at (m_shp hS), e2]⟩) (fun o a ho hO e1 hC => by
    have h8 := hO.1.1
    have h10 := hO.1.2.1
    rcases io_cases a2 (n := 4) (by omega) with hx | ⟨ru, hru, rfl⟩
    · have hx' : a2 < 0 ∨ 4 ≤ a2 := hx
      refine ⟨-1, M, ?_, qf_refl, fun M2 e3 hM hq => ⟨M2, ?_, qf_refl⟩⟩
      · unfold f_X11_rule
        rw [d_r0 hS, bb_some, t_ob hS, bb_some, e1, bb_some, if_neg ho]
        by_cases hn : a2 < 0
        · rw [if_pos hn]
        · rw [if_neg hn, if_neg (by
            have h4 : (4 : Int32) ≤ a2 := hx'.resolve_left hn
            rw [Int32.le_iff_toInt_le] at h4; rw [Int32.lt_iff_toInt_lt]; omega)]
      · have i1 : f_X12_isIn M2 a2 0 3 = some 0 := ii_o M2 (n := 4) (by decide) hx (by omega)
        simp [f_X12_rule, ob_at (m_shp hS), e3, i1]
    obtain ⟨M1, e, hF, hg⟩ := c_playRule hC hO fl68 hru
    have hS1 := hg.1 hS
    have hC1 := sf_cg fl68 hC hg
    obtain ⟨k1, k2⟩ := rrn_ok (ru := ru) hO (a 1) (Nat.le_refl _)
    obtain ⟨z1, z2⟩ := rz_pc (ru := ru) hO (a 1) (Nat.le_refl _)
    have p10 := pw10 h10
    have i2 : ∀ N, f_X12_isIn N (nI ru) 0 3 = some 1 := fun N => ii_i N (n := 4) (by decide) hru (by omega)
    have ce : ∀ x3, f_X11_rule M 1 a1 (nI ru) x3 = (if x3 = (0 : Int32) then some (nI ((rrn a ru (a 1)).1 1), M1) else (if x3 = (1 : Int32) then some (nI ((rrn a ru (a 1)).1 2), M1) else (if x3 = (2 : Int32) then some (nI (mxh (rrn a ru (a 1)).1), M1) else (if x3 = (3 : Int32) then some (nI (rz a ru (a 1)), M1) else some (-1, M1))))) := fun x3 => by
      have r3 : nI (a 1) - nI (pc ((rrn a ru (a 1)).1 0)) = nI (rz a ru (a 1)) := by
        rw [pk_sub (by omega)]; congr 1; omega
      unfold f_X11_rule
      rw [d_r0 hS, bb_some, t_ob hS, bb_some, e1, bb_some, if_neg ho, if_neg (nI_pos (by omega)), if_pos (show nI ru < 4 from nI_lt (b := 4) hru (by omega)), d_r5 hS, bb_some, ob_at (fl_shp hS fl68).1, bb_some, e, bb_some]
      simp only [d_r5 hS1, bb_some, fc_g hF (k := 1) (by omega) (by omega), fc_g hF (k := 2) (by omega) (by omega), fc_ob hF, c_most hF k1 (by omega), co_g1 hC1, fc_g hF (k := 0) (by omega) (by omega), pc_at M1 _ (show (rrn a ru (a 1)).1 0 < 1024 by omega), r3]
    rcases io_cases a3 (n := 4) (by omega) with hx | ⟨w, hw, rfl⟩
    · have hx' : a3 < 0 ∨ 4 ≤ a3 := hx
      have ne : ∀ j, j < 4 → ¬ a3 = nI j := fun j hj hh => by
        subst hh
        rcases hx with h | h
        · exact nI_pos (by omega) h
        · exact nI_ge hj (by omega) h
      refine ⟨-1, M1, ?_, sfg_q fl68 hg, fun M2 e3 hM hq => ⟨M2, ?_, qf_refl⟩⟩
      · rw [ce, if_neg (show ¬ a3 = 0 from ne 0 (by omega)), if_neg (show ¬ a3 = 1 from ne 1 (by omega)), if_neg (show ¬ a3 = 2 from ne 2 (by omega)), if_neg (show ¬ a3 = 3 from ne 3 (by omega))]
      · have i1 : f_X12_isIn M2 a3 0 3 = some 0 := ii_o M2 (n := 4) (by decide) hx (by omega)
        simp [f_X12_rule, ob_at (m_shp hS1), e3, i1, i2]
    · have i1 : ∀ N, f_X12_isIn N (nI w) 0 3 = some 1 := fun N => ii_i N (n := 4) (by decide) hw (by omega)
      refine ⟨nI (rla a ru w), M1, ?_, sfg_q fl68 hg, fun M2 e3 hM hq => ?_⟩
      · rw [ce]
        rcases (show w = 0 ∨ w = 1 ∨ w = 2 ∨ w = 3 by omega) with rfl | rfl | rfl | rfl <;> rfl
      · obtain ⟨D, eD, hD, fD⟩ := mo_rules hM hO hru
        refine ⟨D, ?_, sv_q fD⟩
        obtain ⟨hR, ⟨f24, f25, f38, -⟩, h259⟩ := hD
        have hSD := hR.1.1
        have mm := mo_mostR hR.1 h259 hO k1 (by omega)
        have ml := (mih_ok (a 0) (rrn a ru (a 1)).1).1
        have g24 : gI D 12 255 24 = some (nI ((rrn a ru (a 1)).1 1)) := by rw [gI_at (m_shp hSD), f24]
        have g25 : gI D 12 255 25 = some (nI ((rrn a ru (a 1)).1 2)) := by rw [gI_at (m_shp hSD), f25]
        have g38 : gI D 12 255 38 = some (nI (rz a ru (a 1))) := by rw [gI_at (m_shp hSD), f38]
        have am : aI D 0 259 (nI (mih (a 0) (rrn a ru (a 1)).1)) = some (nI (mxh (rrn a ru (a 1)).1)) := by
          rw [aI_at (m_s259 hSD) (by omega) (by omega) (by omega), h259 _ (by omega), mxh_mih hO k1]
        show f_X12_rule M1 255 a1 (nI ru) (nI w) = _
        unfold f_X12_rule
        rw [ob_at (m_shp hS1), bb_some, e3, bb_some]
        show (if (1 : Int32) = 0 then _ else (f_X12_isIn M2 (nI ru) 0 3).bind fun v3 => _) = _
        rw [if_neg (by decide), i2, bb_some, if_neg (by decide)]
        show ((f_X12_isIn M2 (nI w) 0 3).bind fun v5 => _) = _
        rw [i1, bb_some, if_neg (by decide)]
        show ((ob M2 12 255).bind fun _ => (f_X12_rules M2 255 (nI ru)).bind fun z7 => _) = _
        rw [mo_ob hM, bb_some, eD, bb_some]
        simp only [g24, g25, g38, m_r14 hSD, mo_ob hR.1, mm, am, bb_some]
        rcases (show w = 0 ∨ w = 1 ∨ w = 2 ∨ w = 3 by omega) with rfl | rfl | rfl | rfl <;> rfl)
theorem p_r3 {M : Mem} (hS : Sk M) : gR M 6 107 3 = some 109 := by rw [gR_at (p_shp hS), hS.2 (107, 3, 109) (by decide)]
def fl109 : flO 109 := Or.inr rfl
def gn (a : Nat → Nat) (ru : Nat) : Int32 := nI ((rrn a ru (a 1)).1 1) - nI ((rrn a ru (a 1)).1 2)
def bfo (a : Nat → Nat) (ru : Nat) (p : Int32 × Int32) : Int32 × Int32 := if p.1 = -1 then (nI ru, gn a ru) else if gn a ru ≤ p.2 then p else (nI ru, gn a ru)
theorem c_best {M : Mem} {o : Nat} {a : Nat → Nat} (hC : CO M o a) (hO : OkO a) : ∃ M', f_X6_bestRule M 107 o = some ((fo (bfo a) 4 (-1, 0)).1, M') ∧ Fg (SF 109) M M' := by
  obtain ⟨R, e, h1, h2⟩ := iter_rel (f := fun s : Int32 × Int32 × Int32 × Mem => f_X6_bestRule_B7 s.2.2.2 107 o s.1 s.2.1 s.2.2.1) 4 (fun i s => (s.1, s.2.1) = fo (bfo a) i (-1, 0) ∧ s.2.2.1 = nI i ∧ Fg (SF 109) M s.2.2.2) (fun r => r.1 = (fo (bfo a) 4 (-1, 0)).1 ∧ Fg (SF 109) M r.2) (fun i s hi ⟨hs1, hs2, hs3⟩ => by
    obtain ⟨s1, s2, s3, s4⟩ := s
    have hs1 : (s1, s2) = fo (bfo a) i (-1, 0) := hs1
    have hs2 : s3 = nI i := hs2
    subst hs2
    have hs3 : Fg (SF 109) M s4 := hs3
    have hC2 := sf_cg fl109 hC hs3
    obtain ⟨D, eD, hD, fD⟩ := c_playRule hC2 hO fl109 hi
    have hSD := hD.1.1
    have g1 := fc_g hD (k := 1) (by omega) (by omega)
    have g2 := fc_g hD (k := 2) (by omega) (by omega)
    refine Or.inl ⟨((bfo a i (s1, s2)).1, (bfo a i (s1, s2)).2, nI (i + 1), D), ?_, ?_, rfl, fg_trans hs3 fD⟩
    · show f_X6_bestRule_B7 s4 107 o s1 s2 (nI i) = _
      unfold f_X6_bestRule_B7 f_X6_bestRule_J47 bfo
      rw [if_neg (show ¬ 4 ≤ nI i from nI_ge (b := 4) hi (by omega)), p_r3 hC2.1, bb_some, ob_at (fl_shp hC2.1 fl109).1, bb_some, eD, bb_some]
      simp only [p_r3 hSD, bb_some, g1, g2, nI_1]
      rw [show nI ((rrn a i (a 1)).1 1) - nI ((rrn a i (a 1)).1 2) = gn a i from rfl]
      by_cases q1 : s1 = -1
      · rw [if_pos q1, if_pos q1]
      · rw [if_neg q1, if_neg q1]
        by_cases q2 : gn a i ≤ s2
        · rw [if_pos q2, if_pos q2]
        · rw [if_neg q2, if_neg q2]
    · show bfo a i (s1, s2) = bfo a i (fo (bfo a) i (-1, 0))
      rw [hs1]) (fun s ⟨hs1, hs2, hs3⟩ => by
    obtain ⟨s1, s2, s3, s4⟩ := s
    have hs1 : (s1, s2) = fo (bfo a) 4 (-1, 0) := hs1
    have hs2 : s3 = nI 4 := hs2
    subst hs2
    exact ⟨(s1, s4), by simp [f_X6_bestRule_B7, show nI 4 = 4 from rfl], by show s1 = _; rw [← hs1], hs3⟩) 1048576 0 (-1, 0, 0, M) (by omega) ⟨rfl, rfl, fg_fr fr_refl⟩ (by omega)
  have e : f_X6_bestRule_L7 M 107 o (-1) 0 0 = some R := e
  exact ⟨R.2, by rw [f_X6_bestRule, e, bb_some, h1], h2⟩
theorem mo_best {M : Mem} {a : Nat → Nat} (hM : MO M a) (hO : OkO a) : ∃ M', f_X12_best_L17 M 255 (-1) 0 0 = some ((fo (bfo a) 4 (-1, 0)).1, M') ∧ Fr SV M M' := by
  obtain ⟨R, e, h1, h2⟩ := iter_rel (f := fun s : Int32 × Int32 × Int32 × Mem => f_X12_best_B17 s.2.2.2 255 s.1 s.2.1 s.2.2.1) 4 (fun i s => (s.1, s.2.1) = fo (bfo a) i (-1, 0) ∧ s.2.2.1 = nI i ∧ MO s.2.2.2 a ∧ Fr SV M s.2.2.2) (fun r => r.1 = (fo (bfo a) 4 (-1, 0)).1 ∧ Fr SV M r.2) (fun i s hi ⟨hs1, hs2, hs3, hs4⟩ => by
    obtain ⟨s1, s2, s3, s4⟩ := s
    have hs1 : (s1, s2) = fo (bfo a) i (-1, 0) := hs1
    have hs2 : s3 = nI i := hs2
    subst hs2
    have hs3 : MO s4 a := hs3
    have hs4 : Fr SV M s4 := hs4
    obtain ⟨D, eD, hD, fD⟩ := mo_rules hs3 hO hi
    obtain ⟨hR, ⟨f24, f25, f38, -⟩, h259⟩ := hD
    have hSD := hR.1.1
    have g24 : gI D 12 255 24 = some (nI ((rrn a i (a 1)).1 1)) := by rw [gI_at (m_shp hSD), f24]
    have g25 : gI D 12 255 25 = some (nI ((rrn a i (a 1)).1 2)) := by rw [gI_at (m_shp hSD), f25]
    refine Or.inl ⟨((bfo a i (s1, s2)).1, (bfo a i (s1, s2)).2, nI (i + 1), D), ?_, ?_, rfl, hR.1, fr_trans hs4 fD⟩
    · show f_X12_best_B17 s4 255 s1 s2 (nI i) = _
      unfold f_X12_best_B17 f_X12_best_J50 bfo
      rw [if_neg (show ¬ 4 ≤ nI i from nI_ge (b := 4) hi (by omega)), mo_ob hs3, bb_some, eD, bb_some]
      simp only [bb_some, g24, g25, nI_1]
      rw [show nI ((rrn a i (a 1)).1 1) - nI ((rrn a i (a 1)).1 2) = gn a i from rfl]
      by_cases q1 : s1 = -1
      · rw [if_pos q1, if_pos q1]
      · rw [if_neg q1, if_neg q1, ← le_lt]
        by_cases q2 : gn a i ≤ s2
        · rw [if_pos q2, if_pos q2]
        · rw [if_neg q2, if_neg q2]
    · show bfo a i (s1, s2) = bfo a i (fo (bfo a) i (-1, 0))
      rw [hs1]) (fun s ⟨hs1, hs2, hs3, hs4⟩ => by
    obtain ⟨s1, s2, s3, s4⟩ := s
    have hs1 : (s1, s2) = fo (bfo a) 4 (-1, 0) := hs1
    have hs2 : s3 = nI 4 := hs2
    subst hs2
    exact ⟨(s1, s4), by simp [f_X12_best_B17, show nI 4 = 4 from rfl], by show s1 = _; rw [← hs1], hs4⟩) 1048576 0 (-1, 0, 0, M) (by omega) ⟨rfl, rfl, hM, fr_refl⟩ (by omega)
  have e : f_X12_best_L17 M 255 (-1) 0 0 = some R := e
  exact ⟨R.2, by rw [e, ← h1], h2⟩
theorem call_best {M : Mem} (hI : Inv M) (a1 : Int32)  : ∃ (r : Int32) (M1 M2 : Mem), f_X11_best M 1 a1 = some (r, M1) ∧ shp M1 255 = some (.inl 12) ∧ f_X12_best M1 255 a1 = some (r, M2) ∧ Inv M2 := by
  have hS := hI.1
  exact qm hI a1 (fC := f_X11_best M 1 a1) (fM := fun M => f_X12_best M 255 a1) (bad := -1) (fun e1 e2 => ⟨by simp [f_X11_best, d_r0 hS, t_ob hS, e1], by simp [f_X12_best, ob_at (m_shp hS), e2]⟩) (fun o a ho hO e1 hC => by
    obtain ⟨M1, e, hg⟩ := c_best hC hO
    have hS1 := hg.1 hS
    refine ⟨(fo (bfo a) 4 (-1, 0)).1, M1, ?_, sfg_q fl109 hg, fun M2 e3 hM hq => ?_⟩
    · unfold f_X11_best
      rw [d_r0 hS, bb_some, t_ob hS, bb_some, e1, bb_some, if_neg ho, d_r9 hS, bb_some, ob_at (p_shp hS), bb_some, e, bb_some]
    · obtain ⟨D, eD, fD⟩ := mo_best hM hO
      refine ⟨D, ?_, sv_q fD⟩
      show f_X12_best M1 255 a1 = _
      unfold f_X12_best
      rw [ob_at (m_shp hS1), bb_some, e3, bb_some]
      show (if (1 : Int32) = 0 then _ else (f_X12_best_L17 M2 255 (-1) 0 0).bind fun r3 => some (r3.1, r3.2)) = _
      rw [if_neg (by decide), eD, bb_some])
