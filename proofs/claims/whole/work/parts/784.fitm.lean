/-! the sets that fit: the model; fits, blame -/
def SX : Nat → Nat → Prop := fun q k => (q = 255 ∧ 16 ≤ k ∧ k ≤ 18) ∨ q = 259 ∨ q = 260 ∨ q = 265
theorem sx_q {M M' : Mem} (h : Fr SX M M') : Qf M M' := fr_q h (fun q k hh => by unfold SX at hh; unfold zT; omega)
theorem sx_mo {M M' : Mem} {a : Nat → Nat} (hM : MO M a) (hF : Fr SX M M') : MO M' a := mo_fr hM hF (fun q k h => by unfold SX at h; omega)
theorem sx_ml {M M' : Mem} {b : Nat → Int32} (hM : ML M b) (hF : Fr SX M M') : ML M' b := ml_fr hM hF (fun q k h => by unfold SX at h; omega)
def SX0 : Nat → Nat → Prop := fun q k => (q = 255 ∧ 16 ≤ k ∧ k ≤ 18) ∨ q = 259 ∨ q = 260
theorem x0 {M M' : Mem} (h : Fr SX0 M M') : Fr SX M M' := fr_mono h (fun q k hh => by unfold SX0 at hh; unfold SX; omega)
theorem sm_sx {M M' : Mem} (h : Fr SM M M') : Fr SX0 M M' := fr_mono h (fun q k hh => Or.inl hh)
/-- the model, a log at hand -/
def MB (M : Mem) (a : Nat → Nat) (b : Nat → Int32) : Prop := MO M a ∧ ML M b
theorem sx_mb {M M' : Mem} {a : Nat → Nat} {b : Nat → Int32} (h : MB M a b) (hF : Fr SX M M') : MB M' a b := ⟨sx_mo h.1 hF, sx_ml h.2 hF⟩
theorem ml_0 {M : Mem} {b : Nat → Int32} (h : ML M b) : ∃ v, gI M 12 255 35 = some v ∧ aI M 0 256 v = some (b 0) := by
  obtain ⟨p, h1, h2⟩ := ml_rd h
  exact ⟨nI p, h1, h2 0 (by omega)⟩
theorem c_only {M : Mem} {o l n : Nat} {a : Nat → Nat} {b : Nat → Int32} (hC : CO M o a) (hO : OkO a) (hL : CL M l b) (hb : OL b n) : ∃ t, f_X4_tellsOnlyOf M l o = some (bI t) ∧ (t = true ↔ LTh a b n) := by
  have h8 := hO.1.1
  obtain ⟨hn, b0, hb⟩ := hb
  obtain ⟨r, e, t, h1, h2⟩ := iter_rel (f := fun s : Int32 => f_X4_tellsOnlyOf_B2 M l o s) n (fun i s => s = nI i ∧ LTh a b i) (fun r => ∃ t, (r = if t = true then .inr () else .inl ()) ∧ (t = true ↔ LTh a b n)) (fun i s hi ⟨hs1, hs2⟩ => by
    subst hs1
    obtain ⟨r1, r2, r3⟩ := cl_at hL b0 hn hi
    obtain ⟨⟨g1, g2⟩, g3⟩ := hb i hi
    have no : ¬ (dd b i < a 0 ∧ (b (3 + 4 * i) = -1 ∨ ∃ w, w < a 0 ∧ b (3 + 4 * i) = nI w)) → ∃ t, ((.inl () : Unit ⊕ Unit) = if t = true then .inr () else .inl ()) ∧ (t = true ↔ LTh a b n) := fun h => ⟨false, rfl, ⟨fun hh => (by cases hh), fun hh => absurd (hh i hi) h⟩⟩
    have ye : dd b i < a 0 ∧ (b (3 + 4 * i) = -1 ∨ ∃ w, w < a 0 ∧ b (3 + 4 * i) = nI w) → LTh a b (i + 1) := fun h k hk => by
      by_cases e : k = i
      · rw [e]; exact h
      · exact hs2 k (by omega)
    unfold f_X4_tellsOnlyOf_B2
    rw [cl_g0 hL, bb_some, b0, if_neg (nI_ge hi (by omega)), (cl_r hL).1, bb_some, r1, bb_some, ob_at (co_shp hC), bb_some, g2, nI_1]
    by_cases hd : dd b i < a 0
    · rw [c_hasDesk hC hO hd, bb_some, if_neg (by decide), (cl_r hL).2.1, bb_some, r2, bb_some, bb_some, r2, bb_some, bb_some]
      rcases g3 with ⟨_, g4, _⟩ | ⟨_, w, q, w7, _, _, g4, _⟩
      · rw [if_pos g4]
        exact Or.inl ⟨_, rfl, rfl, ye ⟨hd, Or.inl g4⟩⟩
      · rw [g4, if_neg (nI_nm1 (by omega))]
        by_cases hw : w < a 0
        · rw [c_hasDesk hC hO hw, bb_some, if_neg (by decide)]
          exact Or.inl ⟨_, rfl, rfl, ye ⟨hd, Or.inr ⟨w, hw, g4⟩⟩⟩
        · rw [c_noDesk hC (Or.inr (nI_le (by omega) (by omega))), bb_some, if_pos rfl]
          refine Or.inr ⟨_, rfl, no (fun hh => ?_)⟩
          rcases hh.2 with h | ⟨v, hv, h⟩
          · rw [g4] at h; exact nI_nm1 (by omega) h
          · rw [g4] at h; have := (nI_eq (by omega) (by omega)).mp h; omega
    · rw [c_noDesk hC (Or.inr (nI_le (by omega) (by omega))), bb_some, if_pos rfl]
      exact Or.inr ⟨_, rfl, no (fun hh => hd hh.1)⟩) (fun s ⟨hs1, hs2⟩ => by
    subst hs1
    refine ⟨.inr (), ?_, true, rfl, ⟨fun _ => hs2, fun _ => rfl⟩⟩
    unfold f_X4_tellsOnlyOf_B2
    rw [cl_g0 hL, bb_some, b0, if_pos (nI_le (Nat.le_refl _) (by omega))]) 1048576 0 0 (by omega) ⟨rfl, fun k hk => absurd hk (by omega)⟩ (by omega)
  have e : f_X4_tellsOnlyOf_L2 M l o 0 = some r := e
  refine ⟨t, ?_, h2⟩
  rw [f_X4_tellsOnlyOf, e, bb_some, h1]
  cases t <;> rfl
theorem z4 (p j k : Nat) : nI p + nI j + (4 : Int32) * nI k = nI (p + (j + 4 * k)) := by
  show nI p + nI j + nI 4 * nI k = _
  rw [pk_mul, nI_add, nI_add]; congr 1; omega
theorem mo_there {M : Mem} {n : Nat} {a : Nat → Nat} {b : Nat → Int32} (hM : MB M a b) (hO : OkO a) (hb : OL b n) : ∃ t, f_X12_areThere M 255 = some (bI t) ∧ (t = true ↔ LTh a b n) := by
  have h8 := hO.1.1
  obtain ⟨hn, b0, hb⟩ := hb
  obtain ⟨p, q1, q2⟩ := ml_rd hM.2
  have q0 : aI M 0 256 (nI p) = some (nI n) := by rw [← b0]; exact q2 0 (by omega)
  obtain ⟨r, e, t, h1, h2⟩ := iter_rel (f := fun s : Int32 × Int32 => f_X12_areThere_B4 M 255 s.1 s.2) n (fun i s => (∃ t, s.1 = bI t ∧ (t = true ↔ LTh a b i)) ∧ s.2 = nI i) (fun r => ∃ t, r = bI t ∧ (t = true ↔ LTh a b n)) (fun i s hi ⟨⟨t, hs1, hs2⟩, hs3⟩ => by
    obtain ⟨s1, s2⟩ := s
    have hs1 : s1 = bI t := hs1
    have hs3 : s2 = nI i := hs3
    subst hs1 hs3
    obtain ⟨⟨g1, g2⟩, g3⟩ := hb i hi
    have no : ¬ (dd b i < a 0 ∧ (b (3 + 4 * i) = -1 ∨ ∃ w, w < a 0 ∧ b (3 + 4 * i) = nI w)) → ∃ t, (0 : Int32) = bI t ∧ (t = true ↔ LTh a b (i + 1)) := fun h => ⟨false, rfl, ⟨fun hh => (by cases hh), fun hh => absurd (hh i (by omega)) h⟩⟩
    have r1 : aI M 0 256 (nI p + 2 + (4 : Int32) * nI i) = some (nI (dd b i)) := by
      have := z4 p 2 i
      rw [show (2 : Int32) = nI 2 from rfl, this, q2 _ (by omega), ← g2]
    have r2 : aI M 0 256 (nI p + 3 + (4 : Int32) * nI i) = some (b (3 + 4 * i)) := by
      have := z4 p 3 i
      rw [show (3 : Int32) = nI 3 from rfl, this, q2 _ (by omega)]
    refine Or.inl ?_
    show ∃ s' : Int32 × Int32, f_X12_areThere_B4 M 255 (bI t) (nI i) = some (.inl s') ∧ _
    unfold f_X12_areThere_B4
    rw [m_r0 hM.1.1, bb_some, q1, bb_some, q0, bb_some, if_neg (nI_ge hi (by omega)), nI_1]
    cases t with
    | false =>
      rw [if_pos (by rfl)]
      exact ⟨_, rfl, ⟨false, rfl, ⟨fun hh => (by cases hh), fun hh => hs2.mpr (fun k hk => hh k (by omega))⟩⟩, rfl⟩
    | true =>
      have hs2 := hs2.mp rfl
      have ye : dd b i < a 0 ∧ (b (3 + 4 * i) = -1 ∨ ∃ w, w < a 0 ∧ b (3 + 4 * i) = nI w) → ∃ t, (1 : Int32) = bI t ∧ (t = true ↔ LTh a b (i + 1)) := fun h => ⟨true, rfl, ⟨fun _ k hk => by
        by_cases e : k = i
        · rw [e]; exact h
        · exact hs2 k (by omega), fun _ => rfl⟩⟩
      rw [if_neg (by decide), bb_some, bb_some, r1, bb_some, mo_ob hM.1, bb_some]
      by_cases hd : dd b i < a 0
      · rw [mo_isDesk hM.1 hO hd, bb_some, if_neg (by decide), bb_some, bb_some, r2, bb_some, mo_g12 hM.1, bb_some]
        rcases g3 with ⟨_, g4, _⟩ | ⟨_, w, q, w7, _, _, g4, _⟩
        · rw [g4, if_neg (neg_nle (by decide) (by omega))]
          exact ⟨_, rfl, ye ⟨hd, Or.inl g4⟩, rfl⟩
        · rw [g4]
          by_cases hw : w < a 0
          · rw [if_neg (nI_ge hw (by omega))]
            exact ⟨_, rfl, ye ⟨hd, Or.inr ⟨w, hw, g4⟩⟩, rfl⟩
          · rw [if_pos (nI_le (by omega) (by omega))]
            refine ⟨_, rfl, no (fun hh => ?_), rfl⟩
            rcases hh.2 with h | ⟨v, hv, h⟩
            · rw [g4] at h; exact nI_nm1 (by omega) h
            · rw [g4] at h; have := (nI_eq (by omega) (by omega)).mp h; omega
      · rw [mo_noDesk hM.1 hO (Or.inr (nI_le (by omega) (by omega))), bb_some, if_pos rfl]
        exact ⟨_, rfl, no (fun hh => hd hh.1), rfl⟩) (fun s ⟨⟨t, hs1, hs2⟩, hs3⟩ => by
    obtain ⟨s1, s2⟩ := s
    have hs3 : s2 = nI n := hs3
    subst hs3
    exact ⟨s1, by show f_X12_areThere_B4 M 255 s1 (nI n) = _; rw [f_X12_areThere_B4, m_r0 hM.1.1, bb_some, q1, bb_some, q0, bb_some, if_pos (nI_le (Nat.le_refl _) (by omega))], t, hs1, hs2⟩) 1048576 0 (1, 0) (by omega) ⟨⟨true, rfl, ⟨fun _ k hk => absurd hk (by omega), fun _ => rfl⟩⟩, rfl⟩ (by omega)
  have e : f_X12_areThere_L4 M 255 1 0 = some r := e
  refine ⟨t, ?_, h2⟩
  rw [f_X12_areThere, e, bb_some, h1, zr_at (by cases t <;> decide), bb_some]
theorem mo_tryD {M : Mem} {m d : Nat} {a : Nat → Nat} (hM : MO M a) (hO : OkO a) (hm : m < 2 ^ 31) (hd : d < a 0) : ∃ M', f_X12_triesDeaf M 255 (nI m) (nI d) = some M' ∧ LM M' (LF a m d) ∧ Fr SX0 M M' := by
  have h8 := hO.1.1
  obtain ⟨B, eB, hB, fB⟩ := iter_rel (f := fun s : Int32 × Mem => f_X12_triesDeaf_B2 s.2 255 (nI m) (nI d) s.1) (a 0) (fun i s => s.1 = nI i ∧ (∀ j, j < i → s.2.1 260 j = nI (kdO (dfa a m) j) ∧ s.2.1 259 j = nI 0) ∧ Fr SX0 M s.2) (fun r => (∀ j, j < a 0 → r.1 260 j = nI (kdO (dfa a m) j) ∧ r.1 259 j = nI 0) ∧ Fr SX0 M r) (fun i s hi ⟨hs1, hs3, hs4⟩ => by
    obtain ⟨s1, s2⟩ := s
    have hs1 : s1 = nI i := hs1
    subst hs1
    have hs3 : ∀ j, j < i → s2.1 260 j = nI (kdO (dfa a m) j) ∧ s2.1 259 j = nI 0 := hs3
    have hs4 : Fr SX0 M s2 := hs4
    have hM2 := sx_mo hM (x0 hs4)
    let A := wI s2 259 i (nI 0)
    have hSA : Sk A := hM2.1
    have ek : kdO (dfa a m) i = if m.testBit i = true then 2 else 0 := dfa_k a m (by omega)
    refine Or.inl ⟨(nI (i + 1), wI A 260 i (nI (kdO (dfa a m) i))), ?_, rfl, fun j hj => ?_, fr_put (fr_put hs4 (Or.inr (Or.inl rfl))) (Or.inr (Or.inr rfl))⟩
    · show f_X12_triesDeaf_B2 s2 255 (nI m) (nI d) (nI i) = _
      unfold f_X12_triesDeaf_B2 f_X12_triesDeaf_J35
      rw [mo_g12 hM2, bb_some, if_neg (nI_ge hi (by omega)), m_r14 hM2.1, bb_some, sI_at (m_s259 hM2.1) (by omega) (by omega), nar0, bb_some]
      show ((gR A 12 255 15).bind fun v5 => (f_X12_holds A (nI m) (nI i)).bind fun v6 => (if v6 = 0 then (sI A 0 v5 (nI i) 0).bind fun M1 => some (Sum.inl (nI i + 1, M1)) else (sI A 0 v5 (nI i) 2).bind fun M1 => some (Sum.inl (nI i + 1, M1)))) = _
      rw [m_r15 hSA, bb_some, m_holds A hm (by omega), bb_some, sI_at (m_s260 hSA) (by omega) (by omega), nar0, bb_some, sI_at (m_s260 hSA) (by omega) (by omega), nar0, bb_some, nI_1, ek]
      by_cases h : m.testBit i = true
      · rw [if_pos h, if_neg (by decide), if_pos h]; rfl
      · rw [if_neg h, if_pos rfl, if_neg h]; rfl
    · show (wI (wI s2 259 i _) 260 i _).1 260 j = _ ∧ (wI (wI s2 259 i _) 260 i _).1 259 j = _
      rw [wI_rd, wI_rd, wI_rd, wI_rd]
      by_cases e : j = i
      · subst e
        rw [if_pos ⟨rfl, rfl⟩, if_neg (by omega), if_pos ⟨rfl, rfl⟩]
        exact ⟨rfl, rfl⟩
      · rw [if_neg (by omega), if_neg (by omega), if_neg (by omega), if_neg (by omega)]; exact hs3 j (by omega)) (fun s ⟨hs1, hs3, hs4⟩ => by
    obtain ⟨s1, s2⟩ := s
    have hs1 : s1 = nI (a 0) := hs1
    subst hs1
    have hs4 : Fr SX0 M s2 := hs4
    exact ⟨s2, by simp [f_X12_triesDeaf_B2, mo_g12 (sx_mo hM (x0 hs4))], hs3, hs4⟩) 1048576 0 (0, M) (by omega) ⟨rfl, fun j hj => absurd hj (by omega), fr_refl⟩ (by omega)
  have eB : f_X12_triesDeaf_L2 M 255 (nI m) (nI d) 0 = some B := eB
  have hMB := sx_mo hM (x0 fB)
  have hR : MR B a (kdO (dfa a m)) (fun _ => 0) := ⟨hMB, fun s hs => ⟨hB s hs, by unfold kdO; rw [dfa_k a m (by omega)]; split <;> omega, by show (0 : Nat) < 1000; omega⟩⟩
  obtain ⟨D, eD, lD, fD⟩ := mo_rings hR hO hd (m := clr (2 ^ a 0 - 1) d) clr_lt
  refine ⟨D, ?_, lD, fr_trans fB (sm_sx fD)⟩
  rw [f_X12_triesDeaf, eB, bb_some, mo_g12 hMB, bb_some, mo_ob hMB, bb_some, all_sl (by omega), clr_at _ (by omega), eD, bb_some]
theorem mo_isSo {M : Mem} {m n : Nat} {a : Nat → Nat} {b : Nat → Int32} (hM : MB M a b) (hO : OkO a) (hb : OL b n) (hT : LTh a b n) (hm : m < 2 ^ 31) : ∃ M', f_X12_isSo M 255 (nI m) = some (bI (agr a b n m), M') ∧ Fr SX0 M M' := by
  have h8 := hO.1.1
  obtain ⟨hn, b0, hb⟩ := hb
  obtain ⟨R, e, h1, h2⟩ := iter_rel (f := fun s : Int32 × Int32 × Mem => f_X12_isSo_B4 s.2.2 255 (nI m) s.1 s.2.1) n (fun i s => s.1 = bI (agr a b i m) ∧ s.2.1 = nI i ∧ Fr SX0 M s.2.2) (fun r => r.1 = bI (agr a b n m) ∧ Fr SX0 M r.2) (fun i s hi ⟨hs1, hs2, hs3⟩ => by
    obtain ⟨s1, s2, s3⟩ := s
    have hs1 : s1 = bI (agr a b i m) := hs1
    have hs2 : s2 = nI i := hs2
    subst hs1 hs2
    have hs3 : Fr SX0 M s3 := hs3
    have hM3 := sx_mb hM (x0 hs3)
    obtain ⟨p, q1, q2⟩ := ml_rd hM3.2
    have q0 : aI s3 0 256 (nI p) = some (nI n) := by rw [← b0]; exact q2 0 (by omega)
    obtain ⟨⟨g1, g2⟩, g3⟩ := hb i hi
    obtain ⟨t1, t2⟩ := hT i hi
    obtain ⟨D, eD, lD, fD⟩ := mo_tryD (m := m) hM3.1 hO hm t1
    have hMD := sx_mb hM3 (x0 fD)
    have hSD := hMD.1.1
    obtain ⟨p', q1', q2'⟩ := ml_rd hMD.2
    have pp : nI p' = nI p := by
      have : gI D 12 255 35 = gI s3 12 255 35 := by rw [gI_at (m_shp hSD), gI_at (m_shp hM3.1.1), fD.2 255 35 (by unfold SX0; omega)]
      rw [q1, q1'] at this
      exact Option.some.inj this
    have z1 : nI p + 1 + (4 : Int32) * nI i = nI (p + (1 + 4 * i)) := z4 p 1 i
    have e8 : aI s3 0 256 (nI p + 1 + (4 : Int32) * nI i + 1) = some (nI (dd b i)) := by
      rw [z1, nI_1, show p + (1 + 4 * i) + 1 = p + (2 + 4 * i) by omega, q2 _ (by omega), ← g2]
    have zz : ∀ j, nI (p + j) = nI (p' + j) := fun j => by rw [← nI_add, ← nI_add, pp]
    have e11 : aI D 0 256 (nI p + 1 + (4 : Int32) * nI i) = some (b (1 + 4 * i)) := by rw [z1, zz, q2' _ (by omega)]
    have e15 : aI D 0 256 (nI p + 1 + (4 : Int32) * nI i + 2) = some (b (3 + 4 * i)) := by
      rw [z1, show nI (p + (1 + 4 * i)) + 2 = nI (p + (1 + 4 * i) + 2) from nI_add _ 2, show p + (1 + 4 * i) + 2 = p + (3 + 4 * i) by omega, zz, q2' _ (by omega)]
    have e19 : aI D 0 256 (nI p + 1 + (4 : Int32) * nI i + 3) = some (b (4 + 4 * i)) := by
      rw [z1, show nI (p + (1 + 4 * i)) + 3 = nI (p + (1 + 4 * i) + 3) from nI_add _ 3, show p + (1 + 4 * i) + 3 = p + (4 + 4 * i) by omega, zz, q2' _ (by omega)]
    have ags : agr a b (i + 1) m = (agr a b i m && aok a b m i) := by
      unfold agr
      by_cases h : aok a b m i = true
      · rw [h, Bool.and_true]
        congr 1
        apply propext
        refine ⟨fun hh k hk => hh k (by omega), fun hh k hk => ?_⟩
        by_cases e : k = i
        · rw [e]; exact h
        · exact hh k (by omega)
      · rw [show aok a b m i = false by simpa using h, Bool.and_false]
        exact decide_eq_false (fun hh => h (hh i (by omega)))
    show (∃ s' : Int32 × Int32 × Mem, f_X12_isSo_B4 s3 255 (nI m) (bI (agr a b i m)) (nI i) = some (.inl s') ∧ _) ∨ (∃ r, f_X12_isSo_B4 s3 255 (nI m) (bI (agr a b i m)) (nI i) = some (.inr r) ∧ _)
    unfold f_X12_isSo_B4
    rw [m_r0 hM3.1.1, bb_some, q1, bb_some, q0, bb_some, if_neg (nI_ge hi (by omega))]
    by_cases hag : agr a b i m = true
    · rw [hag, if_neg (by decide)]
      rw [hag, Bool.true_and] at ags
      refine Or.inl ⟨(bI (aok a b m i), nI (i + 1), D), ?_, by show bI (aok a b m i) = bI (agr a b (i + 1) m); rw [ags], rfl, fr_trans hs3 fD⟩
      rw [bb_some, bb_some, e8, bb_some, mo_ob hM3.1, bb_some, eD, bb_some]
      simp only [m_r0 hSD, bb_some, e11, gI_at (m_shp hSD), e15, e19]
      rw [nI_1]
      have lk := LF_ok (m := m) hO t1
      unfold aok
      generalize LF a m (dd b i) = L at lD lk
      cases L with
      | none =>
        have l16 : D.1 255 16 = -1 := lD.1
        rw [l16]
        rcases g3 with ⟨g5, g4, _⟩ | ⟨g5, w, q, w7, _, _, g4, _⟩
        · rw [g5, if_neg (by decide), if_pos rfl]
          show _ = some (Sum.inl (bI (decide (b (3 + 4 * i) = -1)), _))
          rw [decide_eq_true g4]; rfl
        · rw [g5, if_pos rfl, g4, if_neg (fun hh => nI_nm1 (show w < 2 ^ 31 by omega) hh.symm)]
          show _ = some (Sum.inl (bI (decide (nI w = -1)), _))
          rw [decide_eq_false (nI_nm1 (by omega))]; rfl
      | some x =>
        obtain ⟨w', r, t⟩ := x
        have l16 : D.1 255 16 = nI w' := lD.1
        have l17 : D.1 255 17 = nI r := lD.2.1
        have lk1 := lk.1
        rw [l16, l17]
        show _ = some (Sum.inl (bI (decide (b (3 + 4 * i) = nI w' ∧ b (4 + 4 * i) = nI r)), _))
        rcases g3 with ⟨g5, g4, _⟩ | ⟨g5, w, q, w7, _, _, g4, g6⟩
        · rw [g5, if_neg (by decide), if_neg (nI_nm1 (by omega)), decide_eq_false (fun hh => by have := hh.1; rw [g4] at this; exact nI_nm1 (show w' < 2 ^ 31 by omega) this.symm)]; rfl
        · rw [g5, if_pos rfl]
          by_cases hw : b (3 + 4 * i) = nI w'
          · rw [if_pos hw.symm]
            by_cases hr : b (4 + 4 * i) = nI r
            · rw [if_pos hr.symm, decide_eq_true ⟨hw, hr⟩]; rfl
            · rw [if_neg (fun hh => hr hh.symm), decide_eq_false (fun hh => hr hh.2)]; rfl
          · rw [if_neg (fun hh => hw hh.symm), decide_eq_false (fun hh => hw hh.1)]; rfl
    · have hag' : agr a b i m = false := by simpa using hag
      rw [hag', if_pos (by rfl)]
      refine Or.inr ⟨_, rfl, ?_, hs3⟩
      have : agr a b n m = false := by
        unfold agr at hag' ⊢
        have := of_decide_eq_false hag'
        exact decide_eq_false (fun hh => this (fun k hk => hh k (by omega)))
      rw [this]) (fun s ⟨hs1, hs2, hs3⟩ => by
    obtain ⟨s1, s2, s3⟩ := s
    have hs2 : s2 = nI n := hs2
    subst hs2
    have hs3 : Fr SX0 M s3 := hs3
    have hM3 := sx_mb hM (x0 hs3)
    obtain ⟨p, q1, q2⟩ := ml_rd hM3.2
    have q0 : aI s3 0 256 (nI p) = some (nI n) := by rw [← b0]; exact q2 0 (by omega)
    exact ⟨(s1, s3), by show f_X12_isSo_B4 s3 255 (nI m) s1 (nI n) = _; rw [f_X12_isSo_B4, m_r0 hM3.1.1, bb_some, q1, bb_some, q0, bb_some, if_pos (nI_le (Nat.le_refl _) (by omega))], hs1, hs3⟩) 1048576 0 (1, 0, M) (by omega) ⟨by show (1 : Int32) = bI (agr a b 0 m); rw [show agr a b 0 m = true from decide_eq_true (fun k hk => absurd hk (by omega))]; rfl, rfl, fr_refl⟩ (by omega)
  have e : f_X12_isSo_L4 M 255 (nI m) 1 0 = some R := e
  refine ⟨R.2, ?_, h2⟩
  rw [f_X12_isSo, e, bb_some, h1, zr_at (by cases agr a b n m <;> decide), bb_some]
theorem mo_sl {M : Mem} {a : Nat → Nat} (hM : MO M a) (hO : OkO a) : gI M 12 255 12 = some (nI (a 0)) ∧ (1 : Int32) <<< (nI (a 0) &&& 31) = nI (2 ^ a 0) := by
  have h8 := hO.1.1
  exact ⟨mo_g12 hM, one_sl (by omega)⟩
section
variable {M : Mem} {n : Nat} {a : Nat → Nat} {b : Nat → Int32}
theorem mo_fitting (hM : MB M a b) (hO : OkO a) (hb : OL b n) (hT : LTh a b n) : ∃ M', f_X12_fitting M 255 = some (nI (cb (agr a b n) (2 ^ a 0)), M') ∧ Fr SX M M' := by
  have p8 := pw8 hO.1.1
  obtain ⟨R, e, h1, h2⟩ := iter_rel (f := fun s : Int32 × Int32 × Mem => f_X12_fitting_B4 s.2.2 255 s.1 s.2.1) (2 ^ a 0) (fun i s => s.1 = nI (cb (agr a b n) i) ∧ s.2.1 = nI i ∧ Fr SX M s.2.2) (fun r => r.1 = nI (cb (agr a b n) (2 ^ a 0)) ∧ Fr SX M r.2) (fun i s hi ⟨hs1, hs2, hs3⟩ => by
    obtain ⟨s1, s2, s3⟩ := s
    have hs1 : s1 = nI (cb (agr a b n) i) := hs1
    have hs2 : s2 = nI i := hs2
    subst hs1 hs2
    have hs3 : Fr SX M s3 := hs3
    have hM3 := sx_mb hM hs3
    obtain ⟨D, eD, fD⟩ := mo_isSo hM3 hO hb hT (show i < 2 ^ 31 by omega)
    refine Or.inl ⟨(nI (cb (agr a b n) (i + 1)), nI (i + 1), D), ?_, rfl, rfl, fr_trans hs3 (x0 fD)⟩
    show f_X12_fitting_B4 s3 255 (nI (cb (agr a b n) i)) (nI i) = _
    unfold f_X12_fitting_B4
    rw [(mo_sl hM3.1 hO).1, bb_some, (mo_sl hM3.1 hO).2, if_neg (nI_ge hi (by omega)), mo_ob hM3.1, bb_some, eD, bb_some, nI_1, cb_st]
    by_cases h : agr a b n i = true
    · rw [h, if_neg (show ¬ bI true = 0 by decide), if_pos rfl, nI_1]
    · rw [show agr a b n i = false by simpa using h, if_pos (by rfl), if_neg (by decide), show nI (cb (agr a b n) i) + 0 = nI (cb (agr a b n) i + 0) from nI_add _ 0, Nat.add_zero]) (fun s ⟨hs1, hs2, hs3⟩ => by
    obtain ⟨s1, s2, s3⟩ := s
    have hs2 : s2 = nI (2 ^ a 0) := hs2
    subst hs2
    have hs3 : Fr SX M s3 := hs3
    have hM3 := sx_mb hM hs3
    exact ⟨(s1, s3), by show f_X12_fitting_B4 s3 255 s1 (nI (2 ^ a 0)) = _; rw [f_X12_fitting_B4, (mo_sl hM3.1 hO).1, bb_some, (mo_sl hM3.1 hO).2, if_pos (nI_le (Nat.le_refl _) (by omega))], hs1, hs3⟩) 1048576 0 (0, 0, M) (Nat.zero_le _) ⟨rfl, rfl, fr_refl⟩ (by omega)
  have e : f_X12_fitting_L4 M 255 0 0 = some R := e
  exact ⟨R.2, by rw [f_X12_fitting, e, bb_some, h1], h2⟩
theorem mo_sure (hM : MB M a b) (hO : OkO a) (hb : OL b n) (hT : LTh a b n) {c : Nat} (hc : c ≤ 1) : ∃ M', f_X12_sureOf M 255 (nI c) = some (ff (agr a b n) (anf c) (2 ^ a 0) (nI (2 ^ a 0 - 1)), M') ∧ Fr SX M M' := by
  have h8 := hO.1.1
  have p8 := pw8 h8
  obtain ⟨R, e, h1, h2⟩ := iter_rel (f := fun s : Int32 × Int32 × Mem => f_X12_sureOf_B11 s.2.2 255 (nI c) s.1 s.2.1) (2 ^ a 0) (fun i s => s.1 = ff (agr a b n) (anf c) i (nI (2 ^ a 0 - 1)) ∧ s.2.1 = nI i ∧ Fr SX M s.2.2) (fun r => r.1 = ff (agr a b n) (anf c) (2 ^ a 0) (nI (2 ^ a 0 - 1)) ∧ Fr SX M r.2) (fun i s hi ⟨hs1, hs2, hs3⟩ => by
    obtain ⟨s1, s2, s3⟩ := s
    have hs1 : s1 = ff (agr a b n) (anf c) i (nI (2 ^ a 0 - 1)) := hs1
    have hs2 : s2 = nI i := hs2
    subst hs2
    have hs3 : Fr SX M s3 := hs3
    have hM3 := sx_mb hM hs3
    obtain ⟨D, eD, fD⟩ := mo_isSo hM3 hO hb hT (show i < 2 ^ 31 by omega)
    refine Or.inl ⟨(ff (agr a b n) (anf c) (i + 1) (nI (2 ^ a 0 - 1)), nI (i + 1), D), ?_, rfl, rfl, fr_trans hs3 (x0 fD)⟩
    show f_X12_sureOf_B11 s3 255 (nI c) s1 (nI i) = _
    unfold f_X12_sureOf_B11
    rw [(mo_sl hM3.1 hO).1, bb_some, (mo_sl hM3.1 hO).2, if_neg (nI_ge hi (by omega)), mo_ob hM3.1, bb_some, eD, bb_some, nI_1, ff_st, ← hs1]
    by_cases h : agr a b n i = true
    · rw [h, if_neg (show ¬ bI true = 0 by decide), if_pos rfl]
      unfold anf
      rcases (show c = 0 ∨ c = 1 by omega) with rfl | rfl
      · rw [if_pos (show nI 0 = 0 from rfl), if_pos rfl]
      · rw [if_neg (show ¬ nI 1 = 0 by decide), if_neg (show ¬ 1 = 0 by omega)]
    · rw [show agr a b n i = false by simpa using h, if_pos (by rfl), if_neg (by decide)]) (fun s ⟨hs1, hs2, hs3⟩ => by
    obtain ⟨s1, s2, s3⟩ := s
    have hs2 : s2 = nI (2 ^ a 0) := hs2
    subst hs2
    have hs3 : Fr SX M s3 := hs3
    have hM3 := sx_mb hM hs3
    exact ⟨(s1, s3), by show f_X12_sureOf_B11 s3 255 (nI c) s1 (nI (2 ^ a 0)) = _; rw [f_X12_sureOf_B11, (mo_sl hM3.1 hO).1, bb_some, (mo_sl hM3.1 hO).2, if_pos (nI_le (Nat.le_refl _) (by omega))], hs1, hs3⟩) 1048576 0 (nI (2 ^ a 0 - 1), 0, M) (Nat.zero_le _) ⟨rfl, rfl, fr_refl⟩ (by omega)
  have e : f_X12_sureOf_L11 M 255 (nI c) (nI (2 ^ a 0 - 1)) 0 = some R := e
  exact ⟨R.2, by rw [f_X12_sureOf, mo_g12 hM.1, bb_some, all_sl (by omega), e, bb_some, h1], h2⟩
theorem mo_great (hM : MB M a b) (hO : OkO a) (hb : OL b n) (hT : LTh a b n) {d : Nat} (hd : d < a 0) : ∃ M', f_X12_greatestOf M 255 (nI d) = some (nI (mx9 (tal a (agr a b n) d)), M') ∧ Fr SX M M' := by
  have h8 := hO.1.1
  have p8 := pw8 h8
  obtain ⟨A, eA, hA, fA⟩ := iter_rel (f := fun s : Int32 × Mem => f_X12_greatestOf_B2 s.2 255 (nI d) s.1) 9 (fun i s => s.1 = nI i ∧ (∀ j, j < i → s.2.1 265 j = nI 0) ∧ Fr SX M s.2) (fun r => (∀ j, j < 9 → r.1 265 j = nI 0) ∧ Fr SX M r) (fun i s hi ⟨hs1, hs3, hs4⟩ => by
    obtain ⟨s1, s2⟩ := s
    have hs1 : s1 = nI i := hs1
    subst hs1
    have hs3 : ∀ j, j < i → s2.1 265 j = nI 0 := hs3
    have hs4 : Fr SX M s2 := hs4
    have hS2 := fr_sk hs4 hM.1.1
    refine Or.inl ⟨(nI (i + 1), wI s2 265 i (nI 0)), ?_, rfl, fun j hj => ?_, fr_put hs4 (Or.inr (Or.inr (Or.inr rfl)))⟩
    · show f_X12_greatestOf_B2 s2 255 (nI d) (nI i) = _
      unfold f_X12_greatestOf_B2
      rw [if_neg (show ¬ 9 ≤ nI i from nI_ge (b := 9) hi (by omega)), m_r36 hS2, bb_some, sI_at (m_s265 hS2) (by omega) (by omega), nar0, bb_some, nI_1, nI_0]
    · show (wI s2 265 i _).1 265 j = _
      rw [wI_rd]
      by_cases e : j = i
      · subst e; rw [if_pos ⟨rfl, rfl⟩]
      · rw [if_neg (by omega)]; exact hs3 j (by omega)) (fun s ⟨hs1, hs3, hs4⟩ => by
    obtain ⟨s1, s2⟩ := s
    have hs1 : s1 = nI 9 := hs1
    subst hs1
    exact ⟨s2, by show f_X12_greatestOf_B2 s2 255 (nI d) (nI 9) = _; rw [f_X12_greatestOf_B2, if_pos (by decide)], hs3, hs4⟩) 1048576 0 (0, M) (by omega) ⟨rfl, fun j hj => absurd hj (by omega), fr_refl⟩ (by omega)
  have eA : f_X12_greatestOf_L2 M 255 (nI d) 0 = some A := eA
  obtain ⟨B, eB, hB, fB⟩ := iter_rel (f := fun s : Int32 × Mem => f_X12_greatestOf_B23 s.2 255 (nI d) s.1) (2 ^ a 0) (fun i s => s.1 = nI i ∧ (∀ q, q < 9 → s.2.1 265 q = nI (ff (agr a b n) (taf a d) i (fun _ => 0) q)) ∧ Fr SX M s.2) (fun r => (∀ q, q < 9 → r.1 265 q = nI (tal a (agr a b n) d q)) ∧ Fr SX M r) (fun i s hi ⟨hs1, hs3, hs4⟩ => by
    obtain ⟨s1, s2⟩ := s
    have hs1 : s1 = nI i := hs1
    subst hs1
    have hs3 : ∀ q, q < 9 → s2.1 265 q = nI (ff (agr a b n) (taf a d) i (fun _ => 0) q) := hs3
    have hs4 : Fr SX M s2 := hs4
    have hM2 := sx_mb hM hs4
    obtain ⟨D, eD, fD⟩ := mo_isSo hM2 hO hb hT (show i < 2 ^ 31 by omega)
    show (∃ s' : Int32 × Mem, f_X12_greatestOf_B23 s2 255 (nI d) (nI i) = some (.inl s') ∧ _) ∨ _
    unfold f_X12_greatestOf_B23
    rw [(mo_sl hM2.1 hO).1, bb_some, (mo_sl hM2.1 hO).2, if_neg (nI_ge hi (by omega)), mo_ob hM2.1, bb_some, eD, bb_some]
    refine Or.inl ?_
    have hMD := sx_mb hM2 (x0 fD)
    by_cases h : agr a b n i = true
    · rw [h, if_neg (show ¬ bI true = 0 by decide)]
      obtain ⟨E, eE, lE, fE⟩ := mo_tryD (m := i) hMD.1 hO (by omega) hd
      have hME := sx_mb hMD (x0 fE)
      have hSE := hME.1.1
      have fDE : Fr SX M E := fr_trans hs4 (fr_trans (x0 fD) (x0 fE))
      have hw := wh_lt (x := i) hO hd
      have r265 : ∀ q, q < 9 → E.1 265 q = nI (ff (agr a b n) (taf a d) i (fun _ => 0) q) := fun q hq => by
        rw [fE.2 265 q (by unfold SX0; omega), fD.2 265 q (by unfold SX0; omega)]; exact hs3 q hq
      have J : f_X12_greatestOf_J71 E 255 (nI d) (nI i) 265 (nI (wh a d i)) = some (.inl (nI (i + 1), wI E 265 (wh a d i) (nI (ff (agr a b n) (taf a d) i (fun _ => 0) (wh a d i) + 1)))) := by
        unfold f_X12_greatestOf_J71
        rw [aI_at (m_s265 hSE) hw (by omega) (by omega), r265 _ hw, bb_some, nI_1, sI_at (m_s265 hSE) hw (by omega), nar0, bb_some, nI_1]
      refine ⟨(nI (i + 1), wI E 265 (wh a d i) (nI (ff (agr a b n) (taf a d) i (fun _ => 0) (wh a d i) + 1))), ?_, rfl, fun q hq => ?_, fr_put fDE (Or.inr (Or.inr (Or.inr rfl)))⟩
      · show ((ob D 12 255).bind fun _ => (f_X12_triesDeaf D 255 (nI i) (nI d)).bind fun z5 => _) = _
        rw [mo_ob hMD.1, bb_some, eE, bb_some, m_r36 hSE, bb_some, gI_at (m_shp hSE), bb_some, bb_some, ← J]
        have lk := LF_ok (m := i) hO hd
        unfold wh
        cases eL : LF a i d with
        | none =>
          rw [eL] at lE
          have l16 : E.1 255 16 = -1 := lE.1
          rw [l16, if_pos rfl]
          rfl
        | some L =>
          obtain ⟨w, r, q⟩ := L
          rw [eL] at lE lk
          have l16 : E.1 255 16 = nI w := lE.1
          rw [l16, if_neg (nI_nm1 (by have := lk.1; omega))]
      · show (wI E 265 _ _).1 265 q = nI (ff (agr a b n) (taf a d) (i + 1) (fun _ => 0) q)
        rw [ff_st, if_pos h, wI_rd]
        unfold taf
        by_cases e : q = wh a d i
        · rw [if_pos ⟨rfl, e⟩, e, up_s]
        · rw [if_neg (fun hh => e hh.2), up_n _ _ e]; exact r265 q hq
    · rw [show agr a b n i = false by simpa using h, if_pos (by rfl), nI_1]
      refine ⟨_, rfl, rfl, fun q hq => ?_, fr_trans hs4 (x0 fD)⟩
      show D.1 265 q = nI (ff (agr a b n) (taf a d) (i + 1) (fun _ => 0) q)
      rw [ff_st, if_neg h, fD.2 265 q (by unfold SX0; omega)]; exact hs3 q hq) (fun s ⟨hs1, hs3, hs4⟩ => by
    obtain ⟨s1, s2⟩ := s
    have hs1 : s1 = nI (2 ^ a 0) := hs1
    subst hs1
    have hs4 : Fr SX M s2 := hs4
    have hM3 := sx_mb hM hs4
    exact ⟨s2, by show f_X12_greatestOf_B23 s2 255 (nI d) (nI (2 ^ a 0)) = _; rw [f_X12_greatestOf_B23, (mo_sl hM3.1 hO).1, bb_some, (mo_sl hM3.1 hO).2, if_pos (nI_le (Nat.le_refl _) (by omega))], hs3, hs4⟩) 1048576 0 (0, A) (Nat.zero_le _) ⟨rfl, hA, fA⟩ (by omega)
  have eB : f_X12_greatestOf_L23 A 255 (nI d) 0 = some B := eB
  have hSB := fr_sk fB hM.1.1
  have e := (iter_for (f := fun s : Int32 × Int32 => f_X12_greatestOf_B86 B 255 s.1 s.2) 9 (fun s v => if v < tal a (agr a b n) d s then tal a (agr a b n) d s else v) (fun i v => (nI v, nI i)) nI (fun _ v => v ≤ 256) (fun i v hi hv => by
    have tb : tal a (agr a b n) d i ≤ 2 ^ a 0 := tal_bd hO (2 ^ a 0) i
    refine ⟨?_, by split <;> omega⟩
    show f_X12_greatestOf_B86 B 255 (nI v) (nI i) = _
    unfold f_X12_greatestOf_B86
    rw [if_neg (show ¬ 9 ≤ nI i from nI_ge (b := 9) hi (by omega)), m_r36 hSB, bb_some, aI_at (m_s265 hSB) hi (by omega) (by omega), hB i hi, bb_some, bb_some, aI_at (m_s265 hSB) hi (by omega) (by omega), hB i hi, bb_some, nI_1]
    by_cases h : v < tal a (agr a b n) d i
    · rw [if_neg (nI_ge h (by omega)), if_pos h]
    · rw [if_pos (nI_le (by omega) (by omega)), if_neg h]) (fun v hv => by
    show f_X12_greatestOf_B86 B 255 (nI v) (nI 9) = _
    rw [f_X12_greatestOf_B86, if_pos (by decide)]) 0 (by omega) 1048576 (by omega)).1
  have e : f_X12_greatestOf_L86 B 255 0 0 = some (nI (mx9 (tal a (agr a b n) d))) := e
  exact ⟨B, by rw [f_X12_greatestOf, eA, bb_some, eB, bb_some, e, bb_some], fB⟩
theorem mo_try (hM : MB M a b) (hO : OkO a) (hb : OL b n) (hT : LTh a b n) : ∃ M', f_X12_tryOf M 255 = some (oI (fo (trf a (agr a b n)) (a 0) (none, 999)).1, M') ∧ Fr SX M M' := by
  have h8 := hO.1.1
  obtain ⟨R, e, h1, h2⟩ := iter_rel (f := fun s : Int32 × Int32 × Int32 × Mem => f_X12_tryOf_B8 s.2.2.2 255 s.1 s.2.1 s.2.2.1) (a 0) (fun i s => (s.1 = oI (fo (trf a (agr a b n)) i (none, 999)).1 ∧ s.2.1 = nI (fo (trf a (agr a b n)) i (none, 999)).2 ∧ (fo (trf a (agr a b n)) i (none, 999)).2 ≤ 999) ∧ s.2.2.1 = nI i ∧ Fr SX M s.2.2.2) (fun r => r.1 = oI (fo (trf a (agr a b n)) (a 0) (none, 999)).1 ∧ Fr SX M r.2) (fun i s hi ⟨⟨hs1, hs2, hs6⟩, hs3, hs4⟩ => by
    obtain ⟨s1, s2, s3, s4⟩ := s
    have hs1 : s1 = oI (fo (trf a (agr a b n)) i (none, 999)).1 := hs1
    have hs2 : s2 = nI (fo (trf a (agr a b n)) i (none, 999)).2 := hs2
    have hs3 : s3 = nI i := hs3
    subst hs3
    have hs4 : Fr SX M s4 := hs4
    have hM4 := sx_mb hM hs4
    obtain ⟨D, eD, fD⟩ := mo_great hM4 hO hb hT hi
    have hb' := mx9_bd (p := agr a b n) (d := i) hO
    have st : fo (trf a (agr a b n)) (i + 1) (none, 999) = trf a (agr a b n) i (fo (trf a (agr a b n)) i (none, 999)) := rfl
    show (∃ s' : Int32 × Int32 × Int32 × Mem, f_X12_tryOf_B8 s4 255 s1 s2 (nI i) = some (.inl s') ∧ _) ∨ _
    unfold f_X12_tryOf_B8
    rw [mo_g12 hM4.1, bb_some, if_neg (nI_ge hi (by omega)), mo_ob hM4.1, bb_some, eD, bb_some, nI_1, st, show trf a (agr a b n) i (fo (trf a (agr a b n)) i (none, 999)) = if mx9 (tal a (agr a b n) i) < (fo (trf a (agr a b n)) i (none, 999)).2 then (some i, mx9 (tal a (agr a b n) i)) else fo (trf a (agr a b n)) i (none, 999) from rfl, show s2 = nI (fo (trf a (agr a b n)) i (none, 999)).2 from hs2]
    refine Or.inl ?_
    by_cases hlt : mx9 (tal a (agr a b n) i) < (fo (trf a (agr a b n)) i (none, 999)).2
    · rw [if_pos (nI_lt hlt (by omega)), if_pos hlt]
      exact ⟨_, rfl, ⟨rfl, rfl, by show mx9 (tal a (agr a b n) i) ≤ 999; omega⟩, rfl, fr_trans hs4 fD⟩
    · rw [if_neg (nI_nlt (by omega) (by omega)), if_neg hlt]
      exact ⟨_, rfl, ⟨hs1, rfl, hs6⟩, rfl, fr_trans hs4 fD⟩) (fun s ⟨⟨hs1, hs2, hs6⟩, hs3, hs4⟩ => by
    obtain ⟨s1, s2, s3, s4⟩ := s
    have hs3 : s3 = nI (a 0) := hs3
    subst hs3
    have hs4 : Fr SX M s4 := hs4
    exact ⟨(s1, s4), by simp [f_X12_tryOf_B8, mo_g12 (sx_mb hM hs4).1], hs1, hs4⟩) 1048576 0 (-1, 999, 0, M) (by omega) ⟨⟨rfl, rfl, Nat.le_refl _⟩, rfl, fr_refl⟩ (by omega)
  have e : f_X12_tryOf_L8 M 255 (-1) 999 0 = some R := e
  exact ⟨R.2, by rw [f_X12_tryOf, e, bb_some, h1], h2⟩
theorem mo_blB (hM : MB M a b) (hO : OkO a) (hb : OL b n) (hT : LTh a b n) (x3 : Int32) {i : Nat} {s1 : Int32} {v : Option Nat} (hi : i < 2 ^ a 0) (hs : smI (2 ^ a 0) v s1) : ∃ t M', f_X12_blame_B32 M 255 x3 s1 (nI i) = some (.inl (t, nI (i + 1), M')) ∧ smI (2 ^ a 0) (if agr a b n i = true then smf i v else v) t ∧ Fr SX M M' := by
  have p8 := pw8 hO.1.1
  obtain ⟨D, eD, fD⟩ := mo_isSo hM hO hb hT (show i < 2 ^ 31 by omega)
  unfold f_X12_blame_B32
  rw [(mo_sl hM.1 hO).1, bb_some, (mo_sl hM.1 hO).2, if_neg (nI_ge hi (by omega)), mo_ob hM.1, bb_some, eD, bb_some, nI_1]
  by_cases h : agr a b n i = true
  · rw [h, if_neg (show ¬ bI true = 0 by decide), if_pos rfl]
    rcases hs with ⟨rfl, rfl⟩ | ⟨y, rfl, rfl, hy⟩
    · rw [if_pos rfl]
      exact ⟨_, D, rfl, Or.inr ⟨i, rfl, rfl, hi⟩, x0 fD⟩
    · have b1 : pc y ≤ 10 := pc_10 y
      have b2 : pc i ≤ 10 := pc_10 i
      rw [if_neg (nI_nm1 (by omega)), bits_at D i (by omega), bb_some, bits_at D y (by omega), bb_some]
      by_cases hle : pc y ≤ pc i
      · rw [if_pos (nI_le hle (by omega))]
        refine ⟨_, D, rfl, Or.inr ⟨y, ?_, rfl, hy⟩, x0 fD⟩
        show (if pc y ≤ pc i then some y else some i) = some y
        rw [if_pos hle]
      · rw [if_neg (nI_ge (by omega) (by omega))]
        refine ⟨_, D, rfl, Or.inr ⟨i, ?_, rfl, hi⟩, x0 fD⟩
        show (if pc y ≤ pc i then some y else some i) = some i
        rw [if_neg hle]
  · rw [show agr a b n i = false by simpa using h, if_pos (show bI false = 0 by decide), if_neg (by decide)]
    exact ⟨_, D, rfl, hs, x0 fD⟩
theorem mo_blame (hM : MB M a b) (hO : OkO a) (hb : OL b n) (hT : LTh a b n) (x3 : Int32) : ∃ t M', f_X12_blame_L32 M 255 x3 (-1) 0 = some (t, M') ∧ smI (2 ^ a 0) (ff (agr a b n) smf (2 ^ a 0) none) t ∧ Fr SX M M' := by
  have p8 := pw8 hO.1.1
  obtain ⟨R, e, h1, h2⟩ := iter_rel (f := fun s : Int32 × Int32 × Mem => f_X12_blame_B32 s.2.2 255 x3 s.1 s.2.1) (2 ^ a 0) (fun i s => smI (2 ^ a 0) (ff (agr a b n) smf i none) s.1 ∧ s.2.1 = nI i ∧ Fr SX M s.2.2) (fun r => smI (2 ^ a 0) (ff (agr a b n) smf (2 ^ a 0) none) r.1 ∧ Fr SX M r.2) (fun i s hi ⟨hs1, hs2, hs3⟩ => by
    obtain ⟨s1, s2, s3⟩ := s
    have hq1 : smI (2 ^ a 0) (ff (agr a b n) smf i none) s1 := hs1
    have hq2 : s2 = nI i := hs2
    have hq3 : Fr SX M s3 := hs3
    clear hs1 hs2 hs3
    subst hq2
    obtain ⟨t, D, eD, hD, fD⟩ := mo_blB (sx_mb hM hq3) hO hb hT x3 hi hq1
    exact Or.inl ⟨_, eD, hD, rfl, fr_trans hq3 fD⟩) (fun s ⟨hs1, hs2, hs3⟩ => by
    obtain ⟨s1, s2, s3⟩ := s
    have hq2 : s2 = nI (2 ^ a 0) := hs2
    have hq3 : Fr SX M s3 := hs3
    have hq1 : smI (2 ^ a 0) (ff (agr a b n) smf (2 ^ a 0) none) s1 := hs1
    clear hs1 hs2 hs3
    subst hq2
    have hM3 := sx_mb hM hq3
    exact ⟨(s1, s3), by show f_X12_blame_B32 s3 255 x3 s1 (nI (2 ^ a 0)) = _; rw [f_X12_blame_B32, (mo_sl hM3.1 hO).1, bb_some, (mo_sl hM3.1 hO).2, if_pos (nI_le (Nat.le_refl _) (by omega))], hq1, hq3⟩) 1048576 0 (-1, 0, M) (Nat.zero_le _) ⟨Or.inl ⟨rfl, rfl⟩, rfl, fr_refl⟩ (by omega)
  exact ⟨R.1, R.2, e, h1, h2⟩
/-- the set at a place among those that fit -/
theorem mo_nth (hM : MB M a b) (hO : OkO a) (hb : OL b n) (hT : LTh a b n) {k : Nat} (hk : k + 10 < 2 ^ 31) : ∃ r M', f_X12_fits_L90 M 255 (nI (k + 10)) 0 0 = some r ∧ ((cb (agr a b n) (2 ^ a 0) ≤ k ∧ r = .inr M') ∨ ∃ x, x < 2 ^ a 0 ∧ agr a b n x = true ∧ cb (agr a b n) x = k ∧ r = .inl (nI x, M')) ∧ Fr SX M M' := by
  have p8 := pw8 hO.1.1
  have pp := Nat.two_pow_pos (a 0)
  have ek : nI (k + 10) - 10 = nI k := by rw [show (10 : Int32) = nI 10 from rfl, pk_sub (by omega)]; congr 1
  obtain ⟨R, e, M', h1, h2⟩ := iter_rel (f := fun s : Int32 × Int32 × Mem => f_X12_fits_B90 s.2.2 255 (nI (k + 10)) s.1 s.2.1) (2 ^ a 0) (fun i s => (s.1 = nI (cb (agr a b n) i) ∧ cb (agr a b n) i ≤ k) ∧ s.2.1 = nI i ∧ Fr SX M s.2.2) (fun r => ∃ M', ((cb (agr a b n) (2 ^ a 0) ≤ k ∧ r = .inr M') ∨ ∃ x, x < 2 ^ a 0 ∧ agr a b n x = true ∧ cb (agr a b n) x = k ∧ r = .inl (nI x, M')) ∧ Fr SX M M') (fun i s hi ⟨⟨hs1, hs4⟩, hs2, hs3⟩ => by
    obtain ⟨s1, s2, s3⟩ := s
    have hs1 : s1 = nI (cb (agr a b n) i) := hs1
    have hs2 : s2 = nI i := hs2
    subst hs1 hs2
    have hs3 : Fr SX M s3 := hs3
    have hM3 := sx_mb hM hs3
    obtain ⟨D, eD, fD⟩ := mo_isSo hM3 hO hb hT (show i < 2 ^ 31 by omega)
    have fD' := fr_trans hs3 (x0 fD)
    have cs := cb_st (agr a b n) i
    show (∃ s' : Int32 × Int32 × Mem, f_X12_fits_B90 s3 255 (nI (k + 10)) (nI (cb (agr a b n) i)) (nI i) = some (.inl s') ∧ _) ∨ (∃ r, f_X12_fits_B90 s3 255 (nI (k + 10)) (nI (cb (agr a b n) i)) (nI i) = some (.inr r) ∧ _)
    unfold f_X12_fits_B90
    rw [(mo_sl hM3.1 hO).1, bb_some, (mo_sl hM3.1 hO).2, if_neg (nI_ge hi (by omega)), if_neg (show ¬ nI (k + 10) < 10 from nI_nlt (b := 10) (by omega) (by omega)), mo_ob hM3.1, bb_some, eD, bb_some, ek, nI_1, nI_1]
    by_cases h : agr a b n i = true
    · rw [if_pos h] at cs
      rw [h, if_neg (show ¬ bI true = 0 by decide)]
      by_cases hc : cb (agr a b n) i = k
      · rw [if_pos (by rw [hc])]
        exact Or.inr ⟨_, rfl, D, Or.inr ⟨i, hi, h, hc, rfl⟩, fD'⟩
      · rw [if_neg (nI_nq (by omega) (by omega) hc)]
        exact Or.inl ⟨_, rfl, ⟨by rw [cs], by omega⟩, rfl, fD'⟩
    · rw [if_neg h] at cs
      rw [show agr a b n i = false by simpa using h, if_pos (by rfl)]
      exact Or.inl ⟨_, rfl, ⟨by rw [cs], by omega⟩, rfl, fD'⟩) (fun s ⟨⟨hs1, hs4⟩, hs2, hs3⟩ => by
    obtain ⟨s1, s2, s3⟩ := s
    have hs2 : s2 = nI (2 ^ a 0) := hs2
    subst hs2
    have hs3 : Fr SX M s3 := hs3
    have hM3 := sx_mb hM hs3
    exact ⟨.inr s3, by show f_X12_fits_B90 s3 255 (nI (k + 10)) s1 (nI (2 ^ a 0)) = _; rw [f_X12_fits_B90, (mo_sl hM3.1 hO).1, bb_some, (mo_sl hM3.1 hO).2, if_pos (nI_le (Nat.le_refl _) (by omega))], s3, Or.inl ⟨hs4, rfl⟩, hs3⟩) 1048576 0 (0, 0, M) (Nat.zero_le _) ⟨⟨rfl, Nat.zero_le _⟩, rfl, fr_refl⟩ (by omega)
  exact ⟨R, M', e, h1, h2⟩
end
