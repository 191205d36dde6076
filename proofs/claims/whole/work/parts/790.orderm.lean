/-! order: the model, the call -/
theorem dv_at {x y : Nat} (hx : x < 2 ^ 31) (h0 : 0 < y) (hy : y < 2 ^ 31) : dvI (nI x) (nI y) = some (nI (x / y)) := by
  rw [dvI, if_neg (nI_ne0 h0 hy), pk_div hx h0 hy]
def S266 : Nat → Nat → Prop := fun q _ => q = 266
theorem mo_isOrd {n : Nat} (hn : n ≤ 5) (h0 : 0 < n) : ∀ k, k ≤ n → ∀ left met (M : Mem) F, k < F → left < 2 ^ 30 → met < 2 ^ n → Sk M → ∃ r M', iter (fun s : Int32 × Int32 × Int32 × Mem => f_X12_isOrder_B10 s.2.2.2 255 (nI n) s.1 s.2.1 s.2.2.1) F (nI left, nI met, nI k - 1, M) = some r ∧ (r = if isPb n k left met = true then .inr M' else .inl M') ∧ (isPb n k left met = true → ∀ i, i < k → M'.1 266 i = nI (left / n ^ (k - 1 - i) % n)) ∧ (∀ i, k ≤ i → M'.1 266 i = M.1 266 i) ∧ Fr S266 M M' := by
  intro k
  induction k with
  | zero =>
    intro _ left met M F hF _ _ hS
    obtain ⟨F, rfl⟩ : ∃ G, F = G + 1 := ⟨F - 1, by omega⟩
    refine ⟨.inr M, M, iter_end ?_, rfl, fun _ i hi => absurd hi (by omega), fun _ _ => rfl, fr_refl⟩
    show f_X12_isOrder_B10 M 255 (nI n) (nI left) (nI met) (nI 0 - 1) = _
    rw [f_X12_isOrder_B10, if_pos m1_neg]
  | succ k ih =>
    intro hk left met M F hF hl hm hS
    obtain ⟨F, rfl⟩ : ∃ G, F = G + 1 := ⟨F - 1, by omega⟩
    have e1 : nI (k + 1) - 1 = nI k := pk_sub (b := 1) (by omega)
    have hr : left % n < n := Nat.mod_lt _ h0
    have p5 : 2 ^ n ≤ 32 := by
      have : 2 ^ n ≤ 2 ^ 5 := Nat.pow_le_pow_right (by omega) hn
      omega
    let A := wI M 266 k (nI (left % n))
    have hSA : Sk A := hS
    have ra : aI A 0 266 (nI k) = some (nI (left % n)) := by rw [aI_at (m_s266 hSA) (by omega) (by omega) (by omega), wI_same]
    have body : f_X12_isOrder_B10 M 255 (nI n) (nI left) (nI met) (nI k) = if met.testBit (left % n) = true then some (.inr (.inl A)) else some (.inl (nI (left / n), nI (met ||| 2 ^ (left % n)), nI k - 1, A)) := by
      unfold f_X12_isOrder_B10
      rw [if_neg (nI_pos (by omega)), m_r39 hS, bb_some, rm_at (by omega) h0 (by omega), bb_some, sI_at (m_s266 hS) (by omega) (by omega), nar0, bb_some, dv_at (by omega) h0 (by omega), bb_some]
      show ((gR A 12 255 39).bind fun v6 => (aI A 0 v6 (nI k)).bind fun v7 => (f_X12_holds A (nI met) v7).bind fun v8 => (if v8 = 0 then (gR A 12 255 39).bind fun v10 => (aI A 0 v10 (nI k)).bind fun v11 => some (Sum.inl (nI (left / n), nI met ||| (1 : Int32) <<< (v11 &&& 31), nI k + Int32.ofInt (-1), A)) else some (Sum.inr (Sum.inl A)))) = _
      rw [m_r39 hSA, bb_some, ra, bb_some, m_holds A (by omega) (by omega), bb_some, bb_some, ra, bb_some, one_sl (by omega), or_at, dn1]
      by_cases hb : met.testBit (left % n) = true
      · rw [if_pos hb, if_neg (by decide), if_pos hb]
      · rw [if_neg hb, if_pos rfl, if_neg hb]
    have est : isPb n (k + 1) left met = (!(met.testBit (left % n)) && isPb n k (left / n) (met ||| 2 ^ (left % n))) := rfl
    rw [e1]
    have fA : Fr S266 M A := fr_wI rfl
    by_cases hb : met.testBit (left % n) = true
    · rw [if_pos hb] at body
      have ep : isPb n (k + 1) left met = false := by rw [est, hb]; rfl
      refine ⟨.inl A, A, iter_end (f := fun s : Int32 × Int32 × Int32 × Mem => f_X12_isOrder_B10 s.2.2.2 255 (nI n) s.1 s.2.1 s.2.2.1) (s := (nI left, nI met, nI k, M)) body, by rw [ep]; rfl, fun h => (by rw [ep] at h; cases h), fun i hi => by show (wI M 266 k _).1 266 i = _; rw [wI_rd, if_neg (by omega)], fA⟩
    · rw [if_neg hb] at body
      have hb' : met.testBit (left % n) = false := by simpa using hb
      have ep : isPb n (k + 1) left met = isPb n k (left / n) (met ||| 2 ^ (left % n)) := by rw [est, hb']; rfl
      obtain ⟨r, M', g1, g2, g3, g4, g5⟩ := ih (by omega) (left / n) (met ||| 2 ^ (left % n)) A F (by omega) (Nat.lt_of_le_of_lt (Nat.div_le_self _ _) hl) (or_lt hm (pw_lt hr)) hSA
      rw [ep]
      refine ⟨r, M', by rw [iter_step (f := fun s : Int32 × Int32 × Int32 × Mem => f_X12_isOrder_B10 s.2.2.2 255 (nI n) s.1 s.2.1 s.2.2.1) (s := (nI left, nI met, nI k, M)) body]; exact g1, g2, fun hp i hi => ?_, fun i hi => ?_, fr_trans fA g5⟩
      · by_cases e : i = k
        · subst e
          rw [g4 i (Nat.le_refl _), show i + 1 - 1 - i = 0 by omega, Nat.pow_zero, Nat.div_one]
          exact wI_same _ _ _ _
        · rw [g3 hp i (by omega), Nat.div_div_eq_div_mul, show k + 1 - 1 - i = (k - 1 - i) + 1 by omega, Nat.pow_succ, Nat.mul_comm]
      · rw [g4 i (by omega)]
        show (wI M 266 k _).1 266 i = _
        rw [wI_rd, if_neg (by omega)]
theorem mo_isOrder {M : Mem} {n c : Nat} (hS : Sk M) (hn : n ≤ 5) (hc : c < n ^ n) : ∃ M', f_X12_isOrder M 255 (nI c) (nI n) = some (bI (isP n c), M') ∧ (isP n c = true → ∀ i, i < n → M'.1 266 i = nI (dg n c i)) ∧ Fr S266 M M' := by
  by_cases h0 : n = 0
  · subst h0
    have e : f_X12_isOrder_L10 M 255 (nI 0) (nI c) 0 (nI 0 - 1) = some (.inr M) := iter_end (by
      show f_X12_isOrder_B10 M 255 (nI 0) (nI c) 0 (nI 0 - 1) = _
      rw [f_X12_isOrder_B10, if_pos m1_neg])
    refine ⟨M, ?_, fun _ i hi => absurd hi (by omega), fr_refl⟩
    rw [f_X12_isOrder, e, bb_some]
    rfl
  · have hc30 : c < 2 ^ 30 := by
      have : n ^ n ≤ 5 ^ n := Nat.pow_le_pow_left hn n
      have : 5 ^ n ≤ 5 ^ 5 := Nat.pow_le_pow_right (by omega) hn
      omega
    obtain ⟨r, M', g1, g2, g3, g4, g5⟩ := mo_isOrd hn (by omega) n (Nat.le_refl _) c 0 M 1048576 (by omega) hc30 (Nat.two_pow_pos _) hS
    have e : f_X12_isOrder_L10 M 255 (nI n) (nI c) 0 (nI n - 1) = some r := g1
    refine ⟨M', ?_, g3, g5⟩
    rw [f_X12_isOrder, e, bb_some, g2]
    show _ = some (bI (isPb n n c 0), M')
    by_cases h : isPb n n c 0 = true
    · rw [if_pos h, h]; rfl
    · rw [if_neg h, show isPb n n c 0 = false by simpa using h]; rfl
def SOm : Nat → Nat → Prop := fun q k => SV q k ∨ q = 266 ∨ q = 267
theorem sm_om {M M' : Mem} (h : Fr SV M M') : Fr SOm M M' := fr_mono h (fun q k hh => Or.inl hh)
theorem om_mo {M M' : Mem} {a : Nat → Nat} (hM : MO M a) (hF : Fr SOm M M') : MO M' a := mo_fr hM hF (fun q k h => by unfold SOm SV SB at h; omega)
theorem om_q {M M' : Mem} (h : Fr SOm M M') : Qf M M' := fr_q h (fun q k hh => by unfold SOm SV SB at hh; unfold zT; omega)
def OMI (M : Mem) (a : Nat → Nat) (n : Nat) (v : Option Nat) (x : Int32) : Prop := (v = none ∧ x = -1) ∨ ∃ y, v = some y ∧ x = nI (vl a n y) ∧ ∀ i, i < n → M.1 267 i = nI (dg n y i)
theorem omi_fr {S : Nat → Nat → Prop} {M M' : Mem} {a : Nat → Nat} {n : Nat} {v : Option Nat} {x : Int32} (h : OMI M a n v x) (hF : Fr S M M') (hs : ∀ k, ¬ S 267 k) : OMI M' a n v x := by
  rcases h with h | ⟨y, h1, h2, h3⟩
  · exact Or.inl h
  · exact Or.inr ⟨y, h1, h2, fun i hi => by rw [hF.2 267 i (hs i)]; exact h3 i hi⟩
theorem mo_gio {M : Mem} {n c : Nat} {a : Nat → Nat} (hM : MO M a) (hO : OkO a) (hn : n ≤ 5) (hna : n ≤ a 1) (hT : ∀ i, i < n → M.1 266 i = nI (dg n c i)) (x3 x4 x5 x6 : Int32) : ∃ B D, f_X12_beginsRule M 255 = some B ∧ f_X12_order_L95 B 255 (nI n) x3 x4 x5 x6 0 = some D ∧ D.1 255 24 = nI (vl a n c) ∧ Fr SV M D := by
  have h8 := hO.1.1
  have h10 := hO.1.2.1
  obtain ⟨A, eA, hA, fA⟩ := mo_beginsR 0 hM hO
  obtain ⟨B, eB, h1, h2⟩ := iter_rel (f := fun s : Int32 × Mem => f_X12_order_B95 s.2 255 (nI n) x3 x4 x5 x6 s.1) n (fun i s => s.1 = nI i ∧ (∃ z, RM s.2 a 0 (ods a n c i) z 0) ∧ Fr SV M s.2) (fun r => (∃ z, RM r a 0 (ods a n c n) z 0) ∧ Fr SV M r) (fun i s hi ⟨hs1, ⟨z, hs2⟩, hs3⟩ => by
    obtain ⟨s1, s2⟩ := s
    have hq1 : s1 = nI i := hs1
    have hq2 : RM s2 a 0 (ods a n c i) z 0 := hs2
    have hq3 : Fr SV M s2 := hs3
    clear hs1 hs2 hs3
    subst hq1
    have hdl := dg_lt (n := n) (c := c) (i := i) (by omega)
    have hS2 := hq2.1.1.1
    have rt : aI s2 0 266 (nI i) = some (nI (dg n c i)) := by
      rw [aI_at (m_s266 hS2) (by omega) (by omega) (by omega), hq3.2 266 i (by unfold SV SB; omega), hT i hi]
    obtain ⟨D, eD, hD, fD⟩ := mo_ruled hq2 hO (show dg n c i < a 1 by omega) (ods_ok (c := c) hO hna i (by omega)) (by omega) (by omega) (Nat.zero_le _)
    have eD : f_X12_ruled s2 255 0 (nI (dg n c i)) = some D := eD
    refine Or.inl ⟨(nI (i + 1), D), ?_, rfl, ⟨_, hD⟩, fr_trans hq3 (su_sv fD)⟩
    show f_X12_order_B95 s2 255 (nI n) x3 x4 x5 x6 (nI i) = _
    unfold f_X12_order_B95
    rw [if_neg (nI_ge hi (by omega)), m_r39 hS2, bb_some, rt, bb_some, mo_ob hq2.1.1, bb_some, eD, bb_some, nI_1]) (fun s ⟨hs1, hs2, hs3⟩ => by
    obtain ⟨s1, s2⟩ := s
    have hq1 : s1 = nI n := hs1
    subst hq1
    exact ⟨s2, by show f_X12_order_B95 s2 255 (nI n) x3 x4 x5 x6 (nI n) = _; rw [f_X12_order_B95, if_pos (nI_le (Nat.le_refl _) (by omega))], hs2, hs3⟩) 1048576 0 (0, A) (by omega) ⟨rfl, ⟨0, hA⟩, fA⟩ (by omega)
  obtain ⟨z, h1⟩ := h1
  exact ⟨A, B, eA, eB, h1.2.1.1, h2⟩
theorem mo_ordC {M : Mem} {n c : Nat} (hS : Sk M) (hn : n ≤ 5) (hT : ∀ i, i < n → M.1 266 i = nI (dg n c i)) (x3 x4 x5 x6 : Int32) : ∃ D, f_X12_order_L140 M 255 (nI n) x3 x4 x5 x6 0 = some D ∧ (∀ i, i < n → D.1 267 i = nI (dg n c i)) ∧ Fr (fun q _ => q = 267) M D := by
  obtain ⟨B, eB, h1, h2⟩ := iter_rel (f := fun s : Int32 × Mem => f_X12_order_B140 s.2 255 (nI n) x3 x4 x5 x6 s.1) n (fun i s => s.1 = nI i ∧ (∀ j, j < i → s.2.1 267 j = nI (dg n c j)) ∧ Fr (fun q _ => q = 267) M s.2) (fun r => (∀ i, i < n → r.1 267 i = nI (dg n c i)) ∧ Fr (fun q _ => q = 267) M r) (fun i s hi ⟨hs1, hs2, hs3⟩ => by
    obtain ⟨s1, s2⟩ := s
    have hq1 : s1 = nI i := hs1
    have hq2 : ∀ j, j < i → s2.1 267 j = nI (dg n c j) := hs2
    have hq3 : Fr (fun q _ => q = 267) M s2 := hs3
    clear hs1 hs2 hs3
    subst hq1
    have hS2 := fr_sk hq3 hS
    have rt : aI s2 0 266 (nI i) = some (nI (dg n c i)) := by
      rw [aI_at (m_s266 hS2) (by omega) (by omega) (by omega), hq3.2 266 i (by omega), hT i hi]
    refine Or.inl ⟨(nI (i + 1), wI s2 267 i (nI (dg n c i))), ?_, rfl, fun j hj => ?_, fr_put hq3 rfl⟩
    · show f_X12_order_B140 s2 255 (nI n) x3 x4 x5 x6 (nI i) = _
      unfold f_X12_order_B140
      rw [if_neg (nI_ge hi (by omega)), m_r40 hS2, bb_some, m_r39 hS2, bb_some, rt, bb_some, sI_at (m_s267 hS2) (by omega) (by omega), nar0, bb_some, nI_1]
    · show (wI s2 267 i _).1 267 j = _
      rw [wI_rd]
      by_cases e : j = i
      · subst e; rw [if_pos ⟨rfl, rfl⟩]
      · rw [if_neg (by omega)]; exact hq2 j (by omega)) (fun s ⟨hs1, hs2, hs3⟩ => by
    obtain ⟨s1, s2⟩ := s
    have hq1 : s1 = nI n := hs1
    subst hq1
    exact ⟨s2, by show f_X12_order_B140 s2 255 (nI n) x3 x4 x5 x6 (nI n) = _; rw [f_X12_order_B140, if_pos (nI_le (Nat.le_refl _) (by omega))], hs2, hs3⟩) 1048576 0 (0, M) (by omega) ⟨rfl, fun j hj => absurd hj (by omega), fr_refl⟩ (by omega)
  exact ⟨B, eB, h1, h2⟩
theorem nn_lt {n : Nat} (hn : n ≤ 5) : n ^ n < 10000 := by
  have : n ^ n ≤ 5 ^ n := Nat.pow_le_pow_left hn n
  have : 5 ^ n ≤ 5 ^ 5 := Nat.pow_le_pow_right (by omega) hn
  omega
theorem mo_ordB {M : Mem} {n c : Nat} {a : Nat → Nat} {v : Option Nat} {x5 : Int32} (hM : MO M a) (hO : OkO a) (hn : n ≤ 5) (hna : n ≤ a 1) (hc : c < n ^ n) (hv : OMI M a n v x5) (x3 : Int32) : ∃ y M', f_X12_order_B68 M 255 (nI n) x3 (nI (n ^ n)) x5 (nI c) = some (.inl (y, nI (c + 1), M')) ∧ OMI M' a n (if isP n c = true then obf a n c v else v) y ∧ Fr SOm M M' := by
  have hnn := nn_lt hn
  have hl := vl_lt (c := c) hO hna hn
  obtain ⟨A, eA, hA, fA⟩ := mo_isOrder hM.1 hn hc
  have fA' : Fr SOm M A := fr_mono fA (fun q k h => Or.inr (Or.inl h))
  have hMA := om_mo hM fA'
  have vA := omi_fr hv fA (fun k => by unfold S266; omega)
  unfold f_X12_order_B68
  rw [if_neg (nI_ge hc (by omega)), mo_ob hM, bb_some, eA, bb_some, nI_1]
  by_cases hp : isP n c = true
  · rw [hp, if_neg (show ¬ bI true = 0 by decide), if_pos rfl]
    obtain ⟨B, D, eB, eD, h24, fD⟩ := mo_gio hMA hO hn hna (hA hp) x3 (nI (n ^ n)) x5 (nI c)
    have hSD := fr_sk fD hMA.1
    have tD : ∀ i, i < n → D.1 266 i = nI (dg n c i) := fun i hi => by rw [fD.2 266 i (by unfold SV SB; omega)]; exact hA hp i hi
    have vD := omi_fr vA fD (fun k => by unfold SV SB; omega)
    have fD' := fr_trans fA' (sm_om fD)
    obtain ⟨E, eE, hE, fE⟩ := mo_ordC hSD hn tD x3 (nI (n ^ n)) (nI (vl a n c)) (nI c)
    have fE' : Fr SOm M E := fr_trans fD' (fr_mono fE (fun q k h => Or.inr (Or.inr h)))
    show ∃ y M', ((ob A 12 255).bind fun _ => (f_X12_beginsRule A 255).bind fun z4 => (f_X12_order_L95 z4 255 (nI n) x3 (nI (n ^ n)) x5 (nI c) 0).bind fun r5 => _) = _ ∧ _
    rw [mo_ob hMA, bb_some, eB, bb_some, eD, bb_some, gI_at (m_shp hSD), h24, bb_some, bb_some, eE, bb_some]
    rcases vD with ⟨rfl, rfl⟩ | ⟨y, rfl, rfl, h1⟩
    · rw [if_pos (by
        rw [Int32.lt_iff_toInt_lt, nI_toInt (by omega)]
        have e1 : (-1 : Int32).toInt = -1 := rfl
        omega)]
      exact ⟨_, E, rfl, Or.inr ⟨c, rfl, rfl, hE⟩, fE'⟩
    · have hly := vl_lt (c := y) hO hna hn
      show ∃ t M', _ ∧ OMI M' a n (if vl a n c ≤ vl a n y then some y else some c) t ∧ _
      by_cases hle : vl a n c ≤ vl a n y
      · rw [if_neg (nI_nlt (by omega) (by omega)), if_pos hle]
        exact ⟨_, D, rfl, Or.inr ⟨y, rfl, rfl, h1⟩, fD'⟩
      · rw [if_pos (nI_lt (by omega) (by omega)), if_neg hle]
        exact ⟨_, E, rfl, Or.inr ⟨c, rfl, rfl, hE⟩, fE'⟩
  · rw [show isP n c = false by simpa using hp, if_pos (show bI false = 0 by decide), if_neg (by decide)]
    exact ⟨_, A, rfl, vA, fA'⟩
theorem mo_ord {M : Mem} {n : Nat} {a : Nat → Nat} (hM : MO M a) (hO : OkO a) (hn : n ≤ 5) (hna : n ≤ a 1) (x3 : Int32) : ∃ y M', f_X12_order_L68 M 255 (nI n) x3 (nI (n ^ n)) (-1) 0 = some (y, M') ∧ OMI M' a n (ff (isP n) (obf a n) (n ^ n) none) y ∧ Fr SOm M M' := by
  have hnn := nn_lt hn
  obtain ⟨R, e, h1, h2⟩ := iter_rel (f := fun s : Int32 × Int32 × Mem => f_X12_order_B68 s.2.2 255 (nI n) x3 (nI (n ^ n)) s.1 s.2.1) (n ^ n) (fun i s => OMI s.2.2 a n (ff (isP n) (obf a n) i none) s.1 ∧ s.2.1 = nI i ∧ Fr SOm M s.2.2) (fun r => OMI r.2 a n (ff (isP n) (obf a n) (n ^ n) none) r.1 ∧ Fr SOm M r.2) (fun i s hi ⟨hs1, hs2, hs3⟩ => by
    obtain ⟨s1, s2, s3⟩ := s
    have hq1 : OMI s3 a n (ff (isP n) (obf a n) i none) s1 := hs1
    have hq2 : s2 = nI i := hs2
    have hq3 : Fr SOm M s3 := hs3
    clear hs1 hs2 hs3
    subst hq2
    obtain ⟨y, D, eD, hD, fD⟩ := mo_ordB (om_mo hM hq3) hO hn hna hi hq1 x3
    exact Or.inl ⟨_, eD, hD, rfl, fr_trans hq3 fD⟩) (fun s ⟨hs1, hs2, hs3⟩ => by
    obtain ⟨s1, s2, s3⟩ := s
    have hq2 : s2 = nI (n ^ n) := hs2
    subst hq2
    exact ⟨(s1, s3), by show f_X12_order_B68 s3 255 (nI n) x3 (nI (n ^ n)) s1 (nI (n ^ n)) = _; rw [f_X12_order_B68, if_pos (nI_le (Nat.le_refl _) (by omega))], hs1, hs3⟩) 1048576 0 (-1, 0, M) (Nat.zero_le _) ⟨Or.inl ⟨rfl, rfl⟩, rfl, fr_refl⟩ (by omega)
  exact ⟨R.1, R.2, e, h1, h2⟩
theorem ord_some {a : Nat → Nat} {n : Nat} (hn : n ≤ 5) : ∃ y, ff (isP n) (obf a n) (n ^ n) none = some y := by
  have key : ∀ N, (∃ c, c < N ∧ isP n c = true) → ∃ y, ff (isP n) (obf a n) N none = some y := by
    intro N
    induction N with
    | zero => intro ⟨c, hc, _⟩; omega
    | succ N ih =>
      intro ⟨c, hc, hp⟩
      rw [ff_st]
      by_cases h : isP n N = true
      · rw [if_pos h]
        cases ff (isP n) (obf a n) N none with
        | none => exact ⟨N, rfl⟩
        | some y =>
          show ∃ t, (if vl a n N ≤ vl a n y then some y else some N) = some t
          split
          · exact ⟨y, rfl⟩
          · exact ⟨N, rfl⟩
      · rw [if_neg h]
        refine ih ⟨c, ?_, hp⟩
        by_cases e : c = N
        · rw [e] at hp; exact absurd hp h
        · omega
  have f0 := fst_ok n (by omega)
  unfold fst0 at f0
  have fk := fnd_ok n (n ^ n) 0
  cases e0 : fnd n (n ^ n) 0 with
  | none => rw [e0] at f0; cases f0
  | some c0 =>
    rw [e0] at fk
    exact key _ ⟨c0, by have := fk.2.1; omega, fk.2.2.1⟩
theorem mo_codes (M : Mem) {n : Nat} (hn : n ≤ 5) (x3 : Int32) : f_X12_order_L44 M 255 (nI n) x3 1 0 = some (nI (n ^ n)) := by
  have e := (iter_for (f := fun s : Int32 × Int32 => f_X12_order_B44 M 255 (nI n) x3 s.1 s.2) n (fun _ v => v * n) (fun i v => (nI v, nI i)) nI (fun i v => v = n ^ i) (fun i v hi hv => by
    refine ⟨?_, by rw [hv, Nat.pow_succ]⟩
    show f_X12_order_B44 M 255 (nI n) x3 (nI v) (nI i) = _
    rw [f_X12_order_B44, if_neg (nI_ge hi (by omega)), pk_mul, nI_1]) (fun v hv => by
    show f_X12_order_B44 M 255 (nI n) x3 (nI v) (nI n) = _
    rw [f_X12_order_B44, if_pos (nI_le (Nat.le_refl _) (by omega))]) 1 rfl 1048576 (by omega))
  have e1 : f_X12_order_L44 M 255 (nI n) x3 1 0 = some (nI (fo (fun _ v => v * n) n 1)) := e.1
  rw [e1, e.2]
theorem call_order {M : Mem} (hI : Inv M) (a1 a2 a3 : Int32)  : ∃ (r : Int32) (M1 M2 : Mem), f_X11_order M 1 a1 a2 a3 = some (r, M1) ∧ shp M1 255 = some (.inl 12) ∧ f_X12_order M1 255 a1 a2 a3 = some (r, M2) ∧ Inv M2 := by
  have hS := hI.1
  exact qm hI a1 (fC := f_X11_order M 1 a1 a2 a3) (fM := fun M => f_X12_order M 255 a1 a2 a3) (bad := -1) (fun e1 e2 => ⟨by simp [f_X11_order, d_r0 hS, t_ob hS, e1], by simp [f_X12_order, ob_at (m_shp hS), e2]⟩) (fun o a ho hO e1 hC => by
    have h10 := hO.1.2.1
    rcases io_cases a2 (n := 6) (by omega) with hx | ⟨n, hn, rfl⟩
    · refine ⟨-1, M, ?_, qf_refl, fun M2 e3 hM hq => ⟨M2, ?_, qf_refl⟩⟩
      · unfold f_X11_order
        rw [d_r0 hS, bb_some, t_ob hS, bb_some, e1, bb_some, if_neg ho]
        by_cases hn : a2 < 0
        · rw [if_pos hn]
        · rw [if_neg hn, if_pos (by
            have h4 : (6 : Int32) ≤ a2 := hx.resolve_left hn
            have e6 : (6 : Int32).toInt = 6 := rfl
            have e5 : (5 : Int32).toInt = 5 := rfl
            rw [Int32.le_iff_toInt_le] at h4; rw [Int32.lt_iff_toInt_lt]; omega)]
      · have i1 : f_X12_isIn M2 a2 0 5 = some 0 := ii_o M2 (n := 6) (by decide) hx (by omega)
        simp [f_X12_order, ob_at (m_shp hS), e3, i1]
    have i1 : ∀ N, f_X12_isIn N (nI n) 0 5 = some 1 := fun N => ii_i N (n := 6) (by decide) hn (by omega)
    have cs : f_X11_order M 1 a1 (nI n) a3 = (if nI (a 1) < nI n then some ((-1 : Int32), M) else (if a3 < (-1 : Int32) then some ((-1 : Int32), M) else (if a3 < nI n then (f_X6_orderCalls M 107 o (nI n)).bind fun z11 => (if a3 = (-1 : Int32) then (gR z11 11 1 9).bind fun v13 => (gI z11 6 v13 0).bind fun v14 => some (v14, z11) else (gR z11 11 1 9).bind fun v15 => (gR z11 6 v15 2).bind fun v16 => (aI z11 0 v16 a3).bind fun v17 => some (v17, z11)) else some ((-1 : Int32), M)))) := by
      unfold f_X11_order
      rw [d_r0 hS, bb_some, t_ob hS, bb_some, e1, bb_some, if_neg ho, if_neg (nI_pos (by omega)), if_neg (show ¬ 5 < nI n from nI_nlt (a := 5) (by omega) (by omega)), co_g1 hC, bb_some, d_r9 hS, bb_some, ob_at (p_shp hS), bb_some]
    have ms : ∀ M1 M2, f_X12_isOffice M1 255 a1 = some (1, M2) → Sk M1 → MO M2 a → f_X12_order M1 255 a1 (nI n) a3 = (if nI (a 1) < nI n then some ((-1 : Int32), M2) else (f_X12_isIn M2 a3 (-1 : Int32) (nI n - (1 : Int32))).bind fun v7 => (if v7 = 0 then some ((-1 : Int32), M2) else (f_X12_order_L68 M2 255 (nI n) a3 (nI (n ^ n)) (-1 : Int32) (0 : Int32)).bind fun r10 => (if a3 = (-1 : Int32) then some (r10.1, r10.2) else (gR r10.2 12 255 40).bind fun v12 => (aI r10.2 0 v12 a3).bind fun v13 => some (v13, r10.2)))) := fun M1 M2 e3 hS1 hM => by
      unfold f_X12_order
      rw [ob_at (m_shp hS1), bb_some, e3, bb_some]
      show (if (1 : Int32) = 0 then _ else (f_X12_isIn M2 (nI n) 0 5).bind fun v3 => _) = _
      rw [if_neg (by decide), i1, bb_some, if_neg (by decide)]
      show ((gI M2 12 255 13).bind fun v5 => _) = _
      rw [mo_g13 hM, bb_some, mo_codes M2 (by omega), bb_some]
    by_cases hna : n ≤ a 1
    · have hna' : ¬ nI (a 1) < nI n := nI_nlt (by omega) (by omega)
      rcases io_m1 a3 (n := n) (by omega) with hx | hx
      · refine ⟨-1, M, ?_, qf_refl, fun M2 e3 hM hq => ⟨M2, ?_, qf_refl⟩⟩
        · rw [cs, if_neg hna']
          rcases hx with h | h
          · rw [if_pos h]
          · by_cases h2 : a3 < -1
            · rw [if_pos h2]
            · rw [if_neg h2, if_neg (by rw [Int32.le_iff_toInt_le] at h; rw [Int32.lt_iff_toInt_lt]; omega)]
        · show f_X12_order M 255 a1 (nI n) a3 = _
          rw [ms M M2 e3 hS hM, if_neg hna', ii_m1o M2 (by omega) hx, bb_some, if_pos rfl]
      have hl : ¬ a3 < -1 ∧ a3 < nI n := by
        rcases hx with h | ⟨k, hk, h⟩
        · subst h
          refine ⟨by decide, ?_⟩
          rw [Int32.lt_iff_toInt_lt, nI_toInt (by omega)]
          have e1 : (-1 : Int32).toInt = -1 := rfl
          omega
        · subst h
          refine ⟨fun hh => nI_pos (show k < 2 ^ 31 by omega) ?_, nI_lt hk (by omega)⟩
          rw [Int32.lt_iff_toInt_lt] at hh ⊢
          have e1 : (-1 : Int32).toInt = -1 := rfl
          have e0 : (0 : Int32).toInt = 0 := rfl
          omega
      obtain ⟨M1, eM, hM1, fM⟩ := c_order hC hO (show n ≤ 5 by omega) hna
      have hS1 := fM.1 hS
      obtain ⟨y, hy⟩ := ord_some (a := a) (show n ≤ 5 by omega)
      rw [hy] at hM1
      obtain ⟨h107, h108⟩ : M1.1 107 0 = nI (vl a n y) ∧ ∀ i, i < n → M1.1 108 i = nI (dg n y i) := by
        rcases hM1 with ⟨h, _⟩ | ⟨y', h, h1, h2⟩
        · cases h
        · cases h; exact ⟨h1, h2⟩
      have mr : ∀ M2, MO M2 a → ∃ D, f_X12_order_L68 M2 255 (nI n) a3 (nI (n ^ n)) (-1) 0 = some (nI (vl a n y), D) ∧ (∀ i, i < n → D.1 267 i = nI (dg n y i)) ∧ Sk D ∧ Qf M2 D := fun M2 hM => by
        obtain ⟨t, D, eD, hD, fD⟩ := mo_ord hM hO (show n ≤ 5 by omega) hna a3
        rw [hy] at hD
        rcases hD with ⟨h, _⟩ | ⟨y', h, h1, h2⟩
        · cases h
        · cases h; exact ⟨D, by rw [eD, h1], h2, fr_sk fD hM.1, om_q fD⟩
      rcases hx with h | ⟨k, hk, h⟩
      · subst h
        refine ⟨nI (vl a n y), M1, ?_, so_q fM, fun M2 e3 hM hq => ?_⟩
        · rw [cs, if_neg hna', if_neg hl.1, if_pos hl.2, eM, bb_some, if_pos rfl, d_r9 hS1, bb_some, gI_at (p_shp hS1), h107, bb_some]
        · obtain ⟨D, eD, hD, hSD, qD⟩ := mr M2 hM
          refine ⟨D, ?_, qD⟩
          show f_X12_order M1 255 a1 (nI n) (-1) = _
          rw [ms M1 M2 e3 hS1 hM, if_neg hna', ii_m1i M2 (by omega) (Or.inl rfl), bb_some, if_neg (by decide), eD, bb_some, if_pos rfl]
      · subst h
        refine ⟨nI (dg n y k), M1, ?_, so_q fM, fun M2 e3 hM hq => ?_⟩
        · rw [cs, if_neg hna', if_neg hl.1, if_pos hl.2, eM, bb_some, if_neg (nI_nm1 (by omega)), d_r9 hS1, bb_some, p_r2 hS1, bb_some, aI_at (p_s108 hS1) (by omega) (by omega) (by omega), h108 k hk, bb_some]
        · obtain ⟨D, eD, hD, hSD, qD⟩ := mr M2 hM
          refine ⟨D, ?_, qD⟩
          show f_X12_order M1 255 a1 (nI n) (nI k) = _
          rw [ms M1 M2 e3 hS1 hM, if_neg hna', ii_m1i M2 (by omega) (Or.inr ⟨k, hk, rfl⟩), bb_some, if_neg (by decide), eD, bb_some, if_neg (nI_nm1 (by omega))]
          show ((gR D 12 255 40).bind fun v12 => (aI D 0 v12 (nI k)).bind fun v13 => some (v13, D)) = _
          rw [m_r40 hSD, bb_some, aI_at (m_s267 hSD) (by omega) (by omega) (by omega), hD k hk, bb_some]
    · have hna' : nI (a 1) < nI n := nI_lt (by omega) (by omega)
      refine ⟨-1, M, by rw [cs, if_pos hna'], qf_refl, fun M2 e3 hM hq => ⟨M2, ?_, qf_refl⟩⟩
      show f_X12_order M 255 a1 (nI n) a3 = _
      rw [ms M M2 e3 hS hM, if_pos hna'])
