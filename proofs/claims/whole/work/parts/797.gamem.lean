/-! the game of waiting: the model -/
theorem y_bit (P x k b : Nat) : (yd P x k).testBit b = (decide (b < 2) && x.testBit (b + 2 * (P - 1 - k))) := by
  unfold yd
  rw [show (4 : Nat) ^ (P - 1 - k) = 2 ^ (2 * (P - 1 - k)) by rw [Nat.pow_mul], show x / 2 ^ (2 * (P - 1 - k)) % 4 = x / 2 ^ (2 * (P - 1 - k)) % 2 ^ 2 from rfl, Nat.testBit_mod_two_pow, Nat.testBit_div_two_pow]
def dvr (P x k s : Nat) : Nat := dif x (3 * 2 ^ (2 * (P - 1 - k))) ||| (s * 2 ^ (2 * (P - 1 - k)))
theorem t3 (m : Nat) : Nat.testBit 3 m = decide (m < 2) := by
  rw [show (3 : Nat) = 2 ^ 2 - 1 from rfl, Nat.testBit_two_pow_sub_one]
theorem s4 {s m : Nat} (hs : s < 4) (hm : 2 ≤ m) : Nat.testBit s m = false := Nat.testBit_lt_two_pow (Nat.lt_of_lt_of_le hs (by
  have : 2 ^ 2 ≤ 2 ^ m := Nat.pow_le_pow_right (by omega) hm
  omega))
theorem dvr_y {P x k s j : Nat} (hP : P ≤ 7) (hk : k < P) (hs : s < 4) (hj : j < P) : yd P (dvr P x k s) j = up (yd P x) k s j := by
  apply Nat.eq_of_testBit_eq
  intro b
  rw [y_bit]
  by_cases hb : b < 2
  · rw [decide_eq_true hb, Bool.true_and]
    unfold dvr
    rw [Nat.testBit_or, dif_bit (by omega), Nat.testBit_mul_two_pow, Nat.testBit_mul_two_pow, t3]
    by_cases e : j = k
    · subst e
      rw [up_s, decide_eq_true (show 2 * (P - 1 - j) ≤ b + 2 * (P - 1 - j) by omega), show b + 2 * (P - 1 - j) - 2 * (P - 1 - j) = b by omega, decide_eq_true hb]
      simp
    · rw [up_n _ _ e, y_bit, decide_eq_true hb]
      rcases Nat.lt_or_ge (b + 2 * (P - 1 - j)) (2 * (P - 1 - k)) with q | q
      · rw [decide_eq_false (show ¬ 2 * (P - 1 - k) ≤ b + 2 * (P - 1 - j) by omega)]; simp
      · rw [decide_eq_false (show ¬ b + 2 * (P - 1 - j) - 2 * (P - 1 - k) < 2 by omega), s4 hs (show 2 ≤ b + 2 * (P - 1 - j) - 2 * (P - 1 - k) by omega)]; simp
  · rw [decide_eq_false hb, Bool.false_and]
    by_cases e : j = k
    · rw [e, up_s, s4 hs (by omega)]
    · rw [up_n _ _ e, y_bit, decide_eq_false hb, Bool.false_and]
theorem p14 {P : Nat} (hP : P ≤ 7) {k : Nat} : 2 ^ (2 * (P - 1 - k)) ≤ 4096 := by
  have : 2 ^ (2 * (P - 1 - k)) ≤ 2 ^ 12 := Nat.pow_le_pow_right (by omega) (by omega)
  omega
theorem dvr_lt {P x k s : Nat} (hP : P ≤ 7) (hx : x < 16384) (hs : s < 4) : dvr P x k s < 16384 := by
  have h1 := dif_le x (3 * 2 ^ (2 * (P - 1 - k)))
  have h2 := p14 hP (k := k)
  have h3 : s * 2 ^ (2 * (P - 1 - k)) ≤ 3 * 4096 := Nat.mul_le_mul (by omega) h2
  exact or_lt (n := 14) (by omega) (by omega)
theorem sh_at {P k : Nat} (hP : P ≤ 7) (hk : k < P) : (2 : Int32) * (nI P - 1 - nI k) = nI (2 * (P - 1 - k)) := by
  rw [show nI P - 1 = nI (P - 1) from pk_sub (b := 1) (by omega), pk_sub (by omega), show (2 : Int32) = nI 2 from rfl, pk_mul]
theorem said_at {P x k : Nat} (hP : P ≤ 7) (hx : x < 16384) (hk : k < P) : (nI x >>> (((2 : Int32) * (nI P - 1 - nI k)) &&& 31)) &&& 3 = nI (yd P x k) := by
  rw [sh_at hP hk, pk_shrN (by omega) _ (2 * (P - 1 - k)) (sl31 _ (by omega)), pk_andN (by have := Nat.div_le_self x (2 ^ (2 * (P - 1 - k))); omega) 2 rfl, Nat.pow_mul]
  rfl
theorem dev_at {P x k s : Nat} (hP : P ≤ 7) (hk : k < P) (hs : s < 4) : (nI x &&& (((3 : Int32) <<< (nI (2 * (P - 1 - k)) &&& 31)) ^^^ (-1 : Int32))) ||| (nI s <<< (nI (2 * (P - 1 - k)) &&& 31)) = nI (dvr P x k s) := by
  have h2 := p14 hP (k := k)
  have h3 : s * 2 ^ (2 * (P - 1 - k)) ≤ 3 * 4096 := Nat.mul_le_mul (by omega) h2
  have a1 : (3 : Int32) <<< (nI (2 * (P - 1 - k)) &&& 31) = nI (3 * 2 ^ (2 * (P - 1 - k))) := pk_shlN (n := 3) _ (2 * (P - 1 - k)) (sl31 _ (by omega)) (by omega)
  have a2 : nI s <<< (nI (2 * (P - 1 - k)) &&& 31) = nI (s * 2 ^ (2 * (P - 1 - k))) := pk_shlN (n := s) _ (2 * (P - 1 - k)) (sl31 _ (by omega)) (by omega)
  rw [a1, a2, dif_at, or_at]
  rfl
theorem wt_cg {g y y' : Nat → Nat} {n : Nat} (h : ∀ i, i < n → y i = y' i) : wt g y n = wt g y' n := fo_congr (fun i v hi => by unfold wst; rw [h i hi]) none
/-- the players as the model has them -/
def GM (M : Mem) (a : Nat → Nat) (d P : Nat) : Prop := MO M a ∧ (M.1 255 31 = nI P ∧ P ≤ cb (el a d) (a 0)) ∧ ∀ k, k < P → M.1 263 k = nI (qq a d k)
def SWt : Nat → Nat → Prop := fun q k => q = 255 ∧ (k = 32 ∨ k = 33)
theorem gm_fr {M M' : Mem} {a : Nat → Nat} {d P : Nat} (h : GM M a d P) (hF : Fr SWt M M') : GM M' a d P := ⟨mo_fr h.1 hF (fun q k hh => by unfold SWt at hh; omega), ⟨by rw [hF.2 255 31 (by unfold SWt; omega)]; exact h.2.1.1, h.2.1.2⟩, fun k hk => by rw [hF.2 263 k (by unfold SWt; omega)]; exact h.2.2 k hk⟩
theorem swt_q {M M' : Mem} (h : Fr SWt M M') : Qf M M' := fr_q h (fun q k hh => by unfold SWt at hh; unfold zT; omega)
def LG (M : Mem) (a : Nat → Nat) (d : Nat) : Option (Nat × Nat) → Prop
  | none => M.1 255 32 = -1 ∧ M.1 255 33 = 0
  | some (j, r) => M.1 255 32 = nI (qq a d j) ∧ M.1 255 33 = nI r
section
variable {M : Mem} {a : Nat → Nat} {d P : Nat}
theorem gm_p (h : GM M a d P) : gI M 12 255 31 = some (nI P) := by rw [gI_at (m_shp h.1.1), h.2.1.1]
theorem gm_7 (h : GM M a d P) (hO : OkO a) (hd : d < a 0) : P ≤ 7 := by have := el_7 hO hd; have := h.2.1.2; omega
theorem gm_q (h : GM M a d P) (hO : OkO a) (hd : d < a 0) {k : Nat} (hk : k < P) : aI M 0 263 (nI k) = some (nI (qq a d k)) := by
  have := gm_7 h hO hd
  rw [aI_at (m_s263 h.1.1) (by omega) (by omega) (by omega), h.2.2 k hk]
theorem gm_l (h : GM M a d P) {k : Nat} (hk : k < P) : qq a d k < a 0 := (qq_ok (by have := h.2.1.2; omega)).1
theorem gm_i (h : GM M a d P) {k j : Nat} (hk : k < P) (hj : j < P) : qq a d k = qq a d j ↔ k = j := by
  have h1 := (qq_ok (a := a) (d := d) (k := k) (by have := h.2.1.2; omega)).2.2
  have h2 := (qq_ok (a := a) (d := d) (k := j) (by have := h.2.1.2; omega)).2.2
  exact ⟨fun e => by rw [← h1, ← h2, e], fun e => by rw [e]⟩
theorem mo_waits (h : GM M a d P) (hO : OkO a) (hd : d < a 0) {x : Nat} (hx : x < 16384) : ∃ M', f_X12_waits M 255 (nI d) (nI x) = some M' ∧ LG M' a d (wt (gq a d) (yd P x) P) ∧ Fr SWt M M' := by
  have h8 := hO.1.1
  have hP := gm_7 h hO hd
  have hS := h.1.1
  let A := wI (wI M 255 32 (-1)) 255 33 0
  have fA : Fr SWt M A := fr_put (fr_wI ⟨rfl, Or.inl rfl⟩) ⟨rfl, Or.inr rfl⟩
  have lA : LG A a d none := ⟨by show (wI (wI M 255 32 (-1)) 255 33 0).1 255 32 = -1; simp [wI], wI_same _ _ _ _⟩
  obtain ⟨B, eB, lB, fB⟩ := iter_rel (f := fun t : Int32 × Mem => f_X12_waits_B12 t.2 255 (nI d) (nI x) t.1) P (fun i t => t.1 = nI i ∧ LG t.2 a d (wt (gq a d) (yd P x) i) ∧ Fr SWt M t.2) (fun R => LG R a d (wt (gq a d) (yd P x) P) ∧ Fr SWt M R) (fun i t hi ⟨hs1, hs2, hs3⟩ => by
    obtain ⟨t1, t2⟩ := t
    have hq1 : t1 = nI i := hs1
    have hq2 : LG t2 a d (wt (gq a d) (yd P x) i) := hs2
    have hq3 : Fr SWt M t2 := hs3
    clear hs1 hs2 hs3
    subst hq1
    have hG := gm_fr h hq3
    have hS2 := hG.1.1
    have y4 := yd_4 P x i
    have st : wt (gq a d) (yd P x) (i + 1) = wst (gq a d) (yd P x) i (wt (gq a d) (yd P x) i) := rfl
    have qi := gm_q hG hO hd hi
    have li := gm_l hG hi
    have gi := gp_30 hO hd li
    have said : f_X12_saidOf t2 255 (nI x) (nI i) = some (nI (yd P x i)) := by rw [f_X12_saidOf, gm_p hG, bb_some, said_at hP hx hi]
    have J96 : ∀ x1 x2, ∃ t' : Int32 × Mem, f_X12_waits_J96 t2 255 x1 x2 (nI i) (nI (yd P x i)) = some (.inl t') ∧ t'.1 = nI (i + 1) ∧ LG t'.2 a d (some (i, yd P x i)) ∧ Fr SWt M t'.2 := fun x1 x2 => by
      refine ⟨(nI (i + 1), wI (wI t2 255 32 (nI (qq a d i))) 255 33 (nI (yd P x i))), ?_, rfl, ⟨?_, wI_same _ _ _ _⟩, fr_put (fr_put hq3 ⟨rfl, Or.inl rfl⟩) ⟨rfl, Or.inr rfl⟩⟩
      · rw [f_X12_waits_J96, m_r30 hS2, bb_some, qi, bb_some, pI_at (m_shp hS2), bb_some, pI_at (m_shp (M := wI t2 255 32 (nI (qq a d i))) hS2), bb_some, nI_1]
      · show (wI (wI t2 255 32 _) 255 33 _).1 255 32 = _
        rw [wI_rd, if_neg (by omega)]; exact wI_same _ _ _ _
    refine Or.inl ?_
    show ∃ t' : Int32 × Mem, f_X12_waits_B12 t2 255 (nI d) (nI x) (nI i) = some (.inl t') ∧ _
    rw [st]
    unfold f_X12_waits_B12 wst
    rw [gm_p hG, bb_some, if_neg (nI_ge hi (by omega)), mo_ob hG.1, bb_some, said, bb_some]
    by_cases h0 : yd P x i = 0
    · rw [if_pos (by rw [h0]; rfl), if_pos h0, nI_1]
      exact ⟨_, rfl, rfl, hq2, hq3⟩
    · rw [if_neg (nI_ne0 (by omega) (by omega)), if_neg h0, gI_at (m_shp hS2), bb_some]
      rcases wt_sp (gq a d) (yd P x) i with ⟨e, _⟩ | ⟨j, r, e, L⟩
      · rw [e] at hq2 ⊢
        rw [hq2.1, if_pos rfl]
        unfold f_X12_waits_J53
        rw [gI_at (m_shp hS2), bb_some, hq2.1, if_pos rfl]
        exact J96 _ _
      · rw [e] at hq2 ⊢
        have hj : j < P := by have := L.1; omega
        have lj := gm_l hG hj
        have gj := gp_30 hO hd lj
        have r4 : r < 4 := by rw [← L.2.1]; exact yd_4 P x j
        show ∃ t' : Int32 × Mem, _ ∧ _ ∧ LG t'.2 a d (if r < yd P x i then some (j, r) else if yd P x i = r ∧ gq a d j ≤ gq a d i then some (j, r) else some (i, yd P x i)) ∧ _
        rw [hq2.1, if_neg (nI_nm1 (by omega)), gI_at (m_shp hS2), bb_some, hq2.2]
        by_cases c1 : r < yd P x i
        · rw [if_neg (nI_ge c1 (by omega)), if_pos c1, nI_1]
          exact ⟨_, rfl, rfl, hq2, hq3⟩
        · rw [if_pos (nI_le (by omega) (by omega)), if_neg c1]
          unfold f_X12_waits_J53
          rw [gI_at (m_shp hS2), bb_some, hq2.1, if_neg (nI_nm1 (by omega)), gI_at (m_shp hS2), bb_some, hq2.2]
          by_cases c2 : yd P x i = r
          · rw [if_pos (by rw [c2]), m_r30 hS2, bb_some, qi, bb_some, mo_ob hG.1, bb_some, mo_off hG.1 hO li hd, bb_some, bb_some, bb_some, mo_off hG.1 hO lj hd, bb_some]
            by_cases c3 : gq a d j ≤ gq a d i
            · rw [if_neg (show ¬ nI (gp a (qq a d i) d) < nI (gp a (qq a d j) d) from nI_nlt c3 (by omega)), if_pos ⟨c2, c3⟩, nI_1]
              exact ⟨_, rfl, rfl, hq2, hq3⟩
            · rw [if_pos (show nI (gp a (qq a d i) d) < nI (gp a (qq a d j) d) from nI_lt (by unfold gq at c3; omega) (by omega)), if_neg (fun hh => c3 hh.2)]
              exact J96 _ _
          · rw [if_neg (nI_nq (by omega) (by omega) c2), if_neg (fun hh => c2 hh.1)]
            exact J96 _ _) (fun t ⟨hs1, hs2, hs3⟩ => by
    obtain ⟨t1, t2⟩ := t
    have hq1 : t1 = nI P := hs1
    have hq3 : Fr SWt M t2 := hs3
    subst hq1
    exact ⟨t2, by show f_X12_waits_B12 t2 255 (nI d) (nI x) (nI P) = _; rw [f_X12_waits_B12, gm_p (gm_fr h hq3), bb_some, if_pos (nI_le (Nat.le_refl _) (by omega))], hs2, hq3⟩) 1048576 0 (0, A) (by omega) ⟨rfl, lA, fA⟩ (by omega)
  have eB : f_X12_waits_L12 A 255 (nI d) (nI x) 0 = some B := eB
  refine ⟨B, ?_, lB, fB⟩
  unfold f_X12_waits
  rw [pI_at (m_shp hS), bb_some, pI_at (m_shp (M := wI M 255 32 (-1)) hS), bb_some]
  show ((f_X12_waits_L12 A 255 (nI d) (nI x) 0).bind fun r3 => some r3) = _
  rw [eB, bb_some]
theorem mo_wins (h : GM M a d P) (hO : OkO a) (hd : d < a 0) {x k W : Nat} (hx : x < 16384) (hk : k < P) (hW : W ≤ 99) : ∃ v M', f_X12_winsOf M 255 (nI d) (nI W) (nI x) (nI k) = some (v, M') ∧ v.toInt = wn (cq a d) (ww a W) (wt (gq a d) (yd P x) P) k ∧ Fr SWt M M' := by
  have h8 := hO.1.1
  have h4 := hO.1.2.2.2.2
  have hP := gm_7 h hO hd
  obtain ⟨A, eA, lA, fA⟩ := mo_waits h hO hd hx
  have hG := gm_fr h fA
  have hS := hG.1.1
  unfold f_X12_winsOf
  rw [mo_ob h.1, bb_some, eA, bb_some, gI_at (m_shp hS), bb_some]
  rcases wt_sp (gq a d) (yd P x) P with ⟨e, _⟩ | ⟨j, r, e, L⟩
  · rw [e] at lA ⊢
    rw [lA.1, if_pos rfl]
    exact ⟨0, A, rfl, rfl, fA⟩
  · rw [e] at lA ⊢
    have hj := L.1
    have lj := gm_l hG hj
    have lk := gm_l hG hk
    have r4 : r < 4 := by rw [← L.2.1]; exact yd_4 P x j
    have r0 := L.2.2.1
    have cj := (hO.2.1 _ lj).2.2.2.1
    have wr : ww a W r ≤ 99 := by unfold ww; omega
    rw [lA.1, if_neg (nI_nm1 (by omega)), gI_at (m_shp hS), bb_some, lA.2, mo_ob hG.1, bb_some, mo_gotBy hG.1, bb_some, fade_at hW h4 r0 (by omega)]
    simp only [bb_some, m_r30 hS, gm_q hG hO hd hk, mo_of3 hG.1 (show qq a d j < 8 by omega)]
    show ∃ v M', (if nI (qq a d j) = nI (qq a d k) then some (nI (ww a W r) - nI (a (8 + 5 * qq a d j)), A) else some (nI (ww a W r) - 0, A)) = _ ∧ _
    by_cases jk : j = k
    · subst jk
      rw [if_pos rfl]
      refine ⟨_, A, rfl, ?_, fA⟩
      rw [wn_s]
      exact pk_sub_toInt (by omega) (show a (8 + 5 * qq a d j) < 2 ^ 30 by omega)
    · rw [if_neg (nI_nq (by omega) (by omega) (fun hh => jk ((gm_i hG hj hk).mp hh)))]
      refine ⟨_, A, rfl, ?_, fA⟩
      rw [wn_o _ _ jk]
      have := pk_sub_toInt (a := ww a W r) (b := 0) (by omega) (by omega)
      rw [nI_0] at this
      rw [this]; omega
def DvOk (a : Nat → Nat) (d W P x k s : Nat) : Prop := wn (cq a d) (ww a W) (wt (gq a d) (up (yd P x) k s) P) k ≤ wn (cq a d) (ww a W) (wt (gq a d) (yd P x) P) k
theorem mo_isRestK (h : GM M a d P) (hO : OkO a) (hd : d < a 0) {x k W : Nat} {own : Int32} (hx : x < 16384) (hk : k < P) (hW : W ≤ 99) (hown : own.toInt = wn (cq a d) (ww a W) (wt (gq a d) (yd P x) P) k) : ∃ M', f_X12_isRest_L47 M 255 (nI d) (nI W) (nI x) (nI k) (nI (2 * (P - 1 - k))) own 1 0 = some (bI (dc (∀ s, s < 4 → DvOk a d W P x k s)), M') ∧ Fr SWt M M' := by
  have hP := gm_7 h hO hd
  obtain ⟨R, e, h1, h2⟩ := iter_rel (f := fun t : Int32 × Int32 × Mem => f_X12_isRest_B47 t.2.2 255 (nI d) (nI W) (nI x) (nI k) (nI (2 * (P - 1 - k))) own t.1 t.2.1) 4 (fun i t => t.1 = bI (dc (∀ s, s < i → DvOk a d W P x k s)) ∧ t.2.1 = nI i ∧ Fr SWt M t.2.2) (fun R => R.1 = bI (dc (∀ s, s < 4 → DvOk a d W P x k s)) ∧ Fr SWt M R.2) (fun i t hi ⟨hs1, hs2, hs3⟩ => by
    obtain ⟨t1, t2, t3⟩ := t
    have hq1 : t1 = bI (dc (∀ s, s < i → DvOk a d W P x k s)) := hs1
    have hq2 : t2 = nI i := hs2
    have hq3 : Fr SWt M t3 := hs3
    clear hs1 hs2 hs3
    subst hq2
    have hG := gm_fr h hq3
    refine Or.inl ?_
    show ∃ t' : Int32 × Int32 × Mem, f_X12_isRest_B47 t3 255 (nI d) (nI W) (nI x) (nI k) (nI (2 * (P - 1 - k))) own t1 (nI i) = some (.inl t') ∧ _
    unfold f_X12_isRest_B47
    rw [if_neg (show ¬ 4 ≤ nI i from nI_ge (b := 4) hi (by omega)), hq1]
    by_cases ha : ∀ s, s < i → DvOk a d W P x k s
    · rw [dc_iff.mpr ha, if_neg (show ¬ bI true = 0 by decide)]
      obtain ⟨v, D, eD, hv, fD⟩ := mo_wins hG hO hd (x := dvr P x k i) (dvr_lt hP hx hi) hk hW
      rw [wt_cg (y' := up (yd P x) k i) (fun j hj => dvr_y (x := x) hP hk hi hj)] at hv
      rw [dev_at hP hk hi, mo_ob hG.1, bb_some, eD, bb_some, nI_1]
      have lt : own < v ↔ ¬ DvOk a d W P x k i := by
        rw [Int32.lt_iff_toInt_lt, hown, hv]
        unfold DvOk
        omega
      show ∃ t' : Int32 × Int32 × Mem, (if own < v then _ else _) = _ ∧ _
      by_cases c1 : DvOk a d W P x k i
      · rw [if_neg (fun hh => lt.mp hh c1)]
        refine ⟨_, rfl, ?_, rfl, fr_trans hq3 fD⟩
        show (1 : Int32) = _
        rw [dc_iff.mpr (show ∀ s, s < i + 1 → DvOk a d W P x k s from fun s hs => by
          by_cases es : s = i
          · rw [es]; exact c1
          · exact ha s (by omega))]
        rfl
      · rw [if_pos (lt.mpr c1)]
        refine ⟨_, rfl, ?_, rfl, fr_trans hq3 fD⟩
        show (0 : Int32) = _
        rw [dc_f (fun hh : ∀ s, s < i + 1 → DvOk a d W P x k s => c1 (hh i (by omega)))]
        rfl
    · rw [dc_f ha, if_pos (show bI false = 0 by decide), nI_1]
      refine ⟨_, rfl, ?_, rfl, hq3⟩
      show (0 : Int32) = _
      rw [dc_f (fun hh : ∀ s, s < i + 1 → DvOk a d W P x k s => ha (fun s hs => hh s (by omega)))]
      rfl) (fun t ⟨hs1, hs2, hs3⟩ => by
    obtain ⟨t1, t2, t3⟩ := t
    have hq2 : t2 = nI 4 := hs2
    subst hq2
    exact ⟨(t1, t3), by show f_X12_isRest_B47 t3 255 (nI d) (nI W) (nI x) (nI k) (nI (2 * (P - 1 - k))) own t1 (nI 4) = _; rw [f_X12_isRest_B47, if_pos (by decide)], hs1, hs3⟩) 1048576 0 (1, 0, M) (by omega) ⟨by show (1 : Int32) = _; rw [dc_iff.mpr (show ∀ s, s < 0 → DvOk a d W P x k s from fun s hs => absurd hs (by omega))]; rfl, rfl, fr_refl⟩ (by omega)
  have e : f_X12_isRest_L47 M 255 (nI d) (nI W) (nI x) (nI k) (nI (2 * (P - 1 - k))) own 1 0 = some R := e
  exact ⟨R.2, by rw [e, ← h1], h2⟩
theorem mo_isRest (h : GM M a d P) (hO : OkO a) (hd : d < a 0) {x W : Nat} (hx : x < 16384) (hW : W ≤ 99) : ∃ M', f_X12_isRest M 255 (nI d) (nI W) (nI x) = some (bI (Rr P (gq a d) (cq a d) (ww a W) x), M') ∧ Fr SWt M M' := by
  have hP := gm_7 h hO hd
  have ro : Rr P (gq a d) (cq a d) (ww a W) x = dc (∀ k, k < P → ∀ s, s < 4 → DvOk a d W P x k s) := rfl
  obtain ⟨R, e, h1, h2⟩ := iter_rel (f := fun t : Int32 × Int32 × Mem => f_X12_isRest_B6 t.2.2 255 (nI d) (nI W) (nI x) t.1 t.2.1) P (fun i t => t.1 = bI (dc (∀ k, k < i → ∀ s, s < 4 → DvOk a d W P x k s)) ∧ t.2.1 = nI i ∧ Fr SWt M t.2.2) (fun R => R.1 = bI (dc (∀ k, k < P → ∀ s, s < 4 → DvOk a d W P x k s)) ∧ Fr SWt M R.2) (fun i t hi ⟨hs1, hs2, hs3⟩ => by
    obtain ⟨t1, t2, t3⟩ := t
    have hq1 : t1 = bI (dc (∀ k, k < i → ∀ s, s < 4 → DvOk a d W P x k s)) := hs1
    have hq2 : t2 = nI i := hs2
    have hq3 : Fr SWt M t3 := hs3
    clear hs1 hs2 hs3
    subst hq2
    have hG := gm_fr h hq3
    show (∃ t' : Int32 × Int32 × Mem, f_X12_isRest_B6 t3 255 (nI d) (nI W) (nI x) t1 (nI i) = some (.inl t') ∧ _) ∨ (∃ r, f_X12_isRest_B6 t3 255 (nI d) (nI W) (nI x) t1 (nI i) = some (.inr r) ∧ _)
    unfold f_X12_isRest_B6
    rw [gm_p hG, bb_some, if_neg (nI_ge hi (by omega)), hq1]
    by_cases ha : ∀ k, k < i → ∀ s, s < 4 → DvOk a d W P x k s
    · rw [dc_iff.mpr ha, if_neg (show ¬ bI true = 0 by decide)]
      obtain ⟨v, D, eD, hv, fD⟩ := mo_wins hG hO hd hx hi hW
      obtain ⟨E, eE, fE⟩ := mo_isRestK (gm_fr hG fD) hO hd hx hi hW hv
      refine Or.inl ⟨(bI (dc (∀ s, s < 4 → DvOk a d W P x i s)), nI (i + 1), E), ?_, ?_, rfl, fr_trans hq3 (fr_trans fD fE)⟩
      · rw [bb_some, mo_ob hG.1, bb_some, eD, bb_some, sh_at hP hi]
        show ((f_X12_isRest_L47 D 255 (nI d) (nI W) (nI x) (nI i) (nI (2 * (P - 1 - i))) v 1 0).bind fun r6 => some (Sum.inl (r6.1, nI i + 1, r6.2))) = _
        rw [eE, bb_some, nI_1]
      · show bI _ = bI _
        congr 2
        apply propext
        refine ⟨fun hh k hk => ?_, fun hh => hh i (by omega)⟩
        by_cases ek : k = i
        · rw [ek]; exact hh
        · exact ha k (by omega)
    · rw [dc_f ha, if_pos (show bI false = 0 by decide)]
      refine Or.inr ⟨_, rfl, ?_, hq3⟩
      rw [dc_f (fun hh : ∀ k, k < P → ∀ s, s < 4 → DvOk a d W P x k s => ha (fun k hk => hh k (by omega)))]) (fun t ⟨hs1, hs2, hs3⟩ => by
    obtain ⟨t1, t2, t3⟩ := t
    have hq2 : t2 = nI P := hs2
    have hq3 : Fr SWt M t3 := hs3
    subst hq2
    exact ⟨(t1, t3), by show f_X12_isRest_B6 t3 255 (nI d) (nI W) (nI x) t1 (nI P) = _; rw [f_X12_isRest_B6, gm_p (gm_fr h hq3), bb_some, if_pos (nI_le (Nat.le_refl _) (by omega))], hs1, hs3⟩) 1048576 0 (1, 0, M) (by omega) ⟨by show (1 : Int32) = _; rw [dc_iff.mpr (show ∀ k, k < 0 → ∀ s, s < 4 → DvOk a d W P x k s from fun s hs => absurd hs (by omega))]; rfl, rfl, fr_refl⟩ (by omega)
  have e : f_X12_isRest_L6 M 255 (nI d) (nI W) (nI x) 1 0 = some R := e
  refine ⟨R.2, ?_, h2⟩
  rw [f_X12_isRest, e, bb_some, h1, ← ro, zr_at (by cases Rr P (gq a d) (cq a d) (ww a W) x <;> decide), bb_some]
theorem sl_P (hP : P ≤ 7) : (1 : Int32) <<< (((2 : Int32) * nI P) &&& 31) = nI (4 ^ P) := by
  rw [show (2 : Int32) * nI P = nI (2 * P) by show nI 2 * nI P = _; rw [pk_mul], one_sl (by omega), Nat.pow_mul]
theorem p4_7 (hP : P ≤ 7) : 4 ^ P ≤ 16384 := by
  have : 4 ^ P ≤ 4 ^ 7 := Nat.pow_le_pow_right (by omega) hP
  omega
theorem mo_restL (h : GM M a d P) (hO : OkO a) (hd : d < a 0) {W : Nat} (hW : W ≤ 99) {x4 : Int32} (K : Nat → Prop) (hK : ∀ n, n < 2 ^ 31 → (nI n = x4 ↔ K n)) : ∃ r M', f_X12_rest_L60 M 255 (nI d) (nI W) x4 0 0 = some r ∧ ((r = .inr (nI (cb (Rr P (gq a d) (cq a d) (ww a W)) (4 ^ P)), M') ∧ ∀ x, x < 4 ^ P → Rr P (gq a d) (cq a d) (ww a W) x = true → ¬ K (cb (Rr P (gq a d) (cq a d) (ww a W)) x)) ∨ ∃ x, x < 4 ^ P ∧ Rr P (gq a d) (cq a d) (ww a W) x = true ∧ K (cb (Rr P (gq a d) (cq a d) (ww a W)) x) ∧ r = .inl (nI x, M')) ∧ Fr SWt M M' := by
  have hP := gm_7 h hO hd
  have p4 := p4_7 hP
  generalize hR : Rr P (gq a d) (cq a d) (ww a W) = R
  obtain ⟨r, e, M', h1, h2⟩ := iter_rel (f := fun t : Int32 × Int32 × Mem => f_X12_rest_B60 t.2.2 255 (nI d) (nI W) x4 t.1 t.2.1) (4 ^ P) (fun i t => (t.1 = nI (cb R i) ∧ ∀ x, x < i → R x = true → ¬ K (cb R x)) ∧ t.2.1 = nI i ∧ Fr SWt M t.2.2) (fun r => ∃ M', ((r = .inr (nI (cb R (4 ^ P)), M') ∧ ∀ x, x < 4 ^ P → R x = true → ¬ K (cb R x)) ∨ ∃ x, x < 4 ^ P ∧ R x = true ∧ K (cb R x) ∧ r = .inl (nI x, M')) ∧ Fr SWt M M') (fun i t hi ⟨⟨hs1, hs4⟩, hs2, hs3⟩ => by
    obtain ⟨t1, t2, t3⟩ := t
    have hq1 : t1 = nI (cb R i) := hs1
    have hq2 : t2 = nI i := hs2
    have hq3 : Fr SWt M t3 := hs3
    clear hs1 hs2 hs3
    subst hq1
    subst hq2
    have hG := gm_fr h hq3
    obtain ⟨D, eD, fD⟩ := mo_isRest hG hO hd (x := i) (by omega) hW
    rw [hR] at eD
    have cl := cb_le R i
    have cs := cb_st R i
    have ext : (R i = true → ¬ K (cb R i)) → ∀ x, x < i + 1 → R x = true → ¬ K (cb R x) := fun hh x hx hx2 => by
      by_cases ex : x = i
      · subst ex; exact hh hx2
      · exact hs4 x (by omega) hx2
    show (∃ t' : Int32 × Int32 × Mem, f_X12_rest_B60 t3 255 (nI d) (nI W) x4 (nI (cb R i)) (nI i) = some (.inl t') ∧ _) ∨ (∃ r, f_X12_rest_B60 t3 255 (nI d) (nI W) x4 (nI (cb R i)) (nI i) = some (.inr r) ∧ _)
    unfold f_X12_rest_B60
    rw [gm_p hG, bb_some, sl_P hP, if_neg (nI_ge hi (by omega)), mo_ob hG.1, bb_some, eD, bb_some, nI_1, nI_1]
    by_cases c1 : R i = true
    · rw [if_pos c1] at cs
      rw [c1, if_neg (show ¬ bI true = 0 by decide)]
      by_cases c2 : K (cb R i)
      · rw [if_pos ((hK _ (by omega)).mpr c2)]
        exact Or.inr ⟨_, rfl, D, Or.inr ⟨i, hi, c1, c2, rfl⟩, fr_trans hq3 fD⟩
      · rw [if_neg (fun hh => c2 ((hK _ (by omega)).mp hh))]
        exact Or.inl ⟨_, rfl, ⟨by rw [cs], ext (fun _ => c2)⟩, rfl, fr_trans hq3 fD⟩
    · rw [if_neg c1] at cs
      rw [show R i = false by simpa using c1, if_pos (show bI false = 0 by decide)]
      exact Or.inl ⟨_, rfl, ⟨by rw [cs], ext (fun hh => absurd hh c1)⟩, rfl, fr_trans hq3 fD⟩) (fun t ⟨⟨hs1, hs4⟩, hs2, hs3⟩ => by
    obtain ⟨t1, t2, t3⟩ := t
    have hq1 : t1 = nI (cb R (4 ^ P)) := hs1
    have hq2 : t2 = nI (4 ^ P) := hs2
    have hq3 : Fr SWt M t3 := hs3
    clear hs1 hs2 hs3
    subst hq1
    subst hq2
    exact ⟨.inr (nI (cb R (4 ^ P)), t3), by show f_X12_rest_B60 t3 255 (nI d) (nI W) x4 (nI (cb R (4 ^ P))) (nI (4 ^ P)) = _; rw [f_X12_rest_B60, gm_p (gm_fr h hq3), bb_some, sl_P hP, if_pos (nI_le (Nat.le_refl _) (by omega))], t3, Or.inl ⟨rfl, hs4⟩, hq3⟩) 1048576 0 (0, 0, M) (Nat.zero_le _) ⟨⟨rfl, fun x hx => absurd hx (by omega)⟩, rfl, fr_refl⟩ (by omega)
  exact ⟨r, M', e, h1, h2⟩
end
