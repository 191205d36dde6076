/-! the class measures the office that it has read -/
section
variable {M M' N : Mem} {k r v : Nat → Nat} {n p i w s c x j d m : Nat} {F F' : Nat × Int32}
def Sg (a _b : Nat) : Prop := a = 56 ∨ a = 57
theorem ocs_fr (h : OCs M r) (hF : Fr Sg M M') : OCs M' r := by
  obtain ⟨h1, h2, h3⟩ := h
  refine ⟨fun i hi => ?_, fun d hd j hj => ?_, fun c hc j hj => ?_⟩
  · rw [hF.2 _ _ (by unfold Sg; omega)]; exact h1 i hi
  · rw [hF.2 _ _ (by unfold Sg; omega)]; exact h2 d hd j hj
  · rw [hF.2 _ _ (by unfold Sg; omega)]; exact h3 c hc j hj
theorem or13 (h : Sk N) : gR N 5 47 13 = some 56 := by rw [gR_at (sk_shp h (by omega) rfl), h.2 (47, 13, 56) (by decide)]
theorem or14 (h : Sk N) : gR N 5 47 14 = some 57 := by rw [gR_at (sk_shp h (by omega) rfl), h.2 (47, 14, 57) (by decide)]
theorem dst_gp (r : Nat → Nat) (s d : Nat) : dst (r (6 + 5 * s)) (r (6 + 5 * d)) = gp r s d := by unfold dst gp; split <;> split <;> omega
/-- the fold of who hear desk d -/
def hf (r : Nat → Nat) (d j : Nat) : Nat := fo (fun s acc => if hr r s d = true then acc ||| 2 ^ s else acc) j 0
theorem hf_nx (r : Nat → Nat) (d j : Nat) : hf r d (j + 1) = if hr r j d = true then hf r d j ||| 2 ^ j else hf r d j := rfl
theorem hr_iff : hr r s d = true ↔ (s ≠ d ∧ gp r s d ≤ r 2) := by unfold hr; exact decide_eq_true_iff
/-- measured are the desks before d, and of d the gaps before j -/
def Ms (M0 : Mem) (r : Nat → Nat) (d j : Nat) (M : Mem) : Prop := Fr Sg M0 M ∧ (∀ e, e < d → M.1 56 e = nI (hb r e) ∧ ∀ s, s < r 0 → M.1 57 (8 * e + s) = nI (gp r s e)) ∧ (d < r 0 → M.1 56 d = nI (hf r d j)) ∧ ∀ s, s < j → M.1 57 (8 * d + s) = nI (gp r s d)
theorem pl_at (h : Sk N) (hj : j < 8) : aI N 0 49 (nI j) = some (N.1 49 j) := aI_at (sk_shp h (by omega) rfl) hj (by omega) (by omega)
theorem ms_in {M0 : Mem} (hS : Sk M0) (hO : OCs M0 r) (hr8 : OkF r) (hd : d < r 0) (h : Ms M0 r d 0 M) : ∃ M', f_X5_measure_L19 M 47 (nI d) 0 = some M' ∧ Ms M0 r d (r 0) M' := by
  have h8 := hr8.1.1
  refine iter_rel (f := fun s' : Int32 × Mem => f_X5_measure_B19 s'.2 47 (nI d) s'.1) (r 0) (fun j s' => s'.1 = nI j ∧ Ms M0 r d j s'.2) (fun M' => Ms M0 r d (r 0) M') ?_ ?_ 1048576 0 (0, M) (Nat.zero_le _) ⟨rfl, h⟩ (by omega)
  · intro j ⟨y, N⟩ hj ⟨q1, q2⟩
    have q1 : y = nI j := q1
    subst q1
    have q2 : Ms M0 r d j N := q2
    obtain ⟨f1, g1, g2, g3⟩ := q2
    have hSN := fr_sk f1 hS
    have hON := ocs_fr hO f1
    have hpj : N.1 49 j = nI (r (6 + 5 * j)) := by have := hON.2.1 j hj 1 (by omega); rw [show 5 + 5 * j + 1 = 6 + 5 * j by omega] at this; exact this
    have hpd : N.1 49 d = nI (r (6 + 5 * d)) := by have := hON.2.1 d hd 1 (by omega); rw [show 5 + 5 * d + 1 = 6 + 5 * d by omega] at this; exact this
    have b1 := (hr8.2.1 j hj).2.1
    have b2 := (hr8.2.1 d hd).2.1
    have ix : nI d * 8 + nI j = nI (8 * d + j) := by rw [show (8 : Int32) = nI 8 from rfl, pk_mul, nI_add, Nat.mul_comm]
    have sg : ∀ z, sI N 0 57 (nI (8 * d + j)) z = some (wI N 57 (8 * d + j) z) := fun z => os_ hSN ⟨by omega, rfl⟩ (L := 64) (by omega) (by omega) z
    have hgl : gp r j d ≤ 30 := by rw [← dst_gp]; unfold dst; split <;> omega
    refine Or.inl ?_
    show ∃ s', f_X5_measure_B19 N 47 (nI d) (nI j) = some (.inl s') ∧ _
    unfold f_X5_measure_B19
    rw [og hSN, bb_some, hON.1 0 (by omega), if_neg (nI_ge hj (by omega)), or6 hSN, bb_some, pl_at hSN (by omega), bb_some, bb_some, pl_at hSN (by omega), bb_some, or14 hSN, bb_some, hpj, hpd, abs_at (by omega) (by omega), dst_gp, ix, sg, bb_some]
    have hSW : Sk (wI N 57 (8 * d + j) (nI (gp r j d))) := hSN
    have w3 : ∀ M1 : Mem, Fr (fun a _ => a = 56) (wI N 57 (8 * d + j) (nI (gp r j d))) M1 → ∀ s, s < j + 1 → M1.1 57 (8 * d + s) = nI (gp r s d) := fun M1 hf1 s hs => by
      rw [hf1.2 _ _ (by omega), wI_rd]
      by_cases e : s = j
      · subst e; rw [if_pos ⟨rfl, rfl⟩]
      · rw [if_neg (by omega)]; exact g3 s (by omega)
    have w1 : ∀ M1 : Mem, Fr (fun a b => a = 56 ∧ b = d) (wI N 57 (8 * d + j) (nI (gp r j d))) M1 → ∀ e, e < d → M1.1 56 e = nI (hb r e) ∧ ∀ s, s < r 0 → M1.1 57 (8 * e + s) = nI (gp r s e) := fun M1 hf1 e he => by
      refine ⟨?_, fun s hs => ?_⟩
      · rw [hf1.2 _ _ (by omega), wI_rd, if_neg (by omega)]; exact (g1 e he).1
      · rw [hf1.2 _ _ (by omega), wI_rd, if_neg (by omega)]; exact (g1 e he).2 s hs
    have fW : Fr Sg M0 (wI N 57 (8 * d + j) (nI (gp r j d))) := fr_put f1 (Or.inr rfl)
    have same : hr r j d = false → ∃ s' : Int32 × Mem, some (Sum.inl (nI j + 1, wI N 57 (8 * d + j) (nI (gp r j d)))) = some (Sum.inl s' : (Int32 × Mem) ⊕ Mem) ∧ s'.1 = nI (j + 1) ∧ Ms M0 r d (j + 1) s'.2 := fun hh => by
      refine ⟨_, rfl, by rw [nI_1], fW, w1 _ fr_refl, fun _ => ?_, w3 _ fr_refl⟩
      rw [hf_nx, hh, if_neg (by decide), wI_rd, if_neg (by omega)]; exact g2 hd
    by_cases e : j = d
    · rw [if_pos (by rw [e])]
      exact same (by rw [← Bool.not_eq_true, hr_iff]; intro hc; exact hc.1 e)
    · rw [if_neg (nI_nq (by omega) (by omega) e), og hSW, bb_some]
      rw [show (wI N 57 (8 * d + j) (nI (gp r j d))).1 47 2 = nI (r 2) by rw [wI_rd, if_neg (by omega)]; exact hON.1 2 (by omega)]
      have b3 := hr8.1.2.2.1
      by_cases hg : r 2 < gp r j d
      · rw [if_pos (nI_lt hg (by omega))]
        exact same (by rw [← Bool.not_eq_true, hr_iff]; intro hc; have := hc.2; omega)
      · rw [if_neg (nI_nlt (by omega) (by omega)), or13 hSW, bb_some, aI_at (sk_shp hSW (n := 56) (by omega) rfl) (show d < 8 by omega) (by omega) (by omega), bb_some, one_sl (show j < 32 by omega), os_ hSW ⟨by omega, rfl⟩ (L := 8) (by omega) (by omega), bb_some]
        have e56 : (wI N 57 (8 * d + j) (nI (gp r j d))).1 56 d = nI (hf r d j) := by rw [wI_rd, if_neg (by omega)]; exact g2 hd
        rw [e56, or_at]
        have hh : hr r j d = true := hr_iff.mpr ⟨e, by omega⟩
        refine ⟨_, rfl, by rw [nI_1], fr_put fW (Or.inl rfl), w1 _ (fr_wI ⟨rfl, rfl⟩), fun _ => ?_, w3 _ (fr_wI rfl)⟩
        rw [hf_nx, if_pos hh, wI_same]
  · intro ⟨y, N⟩ ⟨q1, q2⟩
    have q1 : y = nI (r 0) := q1
    subst q1
    have q2 : Ms M0 r d (r 0) N := q2
    have hSN := fr_sk q2.1 hS
    have hON := ocs_fr hO q2.1
    refine ⟨N, ?_, q2⟩
    show f_X5_measure_B19 N 47 (nI d) (nI (r 0)) = _
    unfold f_X5_measure_B19
    rw [og hSN, bb_some, hON.1 0 (by omega), if_pos (nI_le (Nat.le_refl _) (by omega))]
theorem c_measure (hS : Sk M) (hO : OCs M r) (hr8 : OkF r) : ∃ M', f_X5_measure M 47 = some M' ∧ OC M' 47 r ∧ Fr Sg M M' := by
  have h8 := hr8.1.1
  have key : ∃ M', f_X5_measure_L2 M 47 0 = some M' ∧ Fr Sg M M' ∧ ∀ e, e < r 0 → M'.1 56 e = nI (hb r e) ∧ ∀ s, s < r 0 → M'.1 57 (8 * e + s) = nI (gp r s e) := by
    refine iter_rel (f := fun s' : Int32 × Mem => f_X5_measure_B2 s'.2 47 s'.1) (r 0) (fun d s' => s'.1 = nI d ∧ Fr Sg M s'.2 ∧ ∀ e, e < d → s'.2.1 56 e = nI (hb r e) ∧ ∀ s, s < r 0 → s'.2.1 57 (8 * e + s) = nI (gp r s e)) (fun M' => Fr Sg M M' ∧ ∀ e, e < r 0 → M'.1 56 e = nI (hb r e) ∧ ∀ s, s < r 0 → M'.1 57 (8 * e + s) = nI (gp r s e)) ?_ ?_ 1048576 0 (0, M) (Nat.zero_le _) ⟨rfl, fr_refl, fun e he => absurd he (by omega)⟩ (by omega)
    · intro d ⟨y, N⟩ hd ⟨q1, q2, q3⟩
      have q1 : y = nI d := q1
      subst q1
      have q2 : Fr Sg M N := q2
      have hSN := fr_sk q2 hS
      have hON := ocs_fr hO q2
      have m0 : Ms M r d 0 (wI N 56 d 0) := by
        refine ⟨fr_put q2 (Or.inl rfl), fun e he => ⟨?_, fun s hs => ?_⟩, fun _ => ?_, fun s hs => absurd hs (by omega)⟩
        · rw [wI_rd, if_neg (by omega)]; exact (q3 e he).1
        · rw [wI_rd, if_neg (by omega)]; exact (q3 e he).2 s hs
        · rw [wI_same]; rfl
      obtain ⟨M1, a1, a2, a3, a4, a5⟩ := ms_in hS hO hr8 hd m0
      refine Or.inl ⟨(nI d + 1, M1), ?_, by rw [nI_1], a2, fun e he => ?_⟩
      · show f_X5_measure_B2 N 47 (nI d) = _
        unfold f_X5_measure_B2
        rw [og hSN, bb_some, hON.1 0 (by omega), if_neg (nI_ge hd (by omega)), or13 hSN, bb_some, os_ hSN ⟨by omega, rfl⟩ (L := 8) (by omega) (by omega), bb_some, a1, bb_some]
      · rcases Nat.eq_or_lt_of_le (show e ≤ d by omega) with e' | e'
        · subst e'; exact ⟨a4 hd, a5⟩
        · exact a3 e e'
    · intro ⟨y, N⟩ ⟨q1, q2, q3⟩
      have q1 : y = nI (r 0) := q1
      subst q1
      have q2 : Fr Sg M N := q2
      have hSN := fr_sk q2 hS
      have hON := ocs_fr hO q2
      refine ⟨N, ?_, q2, q3⟩
      show f_X5_measure_B2 N 47 (nI (r 0)) = _
      unfold f_X5_measure_B2
      rw [og hSN, bb_some, hON.1 0 (by omega), if_pos (nI_le (Nat.le_refl _) (by omega))]
  obtain ⟨M', a1, a2, a3⟩ := key
  obtain ⟨o1, o2, o3⟩ := ocs_fr hO a2
  refine ⟨M', ?_, ⟨o1, o2, o3, fun d hd => (a3 d hd).1, fun d hd s hs => (a3 d hd).2 s hs⟩, a2⟩
  unfold f_X5_measure
  rw [a1, bb_some]
theorem c_desks (hS : Sk M) (hO : OC M 47 r) (hr8 : OkF r) : ∃ z, f_X5_callsHaveDesks M 47 = some z ∧ ((z = 1 ∧ ∀ c, c < r 1 → r (45 + 3 * c) < r 0) ∨ (z = 0 ∧ ∃ c, c < r 1 ∧ r 0 ≤ r (45 + 3 * c))) := by
  have h8 := hr8.1.1
  have h10 := hr8.1.2.1
  have key : ∃ res, f_X5_callsHaveDesks_L2 M 47 0 = some res ∧ ((res = Sum.inr () ∧ ∀ c, c < r 1 → r (45 + 3 * c) < r 0) ∨ (res = Sum.inl () ∧ ∃ c, c < r 1 ∧ r 0 ≤ r (45 + 3 * c))) := by
    refine iter_rel (f := fun s' : Int32 => f_X5_callsHaveDesks_B2 M 47 s') (r 1) (fun c s' => s' = nI c ∧ ∀ e, e < c → r (45 + 3 * e) < r 0) (fun res => (res = Sum.inr () ∧ ∀ c, c < r 1 → r (45 + 3 * c) < r 0) ∨ (res = Sum.inl () ∧ ∃ c, c < r 1 ∧ r 0 ≤ r (45 + 3 * c))) ?_ ?_ 1048576 0 0 (Nat.zero_le _) ⟨rfl, fun e he => absurd he (by omega)⟩ (by omega)
    · intro c y hc ⟨q1, q2⟩
      subst q1
      have hv : aI M 0 53 (nI c) = some (nI (r (45 + 3 * c))) := by rw [aI_at (sk_shp hS (n := 53) (by omega) rfl) (show c < 10 by omega) (by omega) (by omega)]; exact congrArg some (hO.2.2.1 c hc 0 (by omega))
      have b7 := (hr8.2.2 c hc).1
      have e0 : f_X5_callsHaveDesks_B2 M 47 (nI c) = (f_X5_hasDesk M 47 (nI (r (45 + 3 * c)))).bind fun v5 => if v5 = 0 then some (.inr (.inl ())) else some (.inl (nI c + 1)) := by
        unfold f_X5_callsHaveDesks_B2
        rw [og hS, bb_some, hO.1 1 (by omega), if_neg (nI_ge hc (by omega)), or10 hS, bb_some, hv, bb_some, ob_at (sk_shp hS (by omega) rfl), bb_some]
      show (∃ s', f_X5_callsHaveDesks_B2 M 47 (nI c) = some (.inl s') ∧ _) ∨ (∃ q, f_X5_callsHaveDesks_B2 M 47 (nI c) = some (.inr q) ∧ _)
      rw [e0]
      unfold f_X5_hasDesk
      rw [if_neg (nI_pos (by omega)), og hS, bb_some, hO.1 0 (by omega)]
      by_cases hd : r (45 + 3 * c) < r 0
      · rw [if_neg (nI_ge hd (by omega)), bb_some, if_neg (by decide)]
        refine Or.inl ⟨_, rfl, nI_1 c, fun e he => ?_⟩
        rcases Nat.eq_or_lt_of_le (show e ≤ c by omega) with e' | e'
        · subst e'; exact hd
        · exact q2 e e'
      · rw [if_pos (nI_le (by omega) (by omega)), bb_some, if_pos rfl]
        exact Or.inr ⟨_, rfl, Or.inr ⟨rfl, c, hc, by omega⟩⟩
    · intro y ⟨q1, q2⟩
      subst q1
      refine ⟨Sum.inr (), ?_, Or.inl ⟨rfl, q2⟩⟩
      show f_X5_callsHaveDesks_B2 M 47 (nI (r 1)) = _
      unfold f_X5_callsHaveDesks_B2
      rw [og hS, bb_some, hO.1 1 (by omega), if_pos (nI_le (Nat.le_refl _) (by omega))]
  obtain ⟨res, a1, a2⟩ := key
  unfold f_X5_callsHaveDesks
  rw [a1, bb_some]
  rcases a2 with ⟨a2, a3⟩ | ⟨a2, a3⟩
  · subst a2; exact ⟨1, rfl, Or.inl ⟨rfl, a3⟩⟩
  · subst a2; exact ⟨0, rfl, Or.inr ⟨rfl, a3⟩⟩
end
