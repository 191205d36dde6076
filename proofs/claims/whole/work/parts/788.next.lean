/-! the next order: the class -/
theorem fnd_ok (n : Nat) : ∀ f x, (match fnd n f x with | none => ∀ z, x ≤ z → z < x + f → isP n z = false | some y => x ≤ y ∧ y < x + f ∧ isP n y = true ∧ ∀ z, x ≤ z → z < y → isP n z = false) := by
  intro f
  induction f with
  | zero => intro x z h1 h2; omega
  | succ f ih =>
    intro x
    show (match (if isP n x = true then some x else fnd n f (x + 1)) with | none => _ | some y => _)
    by_cases h : isP n x = true
    · rw [if_pos h]
      exact ⟨Nat.le_refl _, by omega, h, fun z h1 h2 => absurd h2 (by omega)⟩
    · have h' : isP n x = false := by simpa using h
      rw [if_neg h]
      have g := ih (x + 1)
      cases e : fnd n f (x + 1) with
      | none =>
        rw [e] at g
        intro z h1 h2
        by_cases ez : z = x
        · rw [ez]; exact h'
        · exact g z (by omega) (by omega)
      | some y =>
        rw [e] at g
        obtain ⟨g1, g2, g3, g4⟩ := g
        refine ⟨by omega, by omega, g3, fun z h1 h2 => ?_⟩
        by_cases ez : z = x
        · rw [ez]; exact h'
        · exact g4 z (by omega) h2
theorem ff_sk {α : Type} {p : Nat → Bool} {g : Nat → α → α} {v : α} {x : Nat} : ∀ d, (∀ z, x ≤ z → z < x + d → p z = false) → ff p g (x + d) v = ff p g x v ∧ cb p (x + d) = cb p x := by
  intro d
  induction d with
  | zero => intro _; exact ⟨rfl, rfl⟩
  | succ d ih =>
    intro h
    obtain ⟨h1, h2⟩ := ih (fun z hz hz' => h z hz (by omega))
    have hp : ¬ p (x + d) = true := by rw [h (x + d) (by omega) (by omega)]; decide
    rw [show x + (d + 1) = (x + d) + 1 by omega]
    rw [ff_st, cb_st, if_neg hp, if_neg hp]
    exact ⟨h1, h2⟩
theorem dg_lt {n c i : Nat} (hn : 0 < n) : dg n c i < n := Nat.mod_lt _ hn
theorem p_r5 {M : Mem} (hS : Sk M) : gR M 6 107 5 = some 126 := by rw [gR_at (p_shp hS), hS.2 (107, 5, 126) (by decide)]
theorem p_s126 {M : Mem} (hS : Sk M) : shp M 126 = some (.inr (0, 5)) := sk_shp hS (by omega) rfl
def Tq5 (M : Mem) (n : Nat) (p : Nat → Nat) : Prop := ∀ i, i < n → M.1 126 i = nI (p i)
def S126 : Nat → Nat → Prop := fun q _ => q = 126
theorem t5_a {M : Mem} {n i : Nat} {p : Nat → Nat} (hS : Sk M) (hn : n ≤ 5) (h : Tq5 M n p) (hi : i < n) : aI M 0 126 (nI i) = some (nI (p i)) := by
  rw [aI_at (p_s126 hS) (by omega) (by omega) (by omega), h i hi]
theorem c_swap {M : Mem} {n i j : Nat} {p : Nat → Nat} (hS : Sk M) (hn : n ≤ 5) (h : Tq5 M n p) (hi : i < n) (hj : j < n) : ∃ M', f_X6_swapTrial M 107 (nI i) (nI j) = some M' ∧ Tq5 M' n (sw p i j) ∧ Fr S126 M M' := by
  let A := wI M 126 i (nI (p j))
  have hSA : Sk A := hS
  refine ⟨wI A 126 j (nI (p i)), ?_, fun x hx => ?_, fr_put (fr_wI rfl) rfl⟩
  · unfold f_X6_swapTrial
    rw [p_r5 hS, bb_some, t5_a hS hn h hi, bb_some, bb_some, bb_some, t5_a hS hn h hj, bb_some, sI_at (p_s126 hS) (by omega) (by omega), nar0, bb_some]
    show ((gR A 6 107 5).bind fun v7 => (sI A 0 v7 (nI j) (nI (p i))).bind fun M8 => some M8) = _
    rw [p_r5 hSA, bb_some, sI_at (p_s126 hSA) (by omega) (by omega), nar0, bb_some]
  · show (wI (wI M 126 i _) 126 j _).1 126 x = nI (if x = j then p i else if x = i then p j else p x)
    rw [wI_rd]
    by_cases e : x = j
    · rw [if_pos ⟨rfl, e⟩, if_pos e]
    · rw [if_neg (fun hh => e hh.2), if_neg e, wI_rd]
      by_cases e2 : x = i
      · rw [if_pos ⟨rfl, e2⟩, if_pos e2]
      · rw [if_neg (fun hh => e2 hh.2), if_neg e2]; exact h x hx
theorem m1_neg : (nI 0 - 1 : Int32) < 0 := by decide
theorem c_ats {M : Mem} {n : Nat} {p : Nat → Nat} (hS : Sk M) (hn : n ≤ 5) (h : Tq5 M n p) (hb : ∀ i, i < n → p i < 100) (x1 : Int32) : ∀ k, k + 1 ≤ n → ∀ F, k < F → iter (fun s : Int32 => f_X6_nextTrial_B4 M 107 x1 s) F (nI k - 1) = some (match ats p k with | none => nI 0 - 1 | some q => nI q) := by
  intro k
  induction k with
  | zero =>
    intro _ F hF
    obtain ⟨F, rfl⟩ : ∃ G, F = G + 1 := ⟨F - 1, by omega⟩
    refine iter_end ?_
    show f_X6_nextTrial_B4 M 107 x1 (nI 0 - 1) = _
    rw [f_X6_nextTrial_B4, if_pos m1_neg]
    rfl
  | succ k ih =>
    intro hk F hF
    obtain ⟨F, rfl⟩ : ∃ G, F = G + 1 := ⟨F - 1, by omega⟩
    have e1 : nI (k + 1) - 1 = nI k := pk_sub (b := 1) (by omega)
    have b1 := hb k (by omega)
    have b2 := hb (k + 1) (by omega)
    rw [e1]
    have body : f_X6_nextTrial_B4 M 107 x1 (nI k) = if p k ≤ p (k + 1) then some (.inr (nI k)) else some (.inl (nI k - 1)) := by
      unfold f_X6_nextTrial_B4
      rw [if_neg (nI_pos (by omega)), p_r5 hS, bb_some, t5_a hS hn h (by omega), bb_some, bb_some, nI_1, t5_a hS hn h (by omega), bb_some, dn1]
      by_cases hc : p k ≤ p (k + 1)
      · rw [if_pos (nI_le hc (by omega)), if_pos hc]
      · rw [if_neg (nI_ge (by omega) (by omega)), if_neg hc]
    by_cases hc : p k ≤ p (k + 1)
    · rw [if_pos hc] at body
      rw [iter_end (f := fun s : Int32 => f_X6_nextTrial_B4 M 107 x1 s) body]
      show _ = some (match (if p k ≤ p (k + 1) then some k else ats p k) with | none => nI 0 - 1 | some q => nI q)
      rw [if_pos hc]
    · rw [if_neg hc] at body
      rw [iter_step (f := fun s : Int32 => f_X6_nextTrial_B4 M 107 x1 s) body, ih (by omega) F (by omega)]
      show _ = some (match (if p k ≤ p (k + 1) then some k else ats p k) with | none => nI 0 - 1 | some q => nI q)
      rw [if_neg hc]
theorem ats_lt {p : Nat → Nat} {q : Nat} : ∀ k, ats p k = some q → q < k := by
  intro k
  induction k with
  | zero => intro h; cases h
  | succ k ih =>
    intro h
    have h : (if p k ≤ p (k + 1) then some k else ats p k) = some q := h
    split at h
    · cases h; omega
    · have := ih h; omega
theorem c_oth {M : Mem} {n q : Nat} {p : Nat → Nat} (hS : Sk M) (hn : n ≤ 5) (h : Tq5 M n p) (hb : ∀ i, i < n → p i < 100) (hq : q < n) (x1 : Int32) : ∀ k, k < n → ∀ F, k < F → iter (fun s : Int32 => f_X6_nextTrial_B41 M 107 x1 (nI q) s) F (nI k) = some (nI (oth p q k)) := by
  intro k
  induction k with
  | zero =>
    intro _ F hF
    obtain ⟨F, rfl⟩ : ∃ G, F = G + 1 := ⟨F - 1, by omega⟩
    refine iter_end ?_
    show f_X6_nextTrial_B41 M 107 x1 (nI q) (nI 0) = _
    rw [f_X6_nextTrial_B41, nI_1, if_pos (nI_le (by omega) (by omega))]
    rfl
  | succ k ih =>
    intro hk F hF
    obtain ⟨F, rfl⟩ : ∃ G, F = G + 1 := ⟨F - 1, by omega⟩
    have b1 := hb q hq
    have b2 := hb (k + 1) hk
    have body : f_X6_nextTrial_B41 M 107 x1 (nI q) (nI (k + 1)) = if k + 1 ≤ q + 1 then some (.inr (nI (k + 1))) else if p q ≤ p (k + 1) then some (.inr (nI (k + 1))) else some (.inl (nI k)) := by
      unfold f_X6_nextTrial_B41
      rw [nI_1, p_r5 hS, bb_some, t5_a hS hn h hk, bb_some, bb_some, t5_a hS hn h hq, bb_some, dn1, show nI (k + 1) - 1 = nI k from pk_sub (b := 1) (by omega)]
      by_cases h1 : k + 1 ≤ q + 1
      · rw [if_pos (nI_le h1 (by omega)), if_pos h1]
      · rw [if_neg (nI_ge (by omega) (by omega)), if_neg h1]
        by_cases hc : p q ≤ p (k + 1)
        · rw [if_pos (nI_le hc (by omega)), if_pos hc]
        · rw [if_neg (nI_ge (by omega) (by omega)), if_neg hc]
    have eo : oth p q (k + 1) = if k + 1 ≤ q + 1 then k + 1 else if p q ≤ p (k + 1) then k + 1 else oth p q k := rfl
    rw [eo]
    by_cases h1 : k + 1 ≤ q + 1
    · rw [if_pos h1] at body
      rw [iter_end (f := fun s : Int32 => f_X6_nextTrial_B41 M 107 x1 (nI q) s) body, if_pos h1]
    · rw [if_neg h1] at body
      rw [if_neg h1]
      by_cases hc : p q ≤ p (k + 1)
      · rw [if_pos hc] at body
        rw [iter_end (f := fun s : Int32 => f_X6_nextTrial_B41 M 107 x1 (nI q) s) body, if_pos hc]
      · rw [if_neg hc] at body
        rw [iter_step (f := fun s : Int32 => f_X6_nextTrial_B41 M 107 x1 (nI q) s) body, ih (by omega) F (by omega), if_neg hc]
theorem oth_lt {p : Nat → Nat} {q : Nat} : ∀ k, oth p q k ≤ k := by
  intro k
  induction k with
  | zero => exact Nat.le_refl _
  | succ k ih =>
    show (if k + 1 ≤ q + 1 then k + 1 else if p q ≤ p (k + 1) then k + 1 else oth p q k) ≤ k + 1
    split
    · omega
    · split <;> omega
theorem c_rv {n : Nat} (hn : n ≤ 5) : ∀ f lo hi (M : Mem) (p : Nat → Nat), Sk M → Tq5 M n p → hi ≤ lo + 2 * f → (hi < n ∨ hi ≤ lo) → lo < 2 ^ 30 → hi < 2 ^ 30 → ∀ F, f < F → ∃ M', iter (fun s : Int32 × Int32 × Mem => f_X6_nextTrial_B85 s.2.2 107 s.1 s.2.1) F (nI lo, nI hi, M) = some M' ∧ Tq5 M' n (rvs f lo hi p) ∧ Fr S126 M M' := by
  intro f
  induction f with
  | zero =>
    intro lo hi M p hS h h1 h2 l1 l2 F hF
    obtain ⟨F, rfl⟩ : ∃ G, F = G + 1 := ⟨F - 1, by omega⟩
    refine ⟨M, iter_end ?_, h, fr_refl⟩
    show f_X6_nextTrial_B85 M 107 (nI lo) (nI hi) = _
    rw [f_X6_nextTrial_B85, if_pos (nI_le (by omega) (by omega))]
  | succ f ih =>
    intro lo hi M p hS h h1 h2 l1 l2 F hF
    obtain ⟨F, rfl⟩ : ∃ G, F = G + 1 := ⟨F - 1, by omega⟩
    by_cases hc : hi ≤ lo
    · refine ⟨M, iter_end ?_, ?_, fr_refl⟩
      · show f_X6_nextTrial_B85 M 107 (nI lo) (nI hi) = _
        rw [f_X6_nextTrial_B85, if_pos (nI_le hc (by omega))]
      · show Tq5 M n (if hi ≤ lo then p else _)
        rw [if_pos hc]; exact h
    · obtain ⟨A, eA, hA, fA⟩ := c_swap hS hn h (show lo < n by omega) (show hi < n by omega)
      obtain ⟨B, eB, hB, fB⟩ := ih (lo + 1) (hi - 1) A (sw p lo hi) (fr_sk fA hS) hA (by omega) (by omega) (by omega) (by omega) F (by omega)
      obtain ⟨k, rfl⟩ : ∃ k, hi = k + 1 := ⟨hi - 1, by omega⟩
      refine ⟨B, ?_, ?_, fr_trans fA fB⟩
      · have body : f_X6_nextTrial_B85 M 107 (nI lo) (nI (k + 1)) = some (.inl (nI (lo + 1), nI k, A)) := by
          unfold f_X6_nextTrial_B85
          rw [if_neg (nI_ge (by omega) (by omega)), ob_at (p_shp hS), bb_some, eA, bb_some, nI_1, dn1, show nI (k + 1) - 1 = nI k from pk_sub (b := 1) (by omega)]
        rw [iter_step (f := fun s : Int32 × Int32 × Mem => f_X6_nextTrial_B85 s.2.2 107 s.1 s.2.1) (s := (nI lo, nI (k + 1), M)) body]
        exact eB
      · show Tq5 B n (if k + 1 ≤ lo then p else rvs f (lo + 1) (k + 1 - 1) (sw p lo (k + 1)))
        rw [if_neg hc]; exact hB
theorem c_next {M : Mem} {n : Nat} {p : Nat → Nat} (hS : Sk M) (hn : n ≤ 5) (h : Tq5 M n p) (hb : ∀ i, i < n → p i < 100) : (nx n p = none ∧ f_X6_nextTrial M 107 (nI n) = some (0, M)) ∨ ∃ q M', nx n p = some q ∧ f_X6_nextTrial M 107 (nI n) = some (1, M') ∧ Tq5 M' n q ∧ Fr S126 M M' := by
  by_cases h0 : n = 0
  · subst h0
    refine Or.inl ⟨rfl, ?_⟩
    have e : f_X6_nextTrial_L4 M 107 (nI 0) (nI 0 - 2) = some (nI 0 - 2) := iter_end (by
      show f_X6_nextTrial_B4 M 107 (nI 0) (nI 0 - 2) = _
      rw [f_X6_nextTrial_B4, if_pos (by decide)])
    rw [f_X6_nextTrial, e, bb_some, if_neg (by decide)]
  · have e2 : nI n - 2 = nI (n - 1) - 1 := by
      rw [show (2 : Int32) = nI 2 from rfl, show (1 : Int32) = nI 1 from rfl]
      by_cases h1 : n = 1
      · subst h1; decide
      · rw [pk_sub (by omega), pk_sub (by omega)]; congr 1
    have e1 : nI n - 1 = nI (n - 1) := pk_sub (b := 1) (by omega)
    have e : f_X6_nextTrial_L4 M 107 (nI n) (nI n - 2) = some (match ats p (n - 1) with | none => nI 0 - 1 | some q => nI q) := by rw [e2]; exact c_ats hS hn h hb (nI n) (n - 1) (by omega) 1048576 (by omega)
    unfold nx
    cases ea : ats p (n - 1) with
    | none =>
      rw [ea] at e
      refine Or.inl ⟨rfl, ?_⟩
      rw [f_X6_nextTrial, e, bb_some]
      exact if_neg (by decide)
    | some q =>
      rw [ea] at e
      have hq := ats_lt _ ea
      have ho := oth_lt (p := p) (q := q) (n - 1)
      obtain ⟨A, eA, hA, fA⟩ := c_swap hS hn h (show q < n by omega) (show oth p q (n - 1) < n by omega)
      obtain ⟨B, eB, hB, fB⟩ := c_rv hn 5 (q + 1) (n - 1) A _ (fr_sk fA hS) hA (by omega) (by omega) (by omega) (by omega) 1048576 (by omega)
      have eB : f_X6_nextTrial_L85 A 107 (nI (q + 1)) (nI (n - 1)) = some B := eB
      have e41 : f_X6_nextTrial_L41 M 107 (nI n) (nI q) (nI (n - 1)) = some (nI (oth p q (n - 1))) := c_oth hS hn h hb (by omega) (nI n) (n - 1) (by omega) 1048576 (by omega)
      refine Or.inr ⟨_, B, rfl, ?_, hB, fr_trans fA fB⟩
      rw [f_X6_nextTrial, e, bb_some]
      show (if 0 ≤ nI q then (f_X6_nextTrial_L41 M 107 (nI n) (nI q) (nI n - 1)).bind fun r3 => (ob M 6 107).bind fun _ => (f_X6_swapTrial M 107 (nI q) r3).bind fun z4 => (f_X6_nextTrial_L85 z4 107 (nI q + 1) (nI n - 1)).bind fun r5 => some (1, r5) else some (0, M)) = _
      rw [if_pos (nI_pos' (by omega)), e1, e41, bb_some, ob_at (p_shp hS), bb_some, eA, bb_some, nI_1, eB, bb_some]
