/-! duty -/
theorem io_m1 (x : Int32) {n : Nat} (hn : n < 2 ^ 30) : (x < -1 ∨ nI n ≤ x) ∨ x = -1 ∨ ∃ k, k < n ∧ x = nI k := by
  rcases io_cases x (n := n) (by omega) with (h | h) | h
  · by_cases e : x = -1
    · exact Or.inr (Or.inl e)
    · refine Or.inl (Or.inl ?_)
      rw [Int32.lt_iff_toInt_lt] at h ⊢
      have e1 : (-1 : Int32).toInt = -1 := rfl
      have e0 : (0 : Int32).toInt = 0 := rfl
      have : x.toInt ≠ -1 := fun hh => e (Int32.toInt_inj.mp (by rw [hh, e1]))
      omega
  · exact Or.inl (Or.inr h)
  · exact Or.inr (Or.inr h)
theorem ii_m1o (M : Mem) {x : Int32} {n : Nat} (hn : n < 2 ^ 30) (h : x < -1 ∨ nI n ≤ x) : f_X12_isIn M x (-1) (nI n - 1) = some 0 := by
  unfold f_X12_isIn
  rcases h with h | h
  · rw [if_pos h]
  · have h2 : nI n - 1 < x := by
      rw [Int32.lt_iff_toInt_lt]
      rw [Int32.le_iff_toInt_le, nI_toInt (by omega)] at h
      have e : (nI n - 1).toInt = (n : Int) - 1 := pk_sub_toInt (a := n) (b := 1) hn (by omega)
      omega
    rw [if_pos h2]
    split <;> rfl
theorem ii_m1i (M : Mem) {x : Int32} {n : Nat} (hn : n < 2 ^ 30) (h : x = -1 ∨ ∃ k, k < n ∧ x = nI k) : f_X12_isIn M x (-1) (nI n - 1) = some 1 := by
  have e : (nI n - 1).toInt = (n : Int) - 1 := pk_sub_toInt (a := n) (b := 1) hn (by omega)
  have e1 : (-1 : Int32).toInt = -1 := rfl
  have hb : -1 ≤ x.toInt ∧ x.toInt ≤ (n : Int) - 1 := by
    rcases h with h | ⟨k, hk, h⟩
    · rw [h, e1]; omega
    · rw [h, nI_toInt (by omega)]; omega
  unfold f_X12_isIn
  rw [if_neg (by rw [Int32.lt_iff_toInt_lt, e1]; omega), if_neg (by rw [Int32.lt_iff_toInt_lt, e]; omega)]
def mS (a : Nat → Nat) (s p : Nat) : Bool := decide (s ≠ p ∨ a 0 = 1)
def dv (a : Nat → Nat) : Nat → Nat → Nat
  | 0, _ => 0
  | k + 1, p => fo (fun s v => if mS a s p = true ∧ a (8 + 5 * s) + dv a k s < v then a (8 + 5 * s) + dv a k s else v) (a 0) 9999
theorem fo_min (q : Nat → Bool) (f : Nat → Nat) (v : Nat) : ∀ n, fo (fun s v => if q s = true ∧ f s < v then f s else v) n v ≤ v ∧ (∀ s, s < n → q s = true → fo (fun s v => if q s = true ∧ f s < v then f s else v) n v ≤ f s) ∧ (fo (fun s v => if q s = true ∧ f s < v then f s else v) n v = v ∨ ∃ s, s < n ∧ q s = true ∧ fo (fun s v => if q s = true ∧ f s < v then f s else v) n v = f s) := by
  intro n
  induction n with
  | zero => exact ⟨Nat.le_refl _, fun s hs => absurd hs (by omega), Or.inl rfl⟩
  | succ n ih =>
    obtain ⟨h1, h2, h3⟩ := ih
    show (if q n = true ∧ f n < fo (fun s v => if q s = true ∧ f s < v then f s else v) n v then f n else fo (fun s v => if q s = true ∧ f s < v then f s else v) n v) ≤ v ∧ (∀ s, s < n + 1 → q s = true → (if q n = true ∧ f n < fo (fun s v => if q s = true ∧ f s < v then f s else v) n v then f n else fo (fun s v => if q s = true ∧ f s < v then f s else v) n v) ≤ f s) ∧ ((if q n = true ∧ f n < fo (fun s v => if q s = true ∧ f s < v then f s else v) n v then f n else fo (fun s v => if q s = true ∧ f s < v then f s else v) n v) = v ∨ ∃ s, s < n + 1 ∧ q s = true ∧ (if q n = true ∧ f n < fo (fun s v => if q s = true ∧ f s < v then f s else v) n v then f n else fo (fun s v => if q s = true ∧ f s < v then f s else v) n v) = f s)
    generalize fo (fun s v => if q s = true ∧ f s < v then f s else v) n v = w at h1 h2 h3
    by_cases hc : q n = true ∧ f n < w
    · rw [if_pos hc]
      refine ⟨by omega, fun s hs hq => ?_, Or.inr ⟨n, by omega, hc.1, rfl⟩⟩
      by_cases e : s = n
      · rw [e]; exact Nat.le_refl _
      · have := h2 s (by omega) hq; omega
    · rw [if_neg hc]
      refine ⟨h1, fun s hs hq => ?_, ?_⟩
      · by_cases e : s = n
        · subst e
          have : ¬ f s < w := fun hh => hc ⟨hq, hh⟩
          omega
        · exact h2 s (by omega) hq
      · rcases h3 with h | ⟨s, hs, hq, h⟩
        · exact Or.inl h
        · exact Or.inr ⟨s, by omega, hq, h⟩
theorem ex_may {a : Nat → Nat} (h0 : 0 < a 0) (p : Nat) : ∃ s, s < a 0 ∧ mS a s p = true := by
  unfold mS
  by_cases h1 : a 0 = 1
  · exact ⟨0, by omega, decide_eq_true (Or.inr h1)⟩
  · by_cases h : p = 0
    · exact ⟨1, by omega, decide_eq_true (Or.inl (by omega))⟩
    · exact ⟨0, by omega, decide_eq_true (Or.inl (by omega))⟩
theorem dv_bd {a : Nat → Nat} (hO : OkO a) (h0 : 0 < a 0) : ∀ k p, dv a k p ≤ 20 * k := by
  intro k
  induction k with
  | zero => intro p; exact Nat.le_refl _
  | succ k ih =>
    intro p
    obtain ⟨s, hs, hq⟩ := ex_may h0 p
    have h := (fo_min (fun s => mS a s p) (fun s => a (8 + 5 * s) + dv a k s) 9999 (a 0)).2.1 s hs hq
    have h : dv a (k + 1) p ≤ a (8 + 5 * s) + dv a k s := h
    have := ih s
    have := (hO.2.1 s hs).2.2.2.1
    omega
theorem dv_99 (a : Nat → Nat) : ∀ k p, dv a k p ≤ 9999 := by
  intro k p
  cases k with
  | zero => exact Nat.zero_le _
  | succ k => exact (fo_min (fun s => mS a s p) (fun s => a (8 + 5 * s) + dv a k s) 9999 (a 0)).1
/-- the first of those that cost least -/
def AM (a : Nat → Nat) (p : Nat) (g : Nat → Nat) (i b : Nat) : Prop := b < i ∧ mS a b p = true ∧ (∀ s, s < i → mS a s p = true → g b ≤ g s) ∧ ∀ s, s < b → mS a s p = true → g b < g s
theorem am_dv {a : Nat → Nat} {k p b : Nat} (hO : OkO a) (h0 : 0 < a 0) (hk : k ≤ 20) (h : AM a p (fun s => a (8 + 5 * s) + dv a k s) (a 0) b) : dv a (k + 1) p = a (8 + 5 * b) + dv a k b := by
  obtain ⟨h1, h2, h3⟩ := fo_min (fun s => mS a s p) (fun s => a (8 + 5 * s) + dv a k s) 9999 (a 0)
  have e : dv a (k + 1) p = fo (fun s v => if mS a s p = true ∧ a (8 + 5 * s) + dv a k s < v then a (8 + 5 * s) + dv a k s else v) (a 0) 9999 := rfl
  have h2 : ∀ s, s < a 0 → mS a s p = true → dv a (k + 1) p ≤ a (8 + 5 * s) + dv a k s := h2
  have h3 : dv a (k + 1) p = 9999 ∨ ∃ s, s < a 0 ∧ mS a s p = true ∧ dv a (k + 1) p = a (8 + 5 * s) + dv a k s := h3
  have b1 := dv_bd hO h0 (k + 1) p
  rcases h3 with h3 | ⟨s, hs, hq, h3⟩
  · omega
  · have g1 := h.2.2.1 s hs hq
    have g2 := h2 b h.1 h.2.1
    dsimp only at g1
    omega
def ChI (a : Nat → Nat) (p : Nat) (g : Nat → Nat) (i : Nat) (x : Int32) : Prop := (x = -1 ∧ ∀ s, s < i → mS a s p = false) ∨ ∃ b, x = nI b ∧ AM a p g i b
theorem p_r7 {M : Mem} (hS : Sk M) : gR M 6 107 7 = some 128 := by rw [gR_at (p_shp hS), hS.2 (107, 7, 128) (by decide)]
theorem p_r2 {M : Mem} (hS : Sk M) : gR M 6 107 2 = some 108 := by rw [gR_at (p_shp hS), hS.2 (107, 2, 108) (by decide)]
theorem p_s128 {M : Mem} (hS : Sk M) : shp M 128 = some (.inr (0, 168)) := sk_shp hS (by omega) rfl
theorem p_s108 {M : Mem} (hS : Sk M) : shp M 108 = some (.inr (0, 20)) := sk_shp hS (by omega) rfl
theorem x8 (d s : Nat) : nI d * 8 + nI s = nI (8 * d + s) := by
  show nI d * nI 8 + nI s = _
  rw [pk_mul, nI_add]; congr 1; omega
theorem c_cheap {M : Mem} {o d p : Nat} {a g : Nat → Nat} {x3 : Int32} (hC : CO M o a) (hO : OkO a) (h0 : 0 < a 0) (hd : d ≤ 20) (hx : ∀ s, s < 8 → (nI s = x3 ↔ s = p)) (hg : ∀ s, s < a 0 → M.1 128 (8 * d + s) = nI (g s) ∧ g s < 2 ^ 20) : ∃ b, f_X6_cheapest M 107 o (nI d) x3 = some (nI b) ∧ AM a p g (a 0) b := by
  have h8 := hO.1.1
  have hS := hC.1
  have rd : ∀ s, s < a 0 → aI M 0 128 (nI d * 8 + nI s) = some (nI (g s)) := fun s hs => by
    rw [x8, aI_at (p_s128 hS) (by omega) (by omega) (by omega), (hg s hs).1]
  obtain ⟨r, e, hr⟩ := iter_rel (f := fun s : Int32 × Int32 => f_X6_cheapest_B6 M 107 o (nI d) x3 s.1 s.2) (a 0) (fun i s => s.2 = nI i ∧ ChI a p g i s.1) (fun r => ChI a p g (a 0) r) (fun i s hi ⟨hs1, hs2⟩ => by
    obtain ⟨s1, s2⟩ := s
    have hs1 : s2 = nI i := hs1
    subst hs1
    have hs2 : ChI a p g i s1 := hs2
    have J0 : mS a i p = false → ∃ s' : Int32 × Int32, f_X6_cheapest_J34 M 107 o (nI d) x3 s1 (nI i) 0 = some (.inl s') ∧ s'.2 = nI (i + 1) ∧ ChI a p g (i + 1) s'.1 := fun hm => by
      refine ⟨(s1, nI (i + 1)), by rw [f_X6_cheapest_J34, if_pos rfl, nI_1], rfl, ?_⟩
      have sp : ∀ s, s < i + 1 → mS a s p = true → s < i := fun s hs hq => by
        by_cases e : s = i
        · rw [e, hm] at hq; cases hq
        · omega
      rcases hs2 with ⟨g1, g2⟩ | ⟨b, g1, g2, g3, g4, g5⟩
      · refine Or.inl ⟨g1, fun s hs => ?_⟩
        by_cases e : s = i
        · rw [e]; exact hm
        · exact g2 s (by omega)
      · exact Or.inr ⟨b, g1, by omega, g3, fun s hs hq => g4 s (sp s hs hq) hq, g5⟩
    have J1 : mS a i p = true → ∃ s' : Int32 × Int32, f_X6_cheapest_J34 M 107 o (nI d) x3 s1 (nI i) 1 = some (.inl s') ∧ s'.2 = nI (i + 1) ∧ ChI a p g (i + 1) s'.1 := fun hm => by
      unfold f_X6_cheapest_J34
      rw [if_neg (by decide)]
      rcases hs2 with ⟨g1, g2⟩ | ⟨b, g1, g2, g3, g4, g5⟩
      · rw [if_pos g1, nI_1]
        refine ⟨_, rfl, rfl, Or.inr ⟨i, rfl, by omega, hm, fun s hs hq => ?_, fun s hs hq => ?_⟩⟩
        · by_cases e : s = i
          · rw [e]; exact Nat.le_refl _
          · have := g2 s (by omega); rw [this] at hq; cases hq
        · have := g2 s hs; rw [this] at hq; cases hq
      · have b1 := (hg b (by omega)).2
        have b2 := (hg i hi).2
        rw [g1, if_neg (nI_nm1 (by omega)), p_r7 hS, bb_some, rd i hi, bb_some, bb_some, rd b (by omega), bb_some, nI_1]
        by_cases hc : g b ≤ g i
        · rw [if_pos (nI_le hc (by omega))]
          refine ⟨_, rfl, rfl, Or.inr ⟨b, rfl, by omega, g3, fun s hs hq => ?_, g5⟩⟩
          by_cases e : s = i
          · rw [e]; exact hc
          · exact g4 s (by omega) hq
        · rw [if_neg (nI_ge (by omega) (by omega))]
          refine ⟨_, rfl, rfl, Or.inr ⟨i, rfl, by omega, hm, fun s hs hq => ?_, fun s hs hq => ?_⟩⟩
          · by_cases e : s = i
            · rw [e]; exact Nat.le_refl _
            · have := g4 s (by omega) hq; omega
          · have := g4 s hs hq; omega
    refine Or.inl ?_
    show ∃ s' : Int32 × Int32, f_X6_cheapest_B6 M 107 o (nI d) x3 s1 (nI i) = some (.inl s') ∧ _
    unfold f_X6_cheapest_B6
    rw [co_g0 hC, bb_some, if_neg (nI_ge hi (by omega)), bb_some]
    by_cases e1 : i = p
    · rw [if_pos ((hx i (by omega)).mpr e1)]
      by_cases e2 : a 0 = 1
      · rw [if_pos (show nI (a 0) = 1 by rw [e2]; rfl)]
        exact J1 (decide_eq_true (Or.inr e2))
      · rw [if_neg (show ¬ nI (a 0) = 1 from nI_nq (k := 1) (by omega) (by omega) e2)]
        exact J0 (decide_eq_false (by omega))
    · rw [if_neg (fun h => e1 ((hx i (by omega)).mp h))]
      exact J1 (decide_eq_true (Or.inl e1))) (fun s ⟨hs1, hs2⟩ => by
    obtain ⟨s1, s2⟩ := s
    have hs1 : s2 = nI (a 0) := hs1
    subst hs1
    exact ⟨s1, by simp [f_X6_cheapest_B6, co_g0 hC], hs2⟩) 1048576 0 (-1, 0) (by omega) ⟨rfl, Or.inl ⟨rfl, fun s hs => absurd hs (by omega)⟩⟩ (by omega)
  have e : f_X6_cheapest_L6 M 107 o (nI d) x3 (-1) 0 = some r := e
  rcases hr with ⟨h1, h2⟩ | ⟨b, h1, h2⟩
  · obtain ⟨s, hs, hq⟩ := ex_may h0 p
    rw [h2 s hs] at hq; cases hq
  · exact ⟨b, by rw [f_X6_cheapest, e, bb_some, h1, if_neg (nI_nm1 (by have := h2.1; omega))], h2⟩
def SQ : Nat → Nat → Prop := fun q k => q = 128 ∨ q = 108 ∨ (q = 107 ∧ k = 0)
theorem sq_q {M M' : Mem} (h : Fr SQ M M') : Qf M M' := fr_q h (fun q k hh => by unfold SQ at hh; unfold zT; omega)
theorem sq_co {M M' : Mem} {o : Nat} {a : Nat → Nat} (hC : CO M o a) (hF : Fr SQ M M') : CO M' o a := co_fr hC hF (fun q k h => by have := hC.2.1; unfold SQ at h; omega)
def pv (r : Nat → Nat) (d : Nat) : Nat := if d = 0 then 8 else r (d - 1)
def Chn (a : Nat → Nat) (n : Nat) (r : Nat → Nat) (m : Nat) : Prop := ∀ d, d < m → AM a (pv r d) (fun s => a (8 + 5 * s) + dv a (n - d - 1) s) (a 0) (r d)
/-- the costs from a day on -/
def DCo (M : Mem) (a : Nat → Nat) (n d : Nat) : Prop := (∀ s, s < a 0 → M.1 128 (8 * n + s) = nI 0) ∧ ∀ e, d ≤ e → e < n → ∀ s, s < a 0 → M.1 128 (8 * e + s) = nI (a (8 + 5 * s) + dv a (n - e - 1) s)
theorem c_dutyB {M : Mem} {o n d : Nat} {a : Nat → Nat} (hC : CO M o a) (hO : OkO a) (hn : n ≤ 20) (hd : d < n) (hD : DCo M a n (d + 1)) : ∃ M', f_X6_planDuty_L39 M 107 o (nI n) (nI d) 0 = some M' ∧ DCo M' a n d ∧ Fr SQ M M' := by
  have h8 := hO.1.1
  obtain ⟨B, eB, h1, h2⟩ := iter_rel (f := fun s : Int32 × Mem => f_X6_planDuty_B39 s.2 107 o (nI n) (nI d) s.1) (a 0) (fun i s => s.1 = nI i ∧ (DCo s.2 a n (d + 1) ∧ ∀ j, j < i → s.2.1 128 (8 * d + j) = nI (a (8 + 5 * j) + dv a (n - d - 1) j)) ∧ Fr SQ M s.2) (fun r => DCo r a n d ∧ Fr SQ M r) (fun i s hi ⟨hs1, ⟨hs2, hs3⟩, hs4⟩ => by
    obtain ⟨s1, s2⟩ := s
    have hs1 : s1 = nI i := hs1
    subst hs1
    have hs2 : DCo s2 a n (d + 1) := hs2
    have hs3 : ∀ j, j < i → s2.1 128 (8 * d + j) = nI (a (8 + 5 * j) + dv a (n - d - 1) j) := hs3
    have hs4 : Fr SQ M s2 := hs4
    have hC2 := sq_co hC hs4
    have hS2 := hC2.1
    have hx : ∀ s, s < 8 → (nI s = nI i ↔ s = i) := fun s hs => nI_eq (by omega) (by omega)
    have key : ∃ b, b < a 0 ∧ f_X6_cheapest s2 107 o (nI (d + 1)) (nI i) = some (nI b) ∧ s2.1 128 (8 * (d + 1) + b) = nI (dv a (n - d - 1) i) := by
      by_cases he : d + 1 = n
      · obtain ⟨b, e1, e2⟩ := c_cheap (g := fun _ => 0) hC2 hO (by omega) (show d + 1 ≤ 20 by omega) hx (fun s hs => ⟨by rw [he]; exact hs2.1 s hs, by omega⟩)
        refine ⟨b, e2.1, e1, ?_⟩
        rw [he, hs2.1 b e2.1, show n - d - 1 = 0 by omega]; rfl
      · obtain ⟨b, e1, e2⟩ := c_cheap (g := fun s => a (8 + 5 * s) + dv a (n - (d + 1) - 1) s) hC2 hO (by omega) (show d + 1 ≤ 20 by omega) hx (fun s hs => ⟨hs2.2 (d + 1) (by omega) (by omega) s hs, by have := dv_99 a (n - (d + 1) - 1) s; have := (hO.2.1 s hs).2.2.2.1; omega⟩)
        refine ⟨b, e2.1, e1, ?_⟩
        rw [hs2.2 (d + 1) (by omega) (by omega) b e2.1, ← am_dv hO (by omega) (by omega) e2, show n - (d + 1) - 1 + 1 = n - d - 1 by omega]
    obtain ⟨b, hb, e1, e2⟩ := key
    refine Or.inl ⟨(nI (i + 1), wI s2 128 (8 * d + i) (nI (a (8 + 5 * i) + dv a (n - d - 1) i))), ?_, rfl, ⟨⟨fun s hs => ?_, fun e h1 h2 s hs => ?_⟩, fun j hj => ?_⟩, fr_put hs4 (Or.inl rfl)⟩
    · show f_X6_planDuty_B39 s2 107 o (nI n) (nI d) (nI i) = _
      unfold f_X6_planDuty_B39
      rw [co_g0 hC2, bb_some, if_neg (nI_ge hi (by omega)), ob_at (p_shp hS2), bb_some, nI_1, e1, bb_some, p_r7 hS2, bb_some, co_r8 hC2, bb_some, co_cost hC2 hO hi, bb_some, bb_some, x8, aI_at (p_s128 hS2) (by omega) (by omega) (by omega), e2, bb_some, x8, nI_add, sI_at (p_s128 hS2) (by omega) (by omega), nar0, bb_some, nI_1]
    · show (wI s2 128 (8 * d + i) _).1 128 (8 * n + s) = _
      rw [wI_rd, if_neg (by omega)]; exact hs2.1 s hs
    · show (wI s2 128 (8 * d + i) _).1 128 (8 * e + s) = _
      rw [wI_rd, if_neg (by omega)]; exact hs2.2 e h1 h2 s hs
    · show (wI s2 128 (8 * d + i) _).1 128 (8 * d + j) = _
      rw [wI_rd]
      by_cases e : j = i
      · subst e; rw [if_pos ⟨rfl, rfl⟩]
      · rw [if_neg (by omega)]; exact hs3 j (by omega)) (fun s ⟨hs1, ⟨hs2, hs3⟩, hs4⟩ => by
    obtain ⟨s1, s2⟩ := s
    have hs1 : s1 = nI (a 0) := hs1
    subst hs1
    have hs4 : Fr SQ M s2 := hs4
    refine ⟨s2, by simp [f_X6_planDuty_B39, co_g0 (sq_co hC hs4)], ⟨hs2.1, fun e h1 h2 s hs => ?_⟩, hs4⟩
    by_cases he : e = d
    · subst he; exact hs3 s hs
    · exact hs2.2 e (by omega) h2 s hs) 1048576 0 (0, M) (by omega) ⟨rfl, ⟨hD, fun j hj => absurd hj (by omega)⟩, fr_refl⟩ (by omega)
  exact ⟨B, eB, h1, h2⟩
theorem dn1 (x : Int32) : x + Int32.ofInt (-1) = x - 1 := by
  rw [Int32.sub_eq_add_neg]; rfl
theorem c_duty {M : Mem} {o n : Nat} {a : Nat → Nat} (hC : CO M o a) (hO : OkO a) (hn : n ≤ 20) (h0 : 0 < n → 0 < a 0) : ∃ r M', f_X6_planDuty M 107 o (nI n) = some M' ∧ (Chn a n r n ∧ (∀ d, d < n → M'.1 108 d = nI (r d)) ∧ M'.1 107 0 = nI (dv a n 8)) ∧ Fr SQ M M' := by
  have h8 := hO.1.1
  obtain ⟨A, eA, hA, fA⟩ := iter_rel (f := fun s : Int32 × Mem => f_X6_planDuty_B2 s.2 107 o (nI n) s.1) (a 0) (fun i s => s.1 = nI i ∧ (∀ j, j < i → s.2.1 128 (8 * n + j) = nI 0) ∧ Fr SQ M s.2) (fun r => (∀ s, s < a 0 → r.1 128 (8 * n + s) = nI 0) ∧ Fr SQ M r) (fun i s hi ⟨hs1, hs3, hs4⟩ => by
    obtain ⟨s1, s2⟩ := s
    have hs1 : s1 = nI i := hs1
    subst hs1
    have hs3 : ∀ j, j < i → s2.1 128 (8 * n + j) = nI 0 := hs3
    have hs4 : Fr SQ M s2 := hs4
    have hC2 := sq_co hC hs4
    refine Or.inl ⟨(nI (i + 1), wI s2 128 (8 * n + i) (nI 0)), ?_, rfl, fun j hj => ?_, fr_put hs4 (Or.inl rfl)⟩
    · show f_X6_planDuty_B2 s2 107 o (nI n) (nI i) = _
      unfold f_X6_planDuty_B2
      rw [co_g0 hC2, bb_some, if_neg (nI_ge hi (by omega)), p_r7 hC2.1, bb_some, x8, sI_at (p_s128 hC2.1) (by omega) (by omega), nar0, bb_some, nI_1, nI_0]
    · show (wI s2 128 (8 * n + i) _).1 128 (8 * n + j) = _
      rw [wI_rd]
      by_cases e : j = i
      · subst e; rw [if_pos ⟨rfl, rfl⟩]
      · rw [if_neg (by omega)]; exact hs3 j (by omega)) (fun s ⟨hs1, hs3, hs4⟩ => by
    obtain ⟨s1, s2⟩ := s
    have hs1 : s1 = nI (a 0) := hs1
    subst hs1
    have hs4 : Fr SQ M s2 := hs4
    exact ⟨s2, by simp [f_X6_planDuty_B2, co_g0 (sq_co hC hs4)], hs3, hs4⟩) 1048576 0 (0, M) (by omega) ⟨rfl, fun j hj => absurd hj (by omega), fr_refl⟩ (by omega)
  have eA : f_X6_planDuty_L2 M 107 o (nI n) 0 = some A := eA
  obtain ⟨B, eB, hB, fB⟩ := iter_rel (f := fun s : Int32 × Mem => f_X6_planDuty_B32 s.2 107 o (nI n) s.1) n (fun i s => s.1 = nI (n - i) - 1 ∧ DCo s.2 a n (n - i) ∧ Fr SQ M s.2) (fun r => DCo r a n 0 ∧ Fr SQ M r) (fun i s hi ⟨hs1, hs3, hs4⟩ => by
    obtain ⟨s1, s2⟩ := s
    have e1 : nI (n - i) - 1 = nI (n - i - 1) := pk_sub (b := 1) (by omega)
    have hs1 : s1 = nI (n - i) - 1 := hs1
    rw [e1] at hs1
    subst hs1
    have hs3 : DCo s2 a n (n - i) := hs3
    have hs4 : Fr SQ M s2 := hs4
    obtain ⟨D, eD, hD, fD⟩ := c_dutyB (sq_co hC hs4) hO hn (show n - i - 1 < n by omega) (by rw [show n - i - 1 + 1 = n - i by omega]; exact hs3)
    refine Or.inl ⟨(nI (n - (i + 1)) - 1, D), ?_, rfl, by rw [show n - (i + 1) = n - i - 1 by omega]; exact hD, fr_trans hs4 fD⟩
    show f_X6_planDuty_B32 s2 107 o (nI n) (nI (n - i - 1)) = _
    unfold f_X6_planDuty_B32
    rw [if_neg (nI_pos (by omega)), eD, bb_some, show n - (i + 1) = n - i - 1 by omega, dn1]) (fun s ⟨hs1, hs3, hs4⟩ => by
    obtain ⟨s1, s2⟩ := s
    have hs1 : s1 = nI (n - n) - 1 := hs1
    rw [Nat.sub_self] at hs1
    subst hs1
    have hs3 : DCo s2 a n (n - n) := hs3
    rw [Nat.sub_self] at hs3
    exact ⟨s2, by show f_X6_planDuty_B32 s2 107 o (nI n) (nI 0 - 1) = _; rw [f_X6_planDuty_B32, if_pos (by decide)], hs3, hs4⟩) 1048576 0 (nI n - 1, A) (by omega) ⟨rfl, ⟨hA, fun e h1 h2 => absurd h2 (by omega)⟩, fA⟩ (by omega)
  have eB : f_X6_planDuty_L32 A 107 o (nI n) (nI n - 1) = some B := eB
  obtain ⟨D, eD, ⟨r, hD1, hD2⟩, hD3, fD⟩ := iter_rel (f := fun s : Int32 × Int32 × Mem => f_X6_planDuty_B111 s.2.2 107 o (nI n) s.1 s.2.1) n (fun i s => (∃ r, Chn a n r i ∧ (∀ d, d < i → s.2.2.1 108 d = nI (r d)) ∧ (∀ q, q < 8 → (nI q = s.1 ↔ q = pv r i))) ∧ s.2.1 = nI i ∧ DCo s.2.2 a n 0 ∧ Fr SQ M s.2.2) (fun q => (∃ r, Chn a n r n ∧ (∀ d, d < n → q.1 108 d = nI (r d))) ∧ DCo q a n 0 ∧ Fr SQ M q) (fun i s hi ⟨⟨r, hr1, hr2, hr3⟩, hs2, hs3, hs4⟩ => by
    obtain ⟨s1, s2, s3⟩ := s
    have hs2 : s2 = nI i := hs2
    subst hs2
    have hs3 : DCo s3 a n 0 := hs3
    have hs4 : Fr SQ M s3 := hs4
    have hr2 : ∀ d, d < i → s3.1 108 d = nI (r d) := hr2
    have hr3 : ∀ q, q < 8 → (nI q = s1 ↔ q = pv r i) := hr3
    have hC2 := sq_co hC hs4
    obtain ⟨b, e1, e2⟩ := c_cheap (g := fun s => a (8 + 5 * s) + dv a (n - i - 1) s) hC2 hO (h0 (by omega)) (show i ≤ 20 by omega) hr3 (fun s hs => ⟨hs3.2 i (by omega) hi s hs, by have := dv_99 a (n - i - 1) s; have := (hO.2.1 s hs).2.2.2.1; omega⟩)
    have up' : ∀ d, d < i → up r i b d = r d := fun d hd => up_n _ _ (by omega)
    have pv' : ∀ d, d ≤ i → pv (up r i b) d = pv r d := fun d hd => by
      unfold pv
      split
      · rfl
      · exact up_n _ _ (by omega)
    refine Or.inl ⟨(nI b, nI (i + 1), wI s3 108 i (nI b)), ?_, ⟨up r i b, fun d hd => ?_, fun d hd => ?_, fun q hq => ?_⟩, rfl, ⟨fun s hs => ?_, fun e h1 h2 s hs => ?_⟩, fr_put hs4 (Or.inr (Or.inl rfl))⟩
    · show f_X6_planDuty_B111 s3 107 o (nI n) s1 (nI i) = _
      unfold f_X6_planDuty_B111
      rw [if_neg (nI_ge hi (by omega)), ob_at (p_shp hC2.1), bb_some, e1, bb_some, p_r2 hC2.1, bb_some, sI_at (p_s108 hC2.1) (by omega) (by omega), nar0, bb_some, nI_1]
    · by_cases e : d = i
      · subst e; rw [pv' d (Nat.le_refl _), up_s]; exact e2
      · rw [pv' d (by omega), up' d (by omega)]; exact hr1 d (by omega)
    · show (wI s3 108 i _).1 108 d = _
      rw [wI_rd]
      by_cases e : d = i
      · subst e; rw [if_pos ⟨rfl, rfl⟩, up_s]
      · rw [if_neg (by omega), up' d (by omega)]; exact hr2 d (by omega)
    · have := e2.1
      show nI q = nI b ↔ q = pv (up r i b) (i + 1)
      unfold pv
      rw [if_neg (by omega), show i + 1 - 1 = i by omega, up_s]
      exact nI_eq (by omega) (by omega)
    · show (wI s3 108 i _).1 128 (8 * n + s) = _
      rw [wI_rd, if_neg (by omega)]; exact hs3.1 s hs
    · show (wI s3 108 i _).1 128 (8 * e + s) = _
      rw [wI_rd, if_neg (by omega)]; exact hs3.2 e h1 h2 s hs) (fun s ⟨⟨r, hr1, hr2, hr3⟩, hs2, hs3, hs4⟩ => by
    obtain ⟨s1, s2, s3⟩ := s
    have hs2 : s2 = nI n := hs2
    subst hs2
    exact ⟨s3, by simp [f_X6_planDuty_B111], ⟨r, hr1, hr2⟩, hs3, hs4⟩) 1048576 0 (-1, 0, B) (by omega) ⟨⟨fun _ => 0, fun d hd => absurd hd (by omega), fun d hd => absurd hd (by omega), fun q hq => ⟨fun h => absurd h (nI_nm1 (by omega)), fun h => absurd h (by unfold pv; rw [if_pos rfl]; omega)⟩⟩, rfl, hB, fB⟩ (by omega)
  have eD : f_X6_planDuty_L111 B 107 o (nI n) (-1) 0 = some D := eD
  have hSD := fr_sk fD hC.1
  have fE : Fr SQ M (wI D 107 0 (nI (dv a n 8))) := fr_put fD (Or.inr (Or.inr ⟨rfl, rfl⟩))
  refine ⟨r, wI D 107 0 (nI (dv a n 8)), ?_, ⟨hD1, fun d hd => by rw [wI_rd, if_neg (by omega)]; exact hD2 d hd, wI_same _ _ _ _⟩, fE⟩
  unfold f_X6_planDuty f_X6_planDuty_J160
  rw [eA, bb_some, eB, bb_some, eD, bb_some]
  by_cases hn0 : n = 0
  · subst hn0
    rw [if_pos (show nI 0 = 0 from rfl), pI_at (p_shp hSD), bb_some]
    rfl
  · have am := hD1 0 (by omega)
    have b0 := am.1
    have ev : dv a n 8 = a (8 + 5 * r 0) + dv a (n - 1) (r 0) := by
      have := am_dv hO (h0 (by omega)) (show n - 0 - 1 ≤ 20 by omega) am
      rw [show n - 0 - 1 + 1 = n by omega, show pv r 0 = 8 from rfl] at this
      exact this
    have ra : aI D 0 108 0 = some (nI (r 0)) := by
      have := aI_at (p_s108 hSD) (i := 0) (by omega) (by omega) (by omega)
      rw [hD2 0 (by omega)] at this
      exact this
    have rb : aI D 0 128 (nI (r 0)) = some (nI (dv a n 8)) := by
      have := hD3.2 0 (by omega) (by omega) (r 0) b0
      rw [show 8 * 0 + r 0 = r 0 by omega, show n - 0 - 1 = n - 1 by omega, ← ev] at this
      rw [aI_at (p_s128 hSD) (by omega) (by omega) (by omega), this]
    rw [if_neg (nI_ne0 (by omega) (by omega)), p_r7 hSD, bb_some, p_r2 hSD, bb_some, ra, bb_some, rb, bb_some, pI_at (p_shp hSD), bb_some]
theorem mo_may {M : Mem} {a : Nat → Nat} (hM : MO M a) (hO : OkO a) {s p : Nat} (hs : s < 2 ^ 31) (hp : p < 2 ^ 31) : f_X12_mayServe M 255 (nI s) (nI p) = some (bI (mS a s p)) := by
  have h8 := hO.1.1
  unfold f_X12_mayServe mS
  by_cases e : s = p
  · rw [if_pos (by rw [e]), mo_g12 hM, bb_some]
    by_cases e2 : a 0 = 1
    · rw [if_pos (show nI (a 0) = 1 by rw [e2]; rfl), decide_eq_true (Or.inr e2)]; rfl
    · rw [if_neg (show ¬ nI (a 0) = 1 from nI_nq (k := 1) (by omega) (by omega) e2), decide_eq_false (by omega)]; rfl
  · rw [if_neg (nI_nq hs hp e), decide_eq_true (Or.inl e)]; rfl
def S9 : Nat → Nat → Prop := fun q _ => q = 269
theorem s9_q {M M' : Mem} (h : Fr S9 M M') : Qf M M' := fr_q h (fun q k hh => by unfold S9 at hh; unfold zT; omega)
theorem s9_mo {M M' : Mem} {a : Nat → Nat} (hM : MO M a) (hF : Fr S9 M M') : MO M' a := mo_fr hM hF (fun q k h => by unfold S9 at h; omega)
def DvR (M : Mem) (a : Nat → Nat) (l : Nat) : Prop := ∀ j, j < 9 → M.1 269 (9 * l + j) = nI (dv a l j)
theorem x9 (l s : Nat) : (9 : Int32) * nI l + nI s = nI (9 * l + s) := by
  show nI 9 * nI l + nI s = _
  rw [pk_mul, nI_add]
theorem x9m (k s : Nat) : (9 : Int32) * nI (k + 1) - 9 + nI s = nI (9 * k + s) := by
  show nI 9 * nI (k + 1) - nI 9 + nI s = _
  rw [pk_mul, pk_sub (by omega), nI_add]; congr 1
theorem mo_r269 {M : Mem} {a : Nat → Nat} (hS : Sk M) {l j : Nat} (hl : l ≤ 20) (hj : j < 9) (h : DvR M a l) : aI M 0 269 (nI (9 * l + j)) = some (nI (dv a l j)) := by
  rw [aI_at (m_s269 hS) (by omega) (by omega) (by omega), h j hj]
theorem mo_dvL {M : Mem} {a : Nat → Nat} (hM : MO M a) (hO : OkO a) {k p : Nat} (hk : k < 20) (hp : p < 9) (hR : DvR M a k) (x1 : Int32) : f_X12_serves_L44 M 255 x1 (nI (k + 1)) (nI p) 9999 0 = some (nI (dv a (k + 1) p)) := by
  have h8 := hO.1.1
  exact (iter_for (f := fun s : Int32 × Int32 => f_X12_serves_B44 M 255 x1 (nI (k + 1)) (nI p) s.1 s.2) (a 0) (fun s v => if mS a s p = true ∧ a (8 + 5 * s) + dv a k s < v then a (8 + 5 * s) + dv a k s else v) (fun i v => (nI v, nI i)) nI (fun _ v => v ≤ 9999) (fun i v hi hv => by
    have b1 := dv_99 a k i
    have b2 := (hO.2.1 i hi).2.2.2.1
    refine ⟨?_, by split <;> omega⟩
    show f_X12_serves_B44 M 255 x1 (nI (k + 1)) (nI p) (nI v) (nI i) = _
    unfold f_X12_serves_B44
    rw [mo_g12 hM, bb_some, if_neg (nI_ge hi (by omega)), mo_ob hM, bb_some, mo_of3 hM (by omega), bb_some, m_r42 hM.1, bb_some, x9m, mo_r269 hM.1 (by omega) (by omega) hR, bb_some, bb_some, mo_may hM hO (by omega) (by omega), bb_some, nI_add, nI_1]
    by_cases hm : mS a i p = true
    · rw [hm, if_neg (by decide)]
      by_cases hc : v ≤ a (8 + 5 * i) + dv a k i
      · rw [if_pos (nI_le hc (by omega)), if_neg (fun h => by have := h.2; omega)]
      · rw [if_neg (nI_ge (by omega) (by omega)), if_pos ⟨rfl, by omega⟩]
    · rw [show mS a i p = false by simpa using hm, if_pos (by rfl), if_neg (fun h => by have := h.1; cases this)]) (fun v hv => by
    show f_X12_serves_B44 M 255 x1 (nI (k + 1)) (nI p) (nI v) (nI (a 0)) = _
    simp [f_X12_serves_B44, mo_g12 hM]) 9999 (by omega) 1048576 (by omega)).1
theorem mo_serves {M : Mem} {a : Nat → Nat} {n : Nat} (hM : MO M a) (hO : OkO a) (hn : n ≤ 20) : ∃ M', f_X12_serves M 255 (nI n) = some M' ∧ (∀ l, l ≤ n → DvR M' a l) ∧ Fr S9 M M' := by
  obtain ⟨A, eA, hA, fA⟩ := iter_rel (f := fun s : Int32 × Mem => f_X12_serves_B2 s.2 255 (nI n) s.1) 9 (fun i s => s.1 = nI i ∧ (∀ j, j < i → s.2.1 269 j = nI 0) ∧ Fr S9 M s.2) (fun r => DvR r a 0 ∧ Fr S9 M r) (fun i s hi ⟨hs1, hs3, hs4⟩ => by
    obtain ⟨s1, s2⟩ := s
    have hs1 : s1 = nI i := hs1
    subst hs1
    have hs3 : ∀ j, j < i → s2.1 269 j = nI 0 := hs3
    have hs4 : Fr S9 M s2 := hs4
    have hS2 := fr_sk hs4 hM.1
    refine Or.inl ⟨(nI (i + 1), wI s2 269 i (nI 0)), ?_, rfl, fun j hj => ?_, fr_put hs4 rfl⟩
    · show f_X12_serves_B2 s2 255 (nI n) (nI i) = _
      unfold f_X12_serves_B2
      rw [if_neg (show ¬ 8 < nI i from nI_nlt (a := 8) (by omega) (by omega)), m_r42 hS2, bb_some, sI_at (m_s269 hS2) (by omega) (by omega), nar0, bb_some, nI_1, nI_0]
    · show (wI s2 269 i _).1 269 j = _
      rw [wI_rd]
      by_cases e : j = i
      · subst e; rw [if_pos ⟨rfl, rfl⟩]
      · rw [if_neg (by omega)]; exact hs3 j (by omega)) (fun s ⟨hs1, hs3, hs4⟩ => by
    obtain ⟨s1, s2⟩ := s
    have hs1 : s1 = nI 9 := hs1
    subst hs1
    have hs3 : ∀ j, j < 9 → s2.1 269 j = nI 0 := hs3
    exact ⟨s2, by show f_X12_serves_B2 s2 255 (nI n) (nI 9) = _; rw [f_X12_serves_B2, if_pos (by decide)], fun j hj => by rw [show 9 * 0 + j = j by omega]; exact hs3 j hj, hs4⟩) 1048576 0 (0, M) (by omega) ⟨rfl, fun j hj => absurd hj (by omega), fr_refl⟩ (by omega)
  have eA : f_X12_serves_L2 M 255 (nI n) 0 = some A := eA
  obtain ⟨B, eB, hB, fB⟩ := iter_rel (f := fun s : Int32 × Mem => f_X12_serves_B23 s.2 255 (nI n) s.1) n (fun i s => s.1 = nI (i + 1) ∧ (∀ l, l ≤ i → DvR s.2 a l) ∧ Fr S9 M s.2) (fun r => (∀ l, l ≤ n → DvR r a l) ∧ Fr S9 M r) (fun i s hi ⟨hs1, hs3, hs4⟩ => by
    obtain ⟨s1, s2⟩ := s
    have hs1 : s1 = nI (i + 1) := hs1
    subst hs1
    have hs3 : ∀ l, l ≤ i → DvR s2 a l := hs3
    have hs4 : Fr S9 M s2 := hs4
    obtain ⟨D, eD, hD, fD⟩ := iter_rel (f := fun s : Int32 × Mem => f_X12_serves_B30 s.2 255 (nI n) (nI (i + 1)) s.1) 9 (fun j t => t.1 = nI j ∧ ((∀ l, l ≤ i → DvR t.2 a l) ∧ ∀ q, q < j → t.2.1 269 (9 * (i + 1) + q) = nI (dv a (i + 1) q)) ∧ Fr S9 M t.2) (fun r => (∀ l, l ≤ i + 1 → DvR r a l) ∧ Fr S9 M r) (fun j t hj ⟨ht1, ⟨ht2, ht3⟩, ht4⟩ => by
      obtain ⟨t1, t2⟩ := t
      have ht1 : t1 = nI j := ht1
      subst ht1
      have ht2 : ∀ l, l ≤ i → DvR t2 a l := ht2
      have ht3 : ∀ q, q < j → t2.1 269 (9 * (i + 1) + q) = nI (dv a (i + 1) q) := ht3
      have ht4 : Fr S9 M t2 := ht4
      have hM2 := s9_mo hM ht4
      refine Or.inl ⟨(nI (j + 1), wI t2 269 (9 * (i + 1) + j) (nI (dv a (i + 1) j))), ?_, rfl, ⟨fun l hl q hq => ?_, fun q hq => ?_⟩, fr_put ht4 rfl⟩
      · show f_X12_serves_B30 t2 255 (nI n) (nI (i + 1)) (nI j) = _
        unfold f_X12_serves_B30
        rw [if_neg (show ¬ 8 < nI j from nI_nlt (a := 8) (by omega) (by omega)), mo_dvL hM2 hO (by omega) (by omega) (ht2 i (Nat.le_refl _)), bb_some, m_r42 hM2.1, bb_some, x9, sI_at (m_s269 hM2.1) (by omega) (by omega), nar0, bb_some, nI_1]
      · show (wI t2 269 (9 * (i + 1) + j) _).1 269 (9 * l + q) = _
        rw [wI_rd, if_neg (by omega)]; exact ht2 l hl q hq
      · show (wI t2 269 (9 * (i + 1) + j) _).1 269 (9 * (i + 1) + q) = _
        rw [wI_rd]
        by_cases e : q = j
        · subst e; rw [if_pos ⟨rfl, rfl⟩]
        · rw [if_neg (by omega)]; exact ht3 q (by omega)) (fun t ⟨ht1, ⟨ht2, ht3⟩, ht4⟩ => by
      obtain ⟨t1, t2⟩ := t
      have ht1 : t1 = nI 9 := ht1
      subst ht1
      refine ⟨t2, by show f_X12_serves_B30 t2 255 (nI n) (nI (i + 1)) (nI 9) = _; rw [f_X12_serves_B30, if_pos (by decide)], fun l hl => ?_, ht4⟩
      by_cases e : l = i + 1
      · subst e; exact ht3
      · exact ht2 l (by omega)) 1048576 0 (0, s2) (by omega) ⟨rfl, ⟨hs3, fun q hq => absurd hq (by omega)⟩, hs4⟩ (by omega)
    have eD : f_X12_serves_L30 s2 255 (nI n) (nI (i + 1)) 0 = some D := eD
    refine Or.inl ⟨(nI (i + 1 + 1), D), ?_, rfl, hD, fD⟩
    show f_X12_serves_B23 s2 255 (nI n) (nI (i + 1)) = _
    unfold f_X12_serves_B23
    rw [if_neg (nI_nlt (by omega) (by omega)), eD, bb_some, nI_1]) (fun s ⟨hs1, hs3, hs4⟩ => by
    obtain ⟨s1, s2⟩ := s
    have hs1 : s1 = nI (n + 1) := hs1
    subst hs1
    exact ⟨s2, by show f_X12_serves_B23 s2 255 (nI n) (nI (n + 1)) = _; rw [f_X12_serves_B23, if_pos (nI_lt (by omega) (by omega))], hs3, hs4⟩) 1048576 0 (1, A) (by omega) ⟨rfl, fun l hl => by rw [show l = 0 by omega]; exact hA, fA⟩ (by omega)
  have eB : f_X12_serves_L23 A 255 (nI n) 1 = some B := eB
  exact ⟨B, by rw [f_X12_serves, eA, bb_some, eB, bb_some], hB, fB⟩
theorem mo_dutyS {M : Mem} {a r : Nat → Nat} {n d : Nat} (hM : MO M a) (hO : OkO a) (h0 : 0 < a 0) (hn : n ≤ 20) (hd : d < n) (hR : ∀ l, l ≤ n → DvR M a l) (hc : Chn a n r n) (x2 x3 x5 : Int32) : f_X12_duty_L87 M 255 x2 x3 (nI (pv r d)) x5 (nI (n - d)) 0 = some (nI (r d)) := by
  have h8 := hO.1.1
  have am := hc d hd
  have b0 := am.1
  have ev := am_dv hO h0 (show n - d - 1 ≤ 20 by omega) am
  have hp : pv r d < 9 := by
    unfold pv
    split
    · omega
    · have := (hc (d - 1) (by omega)).1; omega
  have e1 : nI (n - d) = nI (n - d - 1 + 1) := by rw [show n - d - 1 + 1 = n - d by omega]
  have rdA : ∀ s, s < 9 → aI M 0 269 ((9 : Int32) * nI (n - d) - 9 + nI s) = some (nI (dv a (n - d - 1) s)) := fun s hs => by
    rw [e1, x9m, mo_r269 hM.1 (by omega) hs (hR _ (by omega))]
  have rdB : aI M 0 269 ((9 : Int32) * nI (n - d) + nI (pv r d)) = some (nI (dv a (n - d) (pv r d))) := by
    rw [x9, mo_r269 hM.1 (by omega) hp (hR _ (by omega))]
  rw [show n - d - 1 + 1 = n - d by omega] at ev
  obtain ⟨q, e, hq⟩ := iter_rel (f := fun s : Int32 => f_X12_duty_B87 M 255 x2 x3 (nI (pv r d)) x5 (nI (n - d)) s) (r d) (fun i s => s = nI i) (fun q => q = nI (r d)) (fun i s hi hs => by
    subst hs
    refine Or.inl ⟨nI (i + 1), ?_, rfl⟩
    have b1 := dv_99 a (n - d - 1) i
    have b2 := dv_99 a (n - d) (pv r d)
    have b3 := (hO.2.1 i (by omega)).2.2.2.1
    unfold f_X12_duty_B87
    rw [mo_ob hM, bb_some, mo_may hM hO (by omega) (by omega), bb_some]
    by_cases hm : mS a i (pv r d) = true
    · have := am.2.2.2 i hi hm
      dsimp only at this
      rw [hm, if_neg (by decide), bb_some, mo_of3 hM (by omega), bb_some, m_r42 hM.1, bb_some, rdA i (by omega), bb_some, bb_some, rdB, bb_some, nI_add, if_neg (nI_nq (by omega) (by omega) (by omega)), nI_1]
    · rw [show mS a i (pv r d) = false by simpa using hm, if_pos (by rfl), nI_1]) (fun s hs => by
    subst hs
    refine ⟨nI (r d), ?_, rfl⟩
    unfold f_X12_duty_B87
    rw [mo_ob hM, bb_some, mo_may hM hO (by omega) (by omega), bb_some, am.2.1, if_neg (by decide), bb_some, mo_of3 hM (by omega), bb_some, m_r42 hM.1, bb_some, rdA (r d) (by omega), bb_some, bb_some, rdB, bb_some, nI_add, ev, if_pos rfl]) 1048576 0 0 (by omega) rfl (by omega)
  have e : f_X12_duty_L87 M 255 x2 x3 (nI (pv r d)) x5 (nI (n - d)) 0 = some q := e
  rw [e, hq]
theorem mo_dutyL {M : Mem} {a r : Nat → Nat} {n k : Nat} (hM : MO M a) (hO : OkO a) (h0 : 0 < a 0) (hn : n ≤ 20) (hk : k < n) (hR : ∀ l, l ≤ n → DvR M a l) (hc : Chn a n r n) : f_X12_duty_L72 M 255 (nI n) (nI k) 8 0 = some (nI (r k)) := by
  obtain ⟨q, e, hq⟩ := iter_rel (f := fun s : Int32 × Int32 => f_X12_duty_B72 M 255 (nI n) (nI k) s.1 s.2) (k + 1) (fun i s => s.1 = nI (pv r i) ∧ s.2 = nI i) (fun q => q = nI (r k)) (fun i s hi ⟨hs1, hs2⟩ => by
    obtain ⟨s1, s2⟩ := s
    have hs1 : s1 = nI (pv r i) := hs1
    have hs2 : s2 = nI i := hs2
    subst hs1 hs2
    refine Or.inl ⟨(nI (r i), nI (i + 1)), ?_, ?_, rfl⟩
    · show f_X12_duty_B72 M 255 (nI n) (nI k) (nI (pv r i)) (nI i) = _
      unfold f_X12_duty_B72
      rw [if_neg (nI_nlt (by omega) (by omega)), pk_sub (by omega), mo_dutyS hM hO h0 hn (by omega) hR hc, bb_some, nI_1]
    · show nI (r i) = nI (pv r (i + 1))
      unfold pv
      rw [if_neg (by omega), show i + 1 - 1 = i by omega]) (fun s ⟨hs1, hs2⟩ => by
    obtain ⟨s1, s2⟩ := s
    have hs1 : s1 = nI (pv r (k + 1)) := hs1
    have hs2 : s2 = nI (k + 1) := hs2
    subst hs1 hs2
    refine ⟨nI (pv r (k + 1)), ?_, ?_⟩
    · show f_X12_duty_B72 M 255 (nI n) (nI k) (nI (pv r (k + 1))) (nI (k + 1)) = _
      unfold f_X12_duty_B72
      rw [if_pos (nI_lt (by omega) (by omega))]
    · unfold pv
      rw [if_neg (by omega), show k + 1 - 1 = k by omega]) 1048576 0 (8, 0) (by omega) ⟨rfl, rfl⟩ (by omega)
  have e : f_X12_duty_L72 M 255 (nI n) (nI k) 8 0 = some q := e
  rw [e, hq]
theorem nI_lt20 {x : Int32} {n : Nat} (hn : n < 2 ^ 31) : ¬ nI n < x ↔ x ≤ nI n := by
  rw [Int32.lt_iff_toInt_lt, Int32.le_iff_toInt_le]; omega
theorem call_duty {M : Mem} (hI : Inv M) (a1 a2 a3 : Int32)  : ∃ (r : Int32) (M1 M2 : Mem), f_X11_duty M 1 a1 a2 a3 = some (r, M1) ∧ shp M1 255 = some (.inl 12) ∧ f_X12_duty M1 255 a1 a2 a3 = some (r, M2) ∧ Inv M2 := by
  have hS := hI.1
  exact qm hI a1 (fC := f_X11_duty M 1 a1 a2 a3) (fM := fun M => f_X12_duty M 255 a1 a2 a3) (bad := -1) (fun e1 e2 => ⟨by simp [f_X11_duty, d_r0 hS, t_ob hS, e1], by simp [f_X12_duty, ob_at (m_shp hS), e2]⟩) (fun o a ho hO e1 hC => by
    have h8 := hO.1.1
    rcases io_cases a2 (n := 21) (by omega) with hx | ⟨n, hn, rfl⟩
    · refine ⟨-1, M, ?_, qf_refl, fun M2 e3 hM hq => ⟨M2, ?_, qf_refl⟩⟩
      · unfold f_X11_duty
        rw [d_r0 hS, bb_some, t_ob hS, bb_some, e1, bb_some, if_neg ho]
        by_cases hn : a2 < 0
        · rw [if_pos hn]
        · rw [if_neg hn, if_pos (by
            have h4 : (21 : Int32) ≤ a2 := hx.resolve_left hn
            have e21 : (21 : Int32).toInt = 21 := rfl
            have e20 : (20 : Int32).toInt = 20 := rfl
            rw [Int32.le_iff_toInt_le] at h4; rw [Int32.lt_iff_toInt_lt]; omega)]
      · have i1 : f_X12_isIn M2 a2 0 20 = some 0 := ii_o M2 (n := 21) (by decide) hx (by omega)
        simp [f_X12_duty, ob_at (m_shp hS), e3, i1]
    have i1 : ∀ N, f_X12_isIn N (nI n) 0 20 = some 1 := fun N => ii_i N (n := 21) (by decide) hn (by omega)
    have cs : f_X11_duty M 1 a1 (nI n) a3 = (if a3 < (-1 : Int32) then some ((-1 : Int32), M) else (if a3 < nI n then (if nI n ≤ 0 then f_X11_duty_J51 M 1 (nI n) a3 o else (if nI (a 0) = 0 then some ((-1 : Int32), M) else f_X11_duty_J51 M 1 (nI n) a3 o)) else some ((-1 : Int32), M))) := by
      unfold f_X11_duty
      rw [d_r0 hS, bb_some, t_ob hS, bb_some, e1, bb_some, if_neg ho, if_neg (nI_pos (by omega)), if_neg (show ¬ 20 < nI n from nI_nlt (a := 20) (by omega) (by omega)), co_g0 hC, bb_some]
    have ms : ∀ M1 M2, f_X12_isOffice M1 255 a1 = some (1, M2) → Sk M1 → MO M2 a → f_X12_duty M1 255 a1 (nI n) a3 = ((f_X12_isIn M2 a3 (-1 : Int32) (nI n - (1 : Int32))).bind fun v5 => (if v5 = 0 then some ((-1 : Int32), M2) else (if nI (a 0) = 0 then (if nI n ≤ 0 then f_X12_duty_J42 M2 255 (nI n) a3 else some ((-1 : Int32), M2)) else f_X12_duty_J42 M2 255 (nI n) a3))) := fun M1 M2 e3 hS1 hM => by
      unfold f_X12_duty
      rw [ob_at (m_shp hS1), bb_some, e3, bb_some]
      show (if (1 : Int32) = 0 then _ else (f_X12_isIn M2 (nI n) 0 20).bind fun v3 => _) = _
      rw [if_neg (by decide), i1, bb_some, if_neg (by decide)]
      show ((f_X12_isIn M2 a3 (-1 : Int32) (nI n - (1 : Int32))).bind fun v5 => _) = _
      rw [mo_g12 hM]
      simp only [bb_some]
    rcases io_m1 a3 (n := n) (by omega) with hx | hx
    · refine ⟨-1, M, ?_, qf_refl, fun M2 e3 hM hq => ⟨M2, ?_, qf_refl⟩⟩
      · rw [cs]
        rcases hx with h | h
        · rw [if_pos h]
        · by_cases h2 : a3 < -1
          · rw [if_pos h2]
          · rw [if_neg h2, if_neg (by rw [Int32.le_iff_toInt_le] at h; rw [Int32.lt_iff_toInt_lt]; omega)]
      · show f_X12_duty M 255 a1 (nI n) a3 = _
        rw [ms M M2 e3 hS hM, ii_m1o M2 (by omega) hx, bb_some, if_pos rfl]
    have hl : ¬ a3 < -1 ∧ a3 < nI n := by
      rcases hx with h | ⟨k, hk, h⟩
      · subst h
        refine ⟨by decide, ?_⟩
        rw [Int32.lt_iff_toInt_lt, nI_toInt (by omega)]
        have e1 : (-1 : Int32).toInt = -1 := rfl
        omega
      · subst h
        refine ⟨fun hh => nI_pos (show k < 2 ^ 31 by omega) ?_, nI_lt hk (by omega)⟩
        rw [Int32.lt_iff_toInt_lt] at hh ⊢
        have e1 : (-1 : Int32).toInt = -1 := rfl
        have e0 : (0 : Int32).toInt = 0 := rfl
        omega
    have n0 : nI n ≤ 0 ↔ n = 0 := by
      have := nI_leI (a := n) (b := 0) (by omega) (by omega)
      rw [nI_0] at this
      rw [this]; omega
    have a00 : nI (a 0) = 0 ↔ a 0 = 0 := nI_eq (b := 0) (by omega) (by omega)
    by_cases hbad : 0 < n ∧ a 0 = 0
    · refine ⟨-1, M, ?_, qf_refl, fun M2 e3 hM hq => ⟨M2, ?_, qf_refl⟩⟩
      · rw [cs, if_neg hl.1, if_pos hl.2, if_neg (by rw [n0]; omega), if_pos (a00.mpr hbad.2)]
      · show f_X12_duty M 255 a1 (nI n) a3 = _
        rw [ms M M2 e3 hS hM, ii_m1i M2 (by omega) hx, bb_some, if_neg (by decide), if_pos (a00.mpr hbad.2), if_neg (by rw [n0]; omega)]
    have h0 : 0 < n → 0 < a 0 := fun h => by omega
    obtain ⟨r, M1, eM, ⟨hch, h108, h107⟩, fM⟩ := c_duty hC hO (show n ≤ 20 by omega) h0
    have hS1 := fr_sk fM hS
    have cs2 : f_X11_duty M 1 a1 (nI n) a3 = (if a3 = (-1 : Int32) then some (nI (dv a n 8), M1) else (aI M1 0 108 a3).bind fun v8 => some (v8, M1)) := by
      have J : f_X11_duty_J51 M 1 (nI n) a3 o = (if a3 = (-1 : Int32) then some (nI (dv a n 8), M1) else (aI M1 0 108 a3).bind fun v8 => some (v8, M1)) := by
        unfold f_X11_duty_J51
        rw [d_r9 hS, bb_some, ob_at (p_shp hS), bb_some, eM, bb_some]
        simp only [d_r9 hS1, bb_some, gI_at (p_shp hS1), h107, p_r2 hS1]
      rw [cs, if_neg hl.1, if_pos hl.2, J]
      by_cases hn0 : n = 0
      · rw [if_pos (n0.mpr hn0)]
      · rw [if_neg (fun h => hn0 (n0.mp h)), if_neg (fun h => by have := a00.mp h; have := h0 (by omega); omega)]
    have ms2 : ∀ M2, f_X12_isOffice M1 255 a1 = some (1, M2) → MO M2 a → f_X12_duty M1 255 a1 (nI n) a3 = f_X12_duty_J42 M2 255 (nI n) a3 := fun M2 e3 hM => by
      rw [ms M1 M2 e3 hS1 hM, ii_m1i M2 (by omega) hx, bb_some, if_neg (by decide)]
      by_cases hz : a 0 = 0
      · rw [if_pos (a00.mpr hz), if_pos (n0.mpr (by omega))]
      · rw [if_neg (fun h => hz (a00.mp h))]
    rcases hx with h | ⟨k, hk, h⟩
    · subst h
      refine ⟨nI (dv a n 8), M1, by rw [cs2, if_pos rfl], sq_q fM, fun M2 e3 hM hq => ?_⟩
      obtain ⟨D, eD, hD, fD⟩ := mo_serves hM hO (show n ≤ 20 by omega)
      refine ⟨D, ?_, s9_q fD⟩
      show f_X12_duty M1 255 a1 (nI n) (-1) = _
      have e8 : (9 : Int32) * nI n + 8 = nI (9 * n + 8) := x9 n 8
      rw [ms2 M2 e3 hM, f_X12_duty_J42, mo_ob hM, bb_some, eD, bb_some, if_pos rfl, m_r42 (fr_sk fD hM.1), bb_some, e8, mo_r269 (fr_sk fD hM.1) (by omega) (by omega) (hD n (Nat.le_refl _)), bb_some]
    · subst h
      have hk2 := (hch k hk).1
      refine ⟨nI (r k), M1, ?_, sq_q fM, fun M2 e3 hM hq => ?_⟩
      · rw [cs2, if_neg (nI_nm1 (by omega)), aI_at (p_s108 hS1) (by omega) (by omega) (by omega), h108 k hk, bb_some]
      · obtain ⟨D, eD, hD, fD⟩ := mo_serves hM hO (show n ≤ 20 by omega)
        refine ⟨D, ?_, s9_q fD⟩
        show f_X12_duty M1 255 a1 (nI n) (nI k) = _
        rw [ms2 M2 e3 hM, f_X12_duty_J42, mo_ob hM, bb_some, eD, bb_some, if_neg (nI_nm1 (by omega)), mo_dutyL (s9_mo hM fD) hO (h0 (by omega)) (by omega) hk hD hch, bb_some])
