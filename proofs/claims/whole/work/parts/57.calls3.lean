/-! folds; more calls that only read an office -/
theorem fo_congr {α : Type} {g g' : Nat → α → α} {n : Nat} (h : ∀ i v, i < n → g i v = g' i v) (a : α) : fo g n a = fo g' n a := by
  induction n with
  | zero => rfl
  | succ n ih =>
    show g n (fo g n a) = g' n (fo g' n a)
    rw [ih (fun i v hi => h i v (by omega)), h n _ (by omega)]
theorem fo_inv {α : Type} {g : Nat → α → α} (I : Nat → α → Prop) {n : Nat} {a : α} (h0 : I 0 a) (hs : ∀ i v, i < n → I i v → I (i + 1) (g i v)) : I n (fo g n a) := by
  induction n with
  | zero => exact h0
  | succ n ih => exact hs n _ (by omega) (ih (fun i v hi => hs i v (by omega)))
theorem iter_cg {σ ρ : Type} {f g : σ → Option (σ ⊕ ρ)} (I : σ → Prop) (h : ∀ s, I s → f s = g s ∧ ∀ s', f s = some (.inl s') → I s') : ∀ (F : Nat) (s : σ), I s → iter f F s = iter g F s := by
  intro F
  induction F with
  | zero => intro s _; rfl
  | succ F ih =>
    intro s hs
    obtain ⟨h1, h2⟩ := h s hs
    show (f s).bind _ = (g s).bind _
    rw [← h1]
    cases e : f s with
    | none => rfl
    | some x =>
      cases x with
      | inl s' => exact ih s' (h2 s' e)
      | inr r => rfl
/-- the least of some -/
def mn (p : Nat → Bool) (f : Nat → Nat) (n v0 : Nat) : Nat := fo (fun s v => if p s = true then (if v ≤ f s then v else f s) else v) n v0
theorem mn_spec (p : Nat → Bool) (f : Nat → Nat) (n v0 : Nat) : mn p f n v0 ≤ v0 ∧ (∀ s, s < n → p s = true → mn p f n v0 ≤ f s) ∧ (mn p f n v0 = v0 ∨ ∃ s, s < n ∧ p s = true ∧ mn p f n v0 = f s) := by
  induction n with
  | zero => exact ⟨Nat.le_refl _, fun s hs => absurd hs (by omega), Or.inl rfl⟩
  | succ n ih =>
    obtain ⟨h1, h2, h3⟩ := ih
    have e : mn p f (n + 1) v0 = if p n = true then (if mn p f n v0 ≤ f n then mn p f n v0 else f n) else mn p f n v0 := rfl
    by_cases hp : p n = true
    · rw [if_pos hp] at e
      by_cases hl : mn p f n v0 ≤ f n
      · rw [if_pos hl] at e
        rw [e]
        refine ⟨h1, fun s hs hps => ?_, ?_⟩
        · rcases (show s < n ∨ s = n by omega) with h | rfl
          · exact h2 s h hps
          · exact hl
        · rcases h3 with h | ⟨s, a, b, c⟩
          · exact Or.inl h
          · exact Or.inr ⟨s, by omega, b, c⟩
      · rw [if_neg hl] at e
        rw [e]
        refine ⟨by omega, fun s hs hps => ?_, Or.inr ⟨n, by omega, hp, rfl⟩⟩
        rcases (show s < n ∨ s = n by omega) with h | rfl
        · have := h2 s h hps; omega
        · exact Nat.le_refl _
    · rw [if_neg hp] at e
      rw [e]
      refine ⟨h1, fun s hs hps => ?_, ?_⟩
      · rcases (show s < n ∨ s = n by omega) with h | rfl
        · exact h2 s h hps
        · exact absurd hps hp
      · rcases h3 with h | ⟨s, a, b, c⟩
        · exact Or.inl h
        · exact Or.inr ⟨s, by omega, b, c⟩
theorem mn_eq {p : Nat → Bool} {f : Nat → Nat} {n v0 v1 : Nat} (h : ∃ s, s < n ∧ p s = true) (h0 : ∀ s, s < n → f s ≤ v0) (h1 : ∀ s, s < n → f s ≤ v1) : mn p f n v0 = mn p f n v1 := by
  obtain ⟨a1, a2, a3⟩ := mn_spec p f n v0
  obtain ⟨b1, b2, b3⟩ := mn_spec p f n v1
  obtain ⟨s, hs, hps⟩ := h
  have a4 : ∃ s, s < n ∧ p s = true ∧ mn p f n v0 = f s := by
    rcases a3 with h | h
    · exact ⟨s, hs, hps, by have := a2 s hs hps; have := h0 s hs; omega⟩
    · exact h
  have b4 : ∃ s, s < n ∧ p s = true ∧ mn p f n v1 = f s := by
    rcases b3 with h | h
    · exact ⟨s, hs, hps, by have := b2 s hs hps; have := h1 s hs; omega⟩
    · exact h
  obtain ⟨u, u1, u2, u3⟩ := a4
  obtain ⟨w, w1, w2, w3⟩ := b4
  have := a2 w w1 w2
  have := b2 u u1 u2
  omega
theorem mn_congr {p p' : Nat → Bool} {f : Nat → Nat} {n v0 : Nat} (h : ∀ s, s < n → p s = p' s) : mn p f n v0 = mn p' f n v0 := fo_congr (fun i v hi => by rw [h i hi]) v0
theorem c_near {M : Mem} {o : Nat} {a : Nat → Nat} (hC : CO M o a) (hO : OkO a) {d t : Nat} (hd : d < a 0) (ht : t < 2 ^ 31) : f_X5_nearestGap M o (nI d) (nI t) = some (nI (mn (fun s => t.testBit s) (fun s => gp a s d) (a 0) 31)) := by
  have h8 := hO.1.1
  have e := lpI (f := fun s : Int32 × Int32 => f_X5_nearestGap_B6 M o (nI d) (nI t) s.1 s.2) 0 (a 0) (fun s v => if t.testBit s = true then (if v ≤ gp a s d then v else gp a s d) else v) nI nI (fun _ b => b ≤ 31) 31 (by omega) (fun i v hi hv => by
    have hg := gp_30 hO hd hi
    refine ⟨?_, by split <;> first | omega | (split <;> omega)⟩
    simp only [Nat.zero_add, f_X5_nearestGap_B6, co_g0 hC, if_neg (nI_ge hi (show a 0 < 2 ^ 31 by omega)), co_r14 hC, co_gaps hC hO hd hi, bb_some, bit_0 ht (show i < 32 by omega), nI_leI (show v < 2 ^ 31 by omega) (show gp a i d < 2 ^ 31 by omega)]
    by_cases hb : t.testBit i = true
    · rw [if_neg (by rw [hb]; decide), if_pos hb]
      split <;> rfl
    · rw [if_pos (by simpa using hb), if_neg hb]) (fun v hv => by simp [f_X5_nearestGap_B6, co_g0 hC]) (by omega)
  have e1 : f_X5_nearestGap_L6 M o (nI d) (nI t) 31 0 = some (nI (mn (fun s => t.testBit s) (fun s => gp a s d) (a 0) 31)) := e.1
  simp [f_X5_nearestGap, e1]
/-- how many -/
def cb (p : Nat → Bool) (n : Nat) : Nat := fo (fun s v => if p s = true then v + 1 else v) n 0
theorem cb_congr {p p' : Nat → Bool} {n : Nat} (h : ∀ s, s < n → p s = p' s) : cb p n = cb p' n := fo_congr (fun i v hi => by rw [h i hi]) 0
theorem cb_le (p : Nat → Bool) (n : Nat) : cb p n ≤ n := by
  induction n with
  | zero => exact Nat.le_refl _
  | succ n ih =>
    have e : cb p (n + 1) = if p n = true then cb p n + 1 else cb p n := rfl
    rw [e]; split <;> omega
theorem cb_ext {p : Nat → Bool} {n N : Nat} (hn : n ≤ N) (h : ∀ s, n ≤ s → s < N → p s = false) : cb p N = cb p n := by
  induction N with
  | zero => rw [show n = 0 by omega]
  | succ N ih =>
    by_cases e : n = N + 1
    · rw [e]
    · have e2 : cb p (N + 1) = if p N = true then cb p N + 1 else cb p N := rfl
      rw [e2, h N (by omega) (by omega), if_neg (by decide), ih (by omega) (fun s h1 h2 => h s h1 (by omega))]
theorem tb_div (m i : Nat) : m / 2 ^ i % 2 = if m.testBit i = true then 1 else 0 := by
  rw [Nat.testBit_eq_decide_div_mod_eq]
  rcases Nat.mod_two_eq_zero_or_one (m / 2 ^ i) with h | h <;> simp [h]
theorem pc_cb {m n : Nat} (hm : m < 2 ^ n) (hn : n ≤ 10) : pc m = cb (fun s => m.testBit s) n := by
  rw [← cb_ext hn (fun s h1 h2 => Nat.testBit_lt_two_pow (Nat.lt_of_lt_of_le hm (Nat.pow_le_pow_right (by omega) h1)))]
  have e0 := tb_div m 0
  have e1 := tb_div m 1
  have e2 := tb_div m 2
  have e3 := tb_div m 3
  have e4 := tb_div m 4
  have e5 := tb_div m 5
  have e6 := tb_div m 6
  have e7 := tb_div m 7
  have e8 := tb_div m 8
  have e9 := tb_div m 9
  simp only [Nat.pow_zero, Nat.div_one, Nat.reducePow] at e0 e1 e2 e3 e4 e5 e6 e7 e8 e9
  have st : ∀ k, cb (fun s => m.testBit s) (k + 1) = cb (fun s => m.testBit s) k + if m.testBit k = true then 1 else 0 := fun k => by
    have e : cb (fun s => m.testBit s) (k + 1) = if m.testBit k = true then cb (fun s => m.testBit s) k + 1 else cb (fun s => m.testBit s) k := rfl
    rw [e]; split <;> rfl
  have z : cb (fun s => m.testBit s) 0 = 0 := rfl
  rw [pc, e0, e1, e2, e3, e4, e5, e6, e7, e8, e9, st 9, st 8, st 7, st 6, st 5, st 4, st 3, st 2, st 1, st 0, z, Nat.zero_add]
theorem pc_hb {a : Nat → Nat} (hO : OkO a) (d : Nat) : pc (hb a d) = cb (fun s => hr a s d) (a 0) := by
  rw [pc_cb (hb_lt d) (by have := hO.1.1; omega)]
  exact cb_congr (fun s hs => by rw [hb_bit]; simp [hs])
set_option maxRecDepth 100000 in
theorem bits_at (M : Mem) : ∀ m, m < 256 → f_X12_bitsOf M (nI m) = some (nI (pc m)) := by
  have h : ∀ m, m < 256 → f_X12_bitsOf Mem0 (nI m) = some (nI (pc m)) := by decide +kernel
  exact h
theorem call_ears {M : Mem} (hI : Inv M) (a1 : Int32)  : ∃ (r : Int32) (M1 M2 : Mem), (f_X11_ears M 1 a1 = some r ∧ M1 = M) ∧ shp M1 255 = some (.inl 12) ∧ f_X12_ears M1 255 a1 = some (r, M2) ∧ Inv M2 := by
  have hS := hI.1
  exact qp hI a1 (fC := f_X11_ears M 1 a1) (fM := fun M => f_X12_ears M 255 a1) (bad := -1) (fun e1 e2 => ⟨by simp [f_X11_ears, d_r0 hS, t_ob hS, e1], by simp [f_X12_ears, ob_at (m_shp hS), e2]⟩) (fun o a M2 ho hO e1 hC e3 hM => by
    have h8 := hO.1.1
    have p8 := pw8 h8
    have cl : ∀ d, clr (2 ^ a 0 - 1) d < 2 ^ 31 := fun d => by have := clr_le (2 ^ a 0 - 1) d; omega
    have nc : ∀ d, d < a 0 → f_X5_nearestGap M o (nI d) (nI (clr (2 ^ a 0 - 1) d)) = some (nI (mn (fun s => !decide (s = d)) (fun s => gp a s d) (a 0) 31)) := fun d hd => by
      rw [c_near hC hO hd (cl d)]
      congr 2
      exact mn_congr (fun s hs => by rw [clr_bit (by omega), all_bit]; simp [hs])
    by_cases h1 : a 0 = 1
    · refine ⟨-1, ?_, M2, ?_, qf_refl⟩
      · have e : f_X5_leastEar_L4 M o 0 0 = some (.inl ()) := by
          refine iter_end ?_
          have n0 := nc 0 (by omega)
          have e0 : mn (fun s => !decide (s = 0)) (fun s => gp a s 0) (a 0) 31 = 31 := by rw [h1]; rfl
          rw [e0] at n0
          have o0 := c_others hC hO (d := 0) (by omega)
          rw [nI_0] at n0 o0
          simp only [f_X5_leastEar_B4, co_g0 hC, ob_at (co_shp hC), o0, n0, bb_some, if_neg (show ¬ nI 31 ≤ 30 by decide), if_neg (show ¬ nI (a 0) ≤ 0 by rw [h1]; decide)]
        simp [f_X11_ears, d_r0 hS, t_ob hS, e1, ho, ob_at (co_shp hC), f_X5_leastEar, e]
      · simp [f_X12_ears, ob_at (m_shp hS), e3, mo_g12 hM, h1, show nI 1 = 1 from rfl]
    · have ex : ∀ d, d < a 0 → ∃ s, s < a 0 ∧ (!decide (s = d)) = true := fun d hd => by
        by_cases h : d = 0
        · exact ⟨1, by omega, by simp; omega⟩
        · exact ⟨0, by omega, by simp; omega⟩
      have m30 : ∀ d, d < a 0 → mn (fun s => !decide (s = d)) (fun s => gp a s d) (a 0) 31 ≤ 30 := fun d hd => by
        obtain ⟨s, hs, hp⟩ := ex d hd
        have := (mn_spec (fun s => !decide (s = d)) (fun s => gp a s d) (a 0) 31).2.1 s hs hp
        have := gp_30 hO hd hs
        omega
      refine ⟨nI (fo (fun d v => if mn (fun s => !decide (s = d)) (fun s => gp a s d) (a 0) 31 ≤ v then v else mn (fun s => !decide (s = d)) (fun s => gp a s d) (a 0) 31) (a 0) 0), ?_, M2, ?_, qf_refl⟩
      · have e := (lpI (f := fun s : Int32 × Int32 => f_X5_leastEar_B4 M o s.1 s.2) 0 (a 0) (fun d v => if mn (fun s => !decide (s = d)) (fun s => gp a s d) (a 0) 31 ≤ v then v else mn (fun s => !decide (s = d)) (fun s => gp a s d) (a 0) 31) nI (fun v => Sum.inr (nI v)) (fun _ b => b ≤ 31) 0 (by omega) (fun i v hi hv => by
          have g := m30 i hi
          refine ⟨?_, by split <;> omega⟩
          have g2 : nI (mn (fun s => !decide (s = i)) (fun s => gp a s i) (a 0) 31) ≤ 30 := nI_le (b := 30) g (by omega)
          simp only [Nat.zero_add, f_X5_leastEar_B4, co_g0 hC, if_neg (nI_ge hi (show a 0 < 2 ^ 31 by omega)), ob_at (co_shp hC), c_others hC hO hi, nc i hi, bb_some, if_pos g2, imax, nI_ltI (show v < 2 ^ 31 by omega) (show mn (fun s => !decide (s = i)) (fun s => gp a s i) (a 0) 31 < 2 ^ 31 by omega)]
          by_cases hh : mn (fun s => !decide (s = i)) (fun s => gp a s i) (a 0) 31 ≤ v
          · rw [if_pos hh, if_neg (by omega)]
          · rw [if_neg hh, if_pos (by omega)]) (fun v hv => by simp [f_X5_leastEar_B4, co_g0 hC]) (by omega)).1
        have e' : f_X5_leastEar_L4 M o 0 0 = some (Sum.inr (nI _)) := e
        simp [f_X11_ears, d_r0 hS, t_ob hS, e1, ho, ob_at (co_shp hC), f_X5_leastEar, e']
      · have mm : ∀ d x2, d < a 0 → f_X12_ears_L37 M2 255 x2 (nI d) 99 0 = some (nI (mn (fun s => !decide (s = d)) (fun s => gp a s d) (a 0) 31)) := fun d x2 hd => by
          rw [mn_eq (v1 := 99) (ex d hd) (fun s hs => by have := gp_30 hO hd hs; omega) (fun s hs => by have := gp_30 hO hd hs; omega)]
          exact (lpI (f := fun s : Int32 × Int32 => f_X12_ears_B37 M2 255 x2 (nI d) s.1 s.2) 0 (a 0) (fun s v => if (!decide (s = d)) = true then (if v ≤ gp a s d then v else gp a s d) else v) nI nI (fun _ b => b ≤ 99) 99 (by omega) (fun i v hi hv => by
            have hg := gp_30 hO hd hi
            refine ⟨?_, by split <;> first | omega | (split <;> omega)⟩
            simp only [Nat.zero_add, f_X12_ears_B37, mo_g12 hM, if_neg (nI_ge hi (show a 0 < 2 ^ 31 by omega)), mo_ob hM, mo_off hM hO hi hd, bb_some, nI_leI (show v < 2 ^ 31 by omega) (show gp a i d < 2 ^ 31 by omega), nI_eq (show i < 2 ^ 31 by omega) (show d < 2 ^ 31 by omega)]
            by_cases hb : i = d
            · simp [hb]
            · simp only [hb, if_false, decide_false, Bool.not_false, if_true]
              split <;> rfl) (fun v hv => by simp [f_X12_ears_B37, mo_g12 hM]) (by omega)).1
        have e := (lpI (f := fun s : Int32 × Int32 => f_X12_ears_B22 M2 255 s.1 s.2) 0 (a 0) (fun d v => if mn (fun s => !decide (s = d)) (fun s => gp a s d) (a 0) 31 ≤ v then v else mn (fun s => !decide (s = d)) (fun s => gp a s d) (a 0) 31) nI nI (fun _ b => b ≤ 31) 0 (by omega) (fun i v hi hv => by
          have g := m30 i hi
          refine ⟨?_, by split <;> omega⟩
          simp only [Nat.zero_add, f_X12_ears_B22, mo_g12 hM, if_neg (nI_ge hi (show a 0 < 2 ^ 31 by omega)), mm i _ hi, bb_some, nI_leI (show mn (fun s => !decide (s = i)) (fun s => gp a s i) (a 0) 31 < 2 ^ 31 by omega) (show v < 2 ^ 31 by omega)]
          split <;> rfl) (fun v hv => by simp [f_X12_ears_B22, mo_g12 hM]) (by omega)).1
        have e' : f_X12_ears_L22 M2 255 0 0 = some (nI _) := e
        have n1 : ¬ nI (a 0) = 1 := fun h => h1 ((nI_eq (b := 1) (by omega) (by omega)).mp h)
        simp [f_X12_ears, ob_at (m_shp hS), e3, mo_g12 hM, n1, e'])
