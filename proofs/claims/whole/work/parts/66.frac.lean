/-! fractions; frames that leave longs free -/
def Fx (S : Nat → Nat → Prop) (M M' : Mem) : Prop := M'.2.2 = M.2.2 ∧ ∀ n k, ¬ S n k → M'.1 n k = M.1 n k
theorem fx_fr {S : Nat → Nat → Prop} {M M' : Mem} (h : Fr S M M') : Fx S M M' := ⟨by rw [h.1], h.2⟩
theorem fx_refl {S : Nat → Nat → Prop} {M : Mem} : Fx S M M := ⟨rfl, fun _ _ _ => rfl⟩
theorem fx_trans {S : Nat → Nat → Prop} {M M' M'' : Mem} (h : Fx S M M') (h' : Fx S M' M'') : Fx S M M'' := ⟨h'.1.trans h.1, fun n k hn => (h'.2 n k hn).trans (h.2 n k hn)⟩
theorem fx_mono {S S' : Nat → Nat → Prop} {M M' : Mem} (h : Fx S M M') (hs : ∀ n k, S n k → S' n k) : Fx S' M M' := ⟨h.1, fun n k hn => h.2 n k (fun hh => hn (hs n k hh))⟩
theorem fx_wL {S : Nat → Nat → Prop} {M : Mem} {n k : Nat} {v : Int64} : Fx S M (wL M n k v) := ⟨rfl, fun _ _ _ => rfl⟩
theorem fx_wI {S : Nat → Nat → Prop} {M : Mem} {n k : Nat} {v : Int32} (h : S n k) : Fx S M (wI M n k v) := fx_fr (fr_wI h)
theorem fx_sk {S : Nat → Nat → Prop} {M M' : Mem} (h : Fx S M M') (hS : Sk M) : Sk M' := by unfold Sk at *; rw [h.1]; exact hS
theorem fx_q {S : Nat → Nat → Prop} {M M' : Mem} (h : Fx S M M') (hs : ∀ n k, S n k → ¬ zT n) : Qf M M' := ⟨fx_sk h, fun n k hn => h.2 n k (fun hh => hs n k hh hn)⟩
theorem co_fx {S : Nat → Nat → Prop} {M M' : Mem} {o : Nat} {a : Nat → Nat} (h : CO M o a) (hF : Fx S M M') (hS : ∀ n k, S n k → n < o ∨ o + 10 < n) : CO M' o a :=
  ⟨fx_sk hF h.1, h.2.1, oc_cong (fun n k h1 h2 => hF.2 n k (fun hh => by have := hS n k hh; omega)) h.2.2⟩
theorem sl_cx {M M' : Mem} {n o : Nat} {a : Nat → Nat} (hn : n ∈ liL) (hC : CO M o a) (hF : Fx (SL n) M M') : CO M' o a := co_fx hC hF (fun q k h => by
  have := hC.2.1; have := li_num hn; have := h.1; omega)
theorem lg0 {v : Nat} (hv : v < 2 ^ 63) : lg_cmp (lN v) 0 = 0 ↔ v = 0 := by
  have e : lN v = 0 ↔ v = 0 := pk_lEQ (b := 0) hv (by omega)
  have g : lN v > 0 ↔ 0 < v := pk_lLT (a := 0) (by omega) hv
  unfold lg_cmp
  by_cases h : v = 0
  · rw [if_neg (fun hh => by have := g.mp hh; omega), if_pos (e.mpr h)]; simp [h]
  · rw [if_pos (g.mpr (by omega))]; simp [h]
theorem lgle {v : Nat} (hv : v < 2 ^ 63) : lg_cmp (lN v) 0 ≤ 0 ↔ v = 0 := by
  rw [lg_cmp_le]
  have : lN v ≤ lN 0 ↔ v ≤ 0 := pk_lLE hv (by omega)
  constructor
  · intro h; have := this.mp h; omega
  · intro h; exact this.mpr (by omega)
theorem rmL_at {x y : Nat} (hx : x < 2 ^ 63) (h0 : 0 < y) (hy : y < 2 ^ 63) : rmL (lN x) (lN y) = some (lN (x % y)) := by
  rw [rmL, if_neg (fun h => by have := (pk_lEQ (b := 0) hy (by omega)).mp h; omega), pk_lRem hx h0 hy]
theorem dvL_at {x y : Nat} (hx : x < 2 ^ 63) (h0 : 0 < y) (hy : y < 2 ^ 63) : dvL (lN x) (lN y) = some (lN (x / y)) := by
  rw [dvL, if_neg (fun h => by have := (pk_lEQ (b := 0) hy (by omega)).mp h; omega), pk_lDiv hx h0 hy]
/-- one step of the common divisor halves the product -/
theorem half_step {x y k : Nat} (h0 : 0 < y) (hxy : y ≤ x) (h : x * y < 2 ^ (k + 1)) : y * (x % y) < 2 ^ k := by
  have h1 : 2 * (x % y) < x := by
    have h2 := Nat.mod_lt x h0
    have h3 := Nat.div_add_mod x y
    have h4 : 1 ≤ x / y := (Nat.le_div_iff_mul_le h0).mpr (by omega)
    have h5 : y ≤ y * (x / y) := Nat.le_mul_of_pos_right y h4
    omega
  have h2 : 2 * (y * (x % y)) < 2 * 2 ^ k := by
    calc 2 * (y * (x % y)) = y * (2 * (x % y)) := by rw [Nat.mul_left_comm]
      _ < y * x := Nat.mul_lt_mul_of_pos_left h1 h0
      _ = x * y := Nat.mul_comm _ _
      _ < 2 ^ (k + 1) := h
      _ = 2 * 2 ^ k := by rw [Nat.pow_succ, Nat.mul_comm]
  omega
def Eu (g k x y : Nat) : Prop := y ≤ x ∧ x < 2 ^ 62 ∧ x * y < 2 ^ k ∧ Nat.gcd x y = g
theorem eu_step {g k x y : Nat} (h0 : 0 < y) (h : Eu g (k + 1) x y) : Eu g k y (x % y) := by
  obtain ⟨h1, h2, h3, h4⟩ := h
  refine ⟨Nat.le_of_lt (Nat.mod_lt x h0), by omega, half_step h0 h1 h3, ?_⟩
  rw [← h4, Nat.gcd_comm y, ← Nat.gcd_rec, Nat.gcd_comm]
theorem eu_0 {g x y : Nat} (h : Eu g 0 x y) : y = 0 := by
  obtain ⟨h1, h2, h3, h4⟩ := h
  have : x * y = 0 := by omega
  rcases Nat.mul_eq_zero.mp this with h | h <;> omega
theorem eu_e {g k x : Nat} (h : Eu g k x 0) : x = g := by
  have := h.2.2.2
  rwa [Nat.gcd_zero_right] at this
theorem iter_eu {σ : Type} {f : σ → Option (σ ⊕ Int64)} (enc : Nat → Nat → Nat → σ) (N : Nat) (hs : ∀ i x y, i < N → 0 < y → y < 2 ^ 63 → x < 2 ^ 63 → f (enc i x y) = some (.inl (enc (i + 1) y (x % y)))) (hx : ∀ i x, f (enc i x 0) = some (.inr (lN x))) : ∀ (k i x y g F : Nat), Eu g k x y → i + k < N → k < F → iter f F (enc i x y) = some (lN g) := by
  intro k
  induction k with
  | zero =>
    intro i x y g F h _ hF
    have := eu_0 h
    subst this
    obtain ⟨F, rfl⟩ : ∃ F', F = F' + 1 := ⟨F - 1, by omega⟩
    rw [iter_end (hx i x), eu_e h]
  | succ k ih =>
    intro i x y g F h hN hF
    obtain ⟨F, rfl⟩ : ∃ F', F = F' + 1 := ⟨F - 1, by omega⟩
    by_cases h0 : y = 0
    · subst h0
      rw [iter_end (hx i x), eu_e h]
    · have := h.2.1
      have := h.1
      rw [iter_step (hs i x y (by omega) (by omega) (by omega) (by omega))]
      exact ih (i + 1) y (x % y) g F (eu_step (by omega) h) (by omega) (by omega)
/-- a first step may put the greater ahead -/
theorem eu_any {σ : Type} {f : σ → Option (σ ⊕ Int64)} (enc : Nat → Nat → Nat → σ) (N : Nat) (hN : 150 ≤ N) (hs : ∀ i x y, i < N → 0 < y → y < 2 ^ 63 → x < 2 ^ 63 → f (enc i x y) = some (.inl (enc (i + 1) y (x % y)))) (hx : ∀ i x, f (enc i x 0) = some (.inr (lN x))) {x y : Nat} (hx' : x < 2 ^ 62) (hy : y < 2 ^ 62) : iter f 1048576 (enc 0 x y) = some (lN (Nat.gcd x y)) := by
  have pr : ∀ x y, x < 2 ^ 62 → y < 2 ^ 62 → x * y < 2 ^ 124 := fun x y h1 h2 => by
    calc x * y ≤ 2 ^ 62 * y := Nat.mul_le_mul_right _ (by omega)
      _ < 2 ^ 62 * 2 ^ 62 := Nat.mul_lt_mul_of_pos_left h2 (by omega)
      _ = 2 ^ 124 := by rw [← Nat.pow_add]
  by_cases h : y ≤ x
  · exact iter_eu enc N hs hx 124 0 x y _ 1048576 ⟨h, hx', pr x y hx' hy, rfl⟩ (by omega) (by omega)
  · have e := hs 0 x y (by omega) (by omega) (by omega) (by omega)
    rw [Nat.mod_eq_of_lt (by omega)] at e
    have := iter_step (F := 1048575) e
    rw [this]
    exact iter_eu enc N hs hx 124 1 y x _ 1048575 ⟨by omega, hy, pr y x hy hx', Nat.gcd_comm y x⟩ (by omega) (by omega)
theorem c_gcd (M : Mem) (x0 : Nat) {x y : Nat} (hx : x < 2 ^ 62) (hy : y < 2 ^ 62) : f_X0_reduce_L13 M x0 (lN x) (lN y) 0 = some (lN (Nat.gcd x y)) := by
  refine eu_any (f := fun s : Int64 × Int64 × Int32 => f_X0_reduce_B13 M x0 s.1 s.2.1 s.2.2) (fun i x y => (lN x, lN y, nI i)) 200 (by omega) (fun i x y hi h0 hy hx => ?_) (fun i x => ?_) hx hy
  · show f_X0_reduce_B13 M x0 (lN x) (lN y) (nI i) = _
    have n2 : ¬ 200 ≤ nI i := nI_ge (b := 200) hi (by omega)
    unfold f_X0_reduce_B13
    rw [if_neg n2, if_neg (fun h => by have := (lgle hy).mp h; omega), rmL_at hx h0 hy, bb_some, nI_1]
  · show f_X0_reduce_B13 M x0 (lN x) (lN 0) (nI i) = _
    unfold f_X0_reduce_B13
    rw [if_pos ((lgle (v := 0) (by omega)).mpr rfl)]
    split <;> rfl
theorem mo_gcd (M : Mem) {x y : Nat} (hx : x < 2 ^ 62) (hy : y < 2 ^ 62) : f_X12_common M (lN x) (lN y) = some (lN (Nat.gcd x y)) := by
  have e : f_X12_common_L6 M (lN x) (lN y) = some (lN (Nat.gcd x y)) := by
    refine eu_any (f := fun s : Int64 × Int64 => f_X12_common_B6 M s.1 s.2) (fun _ x y => (lN x, lN y)) 200 (by omega) (fun i x y hi h0 hy hx => ?_) (fun i x => ?_) hx hy
    · show f_X12_common_B6 M (lN x) (lN y) = _
      unfold f_X12_common_B6
      rw [if_neg (fun h => by have := (lg0 hy).mp h; omega), rmL_at hx h0 hy, bb_some]
    · show f_X12_common_B6 M (lN x) (lN 0) = _
      unfold f_X12_common_B6
      rw [if_pos ((lg0 (v := 0) (by omega)).mpr rfl)]
  rw [f_X12_common, e, bb_some]
theorem mo_frac (M : Mem) {x y : Nat} (hx : x < 2 ^ 62) (h0 : 0 < y) (hy : y < 2 ^ 62) (b : Int32) : f_X12_fraction M (lN x) (lN y) b = some (if b = 0 then lN (x / Nat.gcd x y) else lN (y / Nat.gcd x y)) := by
  have hg : 0 < Nat.gcd x y := Nat.gcd_pos_of_pos_right x h0
  have hg2 : Nat.gcd x y ≤ y := Nat.le_of_dvd h0 (Nat.gcd_dvd_right x y)
  unfold f_X12_fraction f_X12_fraction_J10
  rw [mo_gcd M hx hy, bb_some, bb_some, dvL_at (by omega) hg (by omega), dvL_at (by omega) hg (by omega), bb_some, bb_some]
  split <;> rfl
theorem c_shp84 {M : Mem} (hS : Sk M) : shp M 84 = some (.inl 0) := sk_shp hS (by omega) rfl
theorem c_reduce {M : Mem} (hS : Sk M) {x y : Nat} (hx : x < 2 ^ 62) (h0 : 0 < y) (hy : y < 2 ^ 62) (e0 : M.2.1 84 0 = lN x) (e1 : M.2.1 84 1 = lN y) : ∃ M', f_X0_reduce M 84 = some M' ∧ M'.2.1 84 0 = lN (x / Nat.gcd x y) ∧ M'.2.1 84 1 = lN (y / Nat.gcd x y) ∧ M'.1 = M.1 ∧ M'.2.2 = M.2.2 := by
  have hg : 0 < Nat.gcd x y := Nat.gcd_pos_of_pos_right x h0
  have hg2 : Nat.gcd x y ≤ y := Nat.le_of_dvd h0 (Nat.gcd_dvd_right x y)
  have sh := c_shp84 hS
  refine ⟨wL (wL M 84 0 (lN (x / Nat.gcd x y))) 84 1 (lN (y / Nat.gcd x y)), ?_, by simp [wL], by simp [wL], rfl, rfl⟩
  unfold f_X0_reduce
  rw [gL_at sh, bb_some, gL_at sh, bb_some, e0, e1, c_gcd M 84 hx hy, bb_some, if_neg (fun h => by have := (lgle (by omega)).mp h; omega), bb_some, dvL_at (by omega) hg (by omega), bb_some, pL_at sh, bb_some, gL_at (c_shp84 (M := wL M 84 0 (lN (x / Nat.gcd x y))) hS), bb_some]
  rw [show (wL M 84 0 (lN (x / Nat.gcd x y))).2.1 84 1 = lN y by simp [wL, e1], dvL_at (by omega) hg (by omega), bb_some, pL_at (c_shp84 (M := wL M 84 0 (lN (x / Nat.gcd x y))) hS), bb_some]
/-- tens -/
theorem c_tens (M : Mem) {n : Nat} (hn : n ≤ 8) : f_X0_tenTo M (nI n) = some (lN (10 ^ n)) := by
  have e := (lpI (f := fun s : Int64 × Int32 => f_X0_tenTo_B4 M (nI n) s.1 s.2) 0 n (fun _ v => v * 10) lN lN (fun i v => v = 10 ^ i) 1 rfl (fun i v hi hv => by
    refine ⟨?_, by rw [hv, Nat.pow_succ]⟩
    rw [Nat.zero_add]
    show f_X0_tenTo_B4 M (nI n) (lN v) (nI i) = _
    unfold f_X0_tenTo_B4
    rw [if_neg (nI_ge hi (by omega)), ← lN_mul]; rfl) (fun v hv => by simp [f_X0_tenTo_B4]) (by omega))
  have e1 : f_X0_tenTo_L4 M (nI n) 1 0 = some (lN (fo (fun _ v => v * 10) n 1)) := e.1
  rw [f_X0_tenTo, e1, bb_some, e.2]
theorem mo_tens (M : Mem) {n : Nat} (hn : n ≤ 8) : f_X12_tens M (nI n) = some (lN (10 ^ n)) := by
  have e := (lpI (f := fun s : Int64 × Int32 => f_X12_tens_B4 M (nI n) s.1 s.2) 0 n (fun _ v => v * 10) lN lN (fun i v => v = 10 ^ i) 1 rfl (fun i v hi hv => by
    refine ⟨?_, by rw [hv, Nat.pow_succ]⟩
    rw [Nat.zero_add]
    show f_X12_tens_B4 M (nI n) (lN v) (nI i) = _
    unfold f_X12_tens_B4
    rw [if_neg (nI_ge hi (by omega)), ← lN_mul]; rfl) (fun v hv => by simp [f_X12_tens_B4]) (by omega))
  have e1 : f_X12_tens_L4 M (nI n) 1 0 = some (lN (fo (fun _ v => v * 10) n 1)) := e.1
  rw [f_X12_tens, e1, bb_some, e.2]
/-- how much those of m weigh -/
def wgt (a : Nat → Nat) (m : Nat) : Nat := fo (fun s v => v * (if m.testBit s = true then a (9 + 5 * s) else 10 - a (9 + 5 * s))) (a 0) 1
theorem wgt_le {a : Nat → Nat} (hO : OkO a) (m : Nat) : wgt a m ≤ 10 ^ a 0 := fo_inv (fun i v => v ≤ 10 ^ i) (Nat.le_refl _) (fun s v hs hv => by
  have hp := (hO.2.1 s hs).2.2.2.2
  rw [Nat.pow_succ]
  refine Nat.mul_le_mul hv ?_
  split <;> omega)
theorem ten8 {n : Nat} (h : n ≤ 8) : 0 < 10 ^ n ∧ 10 ^ n ≤ 100000000 := ⟨Nat.pow_pos (by omega), Nat.le_trans (Nat.pow_le_pow_right (by omega) h) (by omega)⟩
theorem c_wgt {M : Mem} {o : Nat} {a : Nat → Nat} (hC : CO M o a) (hO : OkO a) {m : Nat} (hm : m < 2 ^ 31) : f_X0_weightOf M o (nI m) = some (lN (wgt a m)) := by
  have h8 := hO.1.1
  have e := (lp (f := fun s : Int64 × Int32 => f_X0_weightOf_B5 M o (nI m) s.1 s.2) (a 0) (fun s v => v * (if m.testBit s = true then a (9 + 5 * s) else 10 - a (9 + 5 * s))) lN lN 1 (fun s v hs => by
    have hp := (hO.2.1 s hs).2.2.2.2
    show f_X0_weightOf_B5 M o (nI m) (lN v) (nI s) = _
    unfold f_X0_weightOf_B5
    rw [co_g0 hC, bb_some, if_neg (nI_ge hs (by omega)), co_r9 hC, bb_some, bb_some, co_pres hC hO hs, bb_some, bb_some]
    by_cases hb : m.testBit s = true
    · rw [if_neg (by rw [bit_0 hm (by omega), hb]; decide), if_pos hb, nI_l (by omega), lN_mul]
    · rw [if_pos (by rw [bit_0 hm (by omega)]; simpa using hb), if_neg hb]
      have e : (10 : Int32) - nI (a (9 + 5 * s)) = nI (10 - a (9 + 5 * s)) := pk_sub (a := 10) (by omega)
      rw [e, nI_l (by omega), lN_mul]) (fun v => by simp [f_X0_weightOf_B5, co_g0 hC]) (by omega))
  have e : f_X0_weightOf_L5 M o (nI m) 1 0 = some (lN (wgt a m)) := e
  rw [f_X0_weightOf, e, bb_some]
theorem mo_wgt {M : Mem} {a : Nat → Nat} (hM : MO M a) (hO : OkO a) {m : Nat} (hm : m < 2 ^ 31) : f_X12_weightOf M 255 (nI m) = some (lN (wgt a m)) := by
  have h8 := hO.1.1
  have e := (lp (f := fun s : Int64 × Int32 => f_X12_weightOf_B5 M 255 (nI m) s.1 s.2) (a 0) (fun s v => v * (if m.testBit s = true then a (9 + 5 * s) else 10 - a (9 + 5 * s))) lN lN 1 (fun s v hs => by
    have hp := (hO.2.1 s hs).2.2.2.2
    show f_X12_weightOf_B5 M 255 (nI m) (lN v) (nI s) = _
    unfold f_X12_weightOf_B5
    rw [mo_g12 hM, bb_some, if_neg (nI_ge hs (by omega)), m_holds M hm (by omega), bb_some, mo_ob hM, bb_some, bb_some, mo_of4 hM (by omega), bb_some, bb_some]
    by_cases hb : m.testBit s = true
    · rw [if_pos hb, if_neg (by decide), if_pos hb, nI_l (by omega), lN_mul]
    · rw [if_neg hb, if_pos rfl, if_neg hb]
      have e : (10 : Int32) - nI (a (9 + 5 * s)) = nI (10 - a (9 + 5 * s)) := pk_sub (a := 10) (by omega)
      rw [e, nI_l (by omega), lN_mul]) (fun v => by simp [f_X12_weightOf_B5, mo_g12 hM]) (by omega))
  have e : f_X12_weightOf_L5 M 255 (nI m) 1 0 = some (lN (wgt a m)) := e
  rw [f_X12_weightOf, e, bb_some]
