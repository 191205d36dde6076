/-! the button: the row by which a call goes round -/
def pr (a : Nat → Nat) (d : Nat) : Nat := a (9 + 5 * d)
/-- the least of some values, in their order -/
def mnO (q : Nat → Bool) (f : Nat → Nat) (n : Nat) : Option Nat := fo (fun d v => if q d = true then (match v with | none => some (f d) | some w => if w ≤ f d then some w else some (f d)) else v) n none
theorem mnO_st (q : Nat → Bool) (f : Nat → Nat) (n : Nat) : mnO q f (n + 1) = if q n = true then (match mnO q f n with | none => some (f n) | some w => if w ≤ f n then some w else some (f n)) else mnO q f n := rfl
theorem mnO_sp (q : Nat → Bool) (f : Nat → Nat) : ∀ n, (mnO q f n = none ∧ ∀ d, d < n → q d = false) ∨ ∃ w, mnO q f n = some w ∧ (∀ d, d < n → q d = true → w ≤ f d) ∧ ∃ d, d < n ∧ q d = true ∧ f d = w := by
  intro n
  induction n with
  | zero => exact Or.inl ⟨rfl, fun d hd => absurd hd (by omega)⟩
  | succ n ih =>
    rw [mnO_st]
    by_cases hq : q n = true
    · rw [if_pos hq]
      right
      rcases ih with ⟨h1, h2⟩ | ⟨w, h1, h2, d, h3, h4, h5⟩
      · rw [h1]
        refine ⟨f n, rfl, fun d hd hqd => ?_, n, by omega, hq, rfl⟩
        by_cases e : d = n
        · rw [e]; exact Nat.le_refl _
        · rw [h2 d (by omega)] at hqd; cases hqd
      · rw [h1]
        show ∃ w', (if w ≤ f n then some w else some (f n)) = some w' ∧ _
        by_cases hw : w ≤ f n
        · rw [if_pos hw]
          refine ⟨w, rfl, fun e he hqe => ?_, d, by omega, h4, h5⟩
          by_cases ee : e = n
          · rw [ee]; exact hw
          · exact h2 e (by omega) hqe
        · rw [if_neg hw]
          refine ⟨f n, rfl, fun e he hqe => ?_, n, by omega, hq, rfl⟩
          by_cases ee : e = n
          · rw [ee]; exact Nat.le_refl _
          · have := h2 e (by omega) hqe; omega
    · rw [if_neg hq]
      rcases ih with ⟨h1, h2⟩ | ⟨w, h1, h2, d, h3, h4, h5⟩
      · refine Or.inl ⟨h1, fun d hd => ?_⟩
        by_cases e : d = n
        · rw [e]; simpa using hq
        · exact h2 d (by omega)
      · refine Or.inr ⟨w, h1, fun e he hqe => ?_, d, by omega, h4, h5⟩
        by_cases ee : e = n
        · rw [ee] at hqe; exact absurd hqe hq
        · exact h2 e (by omega) hqe
def tvf (a : Nat → Nat) : Nat → Nat → Nat
  | 0, _ => 0
  | f + 1, s => (mnO (fun d => s.testBit d) (fun d => 10 ^ pc s + (10 - pr a d) * tvf a f (clr s d)) (a 0)).getD 0
def tvv (a : Nat → Nat) (s : Nat) : Nat := tvf a (s + 1) s
def tby (a : Nat → Nat) (s d : Nat) : Nat := 10 ^ pc s + (10 - pr a d) * tvv a (clr s d)
theorem clr_sm {s d : Nat} (hd : d < 32) (h : s.testBit d = true) : clr s d < s := by
  rcases Nat.lt_or_ge (clr s d) s with h1 | h1
  · exact h1
  · have := clr_le s d
    have e : clr s d = s := by omega
    have := clr_self (m := s) hd
    rw [e, h] at this; cases this
theorem mnO_cg {q : Nat → Bool} {f g : Nat → Nat} {n : Nat} (h : ∀ d, d < n → q d = true → f d = g d) : mnO q f n = mnO q g n := by
  induction n with
  | zero => rfl
  | succ n ih =>
    rw [mnO_st, mnO_st, ih (fun d hd => h d (by omega))]
    by_cases hq : q n = true
    · rw [if_pos hq, if_pos hq, h n (by omega) hq]
    · rw [if_neg hq, if_neg hq]
theorem tvf_up {a : Nat → Nat} (hO : OkO a) : ∀ f s, s < f → tvf a (f + 1) s = tvf a f s := by
  have h8 := hO.1.1
  intro f
  induction f with
  | zero => intro s hs; omega
  | succ f ih =>
    intro s hs
    show (mnO (fun d => s.testBit d) (fun d => 10 ^ pc s + (10 - pr a d) * tvf a (f + 1) (clr s d)) (a 0)).getD 0 = (mnO (fun d => s.testBit d) (fun d => 10 ^ pc s + (10 - pr a d) * tvf a f (clr s d)) (a 0)).getD 0
    rw [mnO_cg (fun d hd hq => by
      have := clr_sm (show d < 32 by omega) hq
      show 10 ^ pc s + (10 - pr a d) * tvf a (f + 1) (clr s d) = 10 ^ pc s + (10 - pr a d) * tvf a f (clr s d)
      rw [ih (clr s d) (by omega)])]
theorem tvf_v {a : Nat → Nat} (hO : OkO a) {s : Nat} : ∀ k, tvf a (s + 1 + k) s = tvv a s := by
  intro k
  induction k with
  | zero => rfl
  | succ k ih => rw [show s + 1 + (k + 1) = (s + 1 + k) + 1 by omega, tvf_up hO _ _ (by omega), ih]
theorem tvv_st {a : Nat → Nat} (hO : OkO a) (s : Nat) : tvv a s = (mnO (fun d => s.testBit d) (tby a s) (a 0)).getD 0 := by
  have h8 := hO.1.1
  show (mnO (fun d => s.testBit d) (fun d => 10 ^ pc s + (10 - pr a d) * tvf a s (clr s d)) (a 0)).getD 0 = _
  rw [mnO_cg (g := tby a s) (fun d hd hq => by
    have := clr_sm (show d < 32 by omega) hq
    have e := tvf_v hO (s := clr s d) (s - (clr s d + 1))
    rw [show clr s d + 1 + (s - (clr s d + 1)) = s by omega] at e
    show 10 ^ pc s + (10 - pr a d) * tvf a s (clr s d) = tby a s d
    rw [e]; rfl)]
theorem tvv_le {a : Nat → Nat} (hO : OkO a) {s d : Nat} (hd : d < a 0) (h : s.testBit d = true) : tvv a s ≤ tby a s d := by
  rw [tvv_st hO]
  rcases mnO_sp (fun d => s.testBit d) (tby a s) (a 0) with ⟨h1, h2⟩ | ⟨w, h1, h2, _⟩
  · have := h2 d hd; rw [h] at this; cases this
  · rw [h1]; exact h2 d hd h
theorem tvv_at {a : Nat → Nat} (hO : OkO a) {s d : Nat} (hd : d < a 0) (h : s.testBit d = true) : ∃ e, e < a 0 ∧ s.testBit e = true ∧ tvv a s = tby a s e := by
  rw [tvv_st hO]
  rcases mnO_sp (fun d => s.testBit d) (tby a s) (a 0) with ⟨h1, h2⟩ | ⟨w, h1, h2, e, h3, h4, h5⟩
  · have := h2 d hd; rw [h] at this; cases this
  · rw [h1]; exact ⟨e, h3, h4, h5.symm⟩
theorem pc_clr : ∀ s, s < 256 → ∀ d, d < 8 → s.testBit d = true → pc s = pc (clr s d) + 1 := by decide +kernel
theorem clr_cm {s d e : Nat} : clr (clr s d) e = clr (clr s e) d := by
  unfold clr
  rw [Nat.and_assoc, Nat.and_assoc, Nat.and_comm (4294967295 ^^^ 2 ^ d)]
theorem clr_l {n s d : Nat} (h : s < 2 ^ n) : clr s d < 2 ^ n := Nat.lt_of_le_of_lt (clr_le s d) h
/-- the likeliest comes first -/
theorem tv_max {a : Nat → Nat} (hO : OkO a) : ∀ N s, s < N → s < 2 ^ a 0 → ∀ e, e < a 0 → s.testBit e = true → (∀ d, d < a 0 → s.testBit d = true → pr a d ≤ pr a e) → ∀ d, d < a 0 → s.testBit d = true → tby a s e ≤ tby a s d ∧ (pr a d < pr a e → tby a s e < tby a s d) := by
  have h8 := hO.1.1
  have p8 := pw8 h8
  intro N
  induction N with
  | zero => intro s hs; omega
  | succ N ih =>
    intro s hs hl e he hse hm d hd hsd
    by_cases ed : d = e
    · subst ed; exact ⟨Nat.le_refl _, fun h => absurd h (by omega)⟩
    · have c1 := clr_sm (show d < 32 by omega) hsd
      have c2 := clr_sm (show e < 32 by omega) hse
      have be : (clr s d).testBit e = true := by rw [clr_bit (by omega), hse]; simp; omega
      have bd : (clr s e).testBit d = true := by rw [clr_bit (by omega), hsd]; simp; omega
      have vd : tvv a (clr s d) = tby a (clr s d) e := by
        obtain ⟨x, x1, x2, x3⟩ := tvv_at hO he be
        have l1 := tvv_le hO he be
        have := (ih (clr s d) (by omega) (clr_l hl) e he be (fun y hy hby => hm y hy (by rw [clr_bit (by omega)] at hby; simp at hby; exact hby.1)) x x1 x2).1
        omega
      have ve := tvv_le hO hd bd
      have pd := pc_clr s (by omega) d (by omega) hsd
      have pe := pc_clr s (by omega) e (by omega) hse
      have pde : pc (clr s e) = pc (clr s d) := by omega
      have hpe := (hO.2.1 e he).2.2.2.2
      have hpd := (hO.2.1 d hd).2.2.2.2
      have hme := hm d hd hsd
      have hpe : pr a e ≤ 10 := hpe
      have hpd : pr a d ≤ 10 := hpd
      have e1 : tby a s d = 10 ^ pc s + (10 - pr a d) * tvv a (clr s d) := rfl
      have e2 : tby a s e = 10 ^ pc s + (10 - pr a e) * tvv a (clr s e) := rfl
      have e3 : tby a (clr s d) e = 10 ^ pc (clr s d) + (10 - pr a e) * tvv a (clr (clr s d) e) := rfl
      have e4 : tby a (clr s e) d = 10 ^ pc (clr s d) + (10 - pr a d) * tvv a (clr (clr s d) e) := by
        rw [clr_cm (s := s) (d := d) (e := e), ← pde]; rfl
      rw [vd, e3] at e1
      rw [e4] at ve
      generalize tvv a (clr (clr s d) e) = W at e1 ve
      generalize hT : 10 ^ pc (clr s d) = T at e1 ve
      have hT0 : 0 < T := by rw [← hT]; exact Nat.pow_pos (by omega)
      generalize hX : 10 - pr a d = X at e1 ve
      generalize hY : 10 - pr a e = Y at e1 e2
      have hYX : Y ≤ X := by omega
      have m1 : Y * tvv a (clr s e) ≤ Y * (T + X * W) := Nat.mul_le_mul_left _ ve
      have m2 : Y * (T + X * W) = Y * T + X * (Y * W) := by rw [Nat.mul_add, ← Nat.mul_assoc, Nat.mul_comm Y X, Nat.mul_assoc]
      have m3 : X * (T + Y * W) = X * T + X * (Y * W) := Nat.mul_add _ _ _
      have m4 : Y * T ≤ X * T := Nat.mul_le_mul_right _ hYX
      refine ⟨by omega, fun hlt => ?_⟩
      have m5 : Y * T < X * T := Nat.mul_lt_mul_of_pos_right (by omega) hT0
      omega
theorem tv_eq {a : Nat → Nat} (hO : OkO a) {s e d : Nat} (hl : s < 2 ^ a 0) (he : e < a 0) (hse : s.testBit e = true) (hm : ∀ d, d < a 0 → s.testBit d = true → pr a d ≤ pr a e) (hd : d < a 0) (hsd : s.testBit d = true) : tvv a s = tby a s e ∧ (tby a s d = tvv a s ↔ pr a d = pr a e) := by
  have mx := tv_max hO (s + 1) s (by omega) hl
  have v1 : tvv a s = tby a s e := by
    obtain ⟨x, x1, x2, x3⟩ := tvv_at hO he hse
    have l1 := tvv_le hO he hse
    have := (mx e he hse hm x x1 x2).1
    omega
  refine ⟨v1, fun h => ?_, fun h => ?_⟩
  · have h1 := mx e he hse hm d hd hsd
    have h2 := hm d hd hsd
    rcases Nat.lt_or_ge (pr a d) (pr a e) with h3 | h3
    · have := h1.2 h3; omega
    · omega
  · have h1 := (mx e he hse hm d hd hsd).1
    have h2 := (mx d hd hsd (fun y hy hby => by rw [h]; exact hm y hy hby) e he hse).1
    omega
theorem tv_bd {a : Nat → Nat} (hO : OkO a) : ∀ N s, s < N → s < 2 ^ a 0 → tvv a s ≤ pc s * 10 ^ pc s := by
  have h8 := hO.1.1
  have p8 := pw8 h8
  intro N
  induction N with
  | zero => intro s hs; omega
  | succ N ih =>
    intro s hs hl
    rw [tvv_st hO]
    rcases mnO_sp (fun d => s.testBit d) (tby a s) (a 0) with ⟨h1, h2⟩ | ⟨w, h1, h2, d, h3, h4, h5⟩
    · rw [h1]; exact Nat.zero_le _
    · rw [h1]
      show w ≤ _
      rw [← h5]
      have c1 := clr_sm (show d < 32 by omega) h4
      have g := ih (clr s d) (by omega) (clr_l hl)
      have pd := pc_clr s (by omega) d (by omega) h4
      unfold tby
      rw [pd, Nat.pow_succ, Nat.add_mul, Nat.one_mul]
      have m1 : (10 - pr a d) * tvv a (clr s d) ≤ 10 * (pc (clr s d) * 10 ^ pc (clr s d)) := Nat.mul_le_mul (by omega) g
      have m2 : pc (clr s d) * (10 ^ pc (clr s d) * 10) = 10 * (pc (clr s d) * 10 ^ pc (clr s d)) := by rw [← Nat.mul_assoc, Nat.mul_comm]
      omega
theorem pc_8 : ∀ s, s < 256 → pc s ≤ 8 := by decide +kernel
theorem tv_lt {a : Nat → Nat} (hO : OkO a) {s : Nat} (hl : s < 2 ^ a 0) : tvv a s ≤ 800000000 := by
  have p8 := pw8 hO.1.1
  have h := tv_bd hO (s + 1) s (by omega) hl
  have h2 := pc_8 s (by omega)
  have h3 : 10 ^ pc s ≤ 10 ^ 8 := Nat.pow_le_pow_right (by omega) h2
  have h4 : pc s * 10 ^ pc s ≤ 8 * 10 ^ 8 := Nat.mul_le_mul h2 h3
  omega
theorem tb_lt {a : Nat → Nat} (hO : OkO a) {s d : Nat} (hl : s < 2 ^ a 0) (hd : d < a 0) (h : s.testBit d = true) : tby a s d < 2 ^ 40 := by
  have p8 := pw8 hO.1.1
  have h1 := tv_lt hO (clr_l (d := d) hl)
  have h2 := pc_8 s (by omega)
  have h3 : 10 ^ pc s ≤ 10 ^ 8 := Nat.pow_le_pow_right (by omega) h2
  have h4 : (10 - pr a d) * tvv a (clr s d) ≤ 10 * 800000000 := Nat.mul_le_mul (by omega) h1
  unfold tby
  omega
theorem tv_0 {a : Nat → Nat} (hO : OkO a) : tvv a 0 = 0 := by
  have := tv_bd hO 1 0 (by omega) (Nat.two_pow_pos _)
  rw [show pc 0 = 0 from rfl, Nat.zero_mul] at this
  omega
/-- whom the row takes next -/
def PK (a : Nat → Nat) (s : Nat) (su : Bool) (d : Nat) : Prop := d < a 0 ∧ s.testBit d = true ∧ (su = true → ∀ x, x < d → s.testBit x = false) ∧ (su = false → (∀ x, x < a 0 → s.testBit x = true → pr a x ≤ pr a d) ∧ ∀ x, x < d → s.testBit x = true → pr a x < pr a d)
def stR (a r : Nat → Nat) : Nat → Nat
  | 0 => 2 ^ a 0 - 1
  | k + 1 => clr (stR a r k) (r k)
def suR (a r : Nat → Nat) : Nat → Bool
  | 0 => false
  | k + 1 => suR a r k || decide (pr a (r k) = 10)
def RwO (a r : Nat → Nat) (m : Nat) : Prop := ∀ k, k < m → PK a (stR a r k) (suR a r k) (r k)
theorem stR_cg {a r r' : Nat → Nat} : ∀ k, (∀ i, i < k → r' i = r i) → stR a r' k = stR a r k ∧ suR a r' k = suR a r k := by
  intro k
  induction k with
  | zero => intro _; exact ⟨rfl, rfl⟩
  | succ k ih =>
    intro h
    obtain ⟨h1, h2⟩ := ih (fun i hi => h i (by omega))
    refine ⟨?_, ?_⟩
    · show clr (stR a r' k) (r' k) = clr (stR a r k) (r k)
      rw [h1, h k (by omega)]
    · show (suR a r' k || decide (pr a (r' k) = 10)) = (suR a r k || decide (pr a (r k) = 10))
      rw [h2, h k (by omega)]
theorem all_pc : ∀ n, n ≤ 8 → pc (2 ^ n - 1) = n := by decide +kernel
theorem stR_ok {a r : Nat → Nat} (hO : OkO a) : ∀ k, k ≤ a 0 → RwO a r k → stR a r k < 2 ^ a 0 ∧ pc (stR a r k) = a 0 - k := by
  have h8 := hO.1.1
  have p8 := pw8 h8
  have pp := Nat.two_pow_pos (a 0)
  intro k
  induction k with
  | zero => intro _ _; exact ⟨by show 2 ^ a 0 - 1 < _; omega, all_pc (a 0) h8⟩
  | succ k ih =>
    intro hk hR
    obtain ⟨h1, h2⟩ := ih (by omega) (fun j hj => hR j (by omega))
    obtain ⟨g1, g2, _⟩ := hR k (by omega)
    have := pc_clr (stR a r k) (by omega) (r k) (by omega) g2
    exact ⟨clr_l h1, by show pc (clr (stR a r k) (r k)) = _; omega⟩
theorem pc_ex : ∀ s, s < 256 → 0 < pc s → ∃ d, d < 8 ∧ s.testBit d = true := by decide +kernel
theorem bit_lt {n s d : Nat} (h : s < 2 ^ n) (hb : s.testBit d = true) : d < n := by
  rcases Nat.lt_or_ge d n with h1 | h1
  · exact h1
  · have : s.testBit d = false := Nat.testBit_lt_two_pow (Nat.lt_of_lt_of_le h (Nat.pow_le_pow_right (by omega) h1))
    rw [hb] at this; cases this
theorem pick_un {a : Nat → Nat} {s : Nat} {su : Bool} {d e : Nat} (h : PK a s su d) (h' : PK a s su e) : d = e := by
  obtain ⟨h1, h2, h3, h4⟩ := h
  obtain ⟨g1, g2, g3, g4⟩ := h'
  rcases Nat.lt_trichotomy d e with l | l | l
  · cases su with
    | true => have := g3 rfl d l; rw [h2] at this; cases this
    | false => have k1 := (g4 rfl).2 d l h2; have k2 := (h4 rfl).1 e g1 g2; omega
  · exact l
  · cases su with
    | true => have := h3 rfl e l; rw [g2] at this; cases this
    | false => have k1 := (h4 rfl).2 e l g2; have k2 := (g4 rfl).1 d h1 h2; omega
/-- what the row brings in the mean -/
def prd (a r : Nat → Nat) : Nat → Nat
  | 0 => 1
  | k + 1 => prd a r k * (10 - pr a (r k))
def smR (a r : Nat → Nat) (n : Nat) : Nat → Nat
  | 0 => 0
  | k + 1 => smR a r n k + 10 ^ (n - k) * prd a r k
theorem prd_su {a r : Nat → Nat} : ∀ k, suR a r k = true → prd a r k = 0 := by
  intro k
  induction k with
  | zero => intro h; cases h
  | succ k ih =>
    intro h
    have h : (suR a r k || decide (pr a (r k) = 10)) = true := h
    show prd a r k * (10 - pr a (r k)) = 0
    rw [Bool.or_eq_true] at h
    rcases h with h | h
    · rw [ih h, Nat.zero_mul]
    · rw [of_decide_eq_true h, Nat.sub_self, Nat.mul_zero]
theorem smR_v {a r : Nat → Nat} (hO : OkO a) : ∀ k, k ≤ a 0 → RwO a r k → smR a r (a 0) k + prd a r k * tvv a (stR a r k) = tvv a (2 ^ a 0 - 1) := by
  intro k
  induction k with
  | zero => intro _ _; show 0 + 1 * tvv a (2 ^ a 0 - 1) = _; omega
  | succ k ih =>
    intro hk hR
    have h1 := ih (by omega) (fun j hj => hR j (by omega))
    obtain ⟨s1, s2⟩ := stR_ok hO k (by omega) (fun j hj => hR j (by omega))
    obtain ⟨g1, g2, g3, g4⟩ := hR k (by omega)
    show smR a r (a 0) k + 10 ^ (a 0 - k) * prd a r k + prd a r k * (10 - pr a (r k)) * tvv a (clr (stR a r k) (r k)) = _
    cases hs : suR a r k with
    | true =>
      rw [prd_su k hs] at h1 ⊢
      simp only [Nat.mul_zero, Nat.zero_mul, Nat.add_zero] at h1 ⊢
      exact h1
    | false =>
      have v := (tv_eq hO s1 g1 g2 (g4 hs).1 g1 g2).1
      have e : tby a (stR a r k) (r k) = 10 ^ pc (stR a r k) + (10 - pr a (r k)) * tvv a (clr (stR a r k) (r k)) := rfl
      rw [v, e, s2, Nat.mul_add, ← Nat.mul_assoc, Nat.mul_comm (prd a r k) (10 ^ (a 0 - k))] at h1
      omega
