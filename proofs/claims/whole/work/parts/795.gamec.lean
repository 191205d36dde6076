/-! the game of waiting: the class -/
theorem w_sh {M : Mem} (hS : Sk M) : shp M 87 = some (.inl 10) ∧ shp M 88 = some (.inr (0, 8)) ∧ shp M 89 = some (.inr (0, 8)) ∧ shp M 90 = some (.inr (0, 4)) ∧ shp M 91 = some (.inr (0, 176)) := ⟨sk_shp hS (by omega) rfl, sk_shp hS (by omega) rfl, sk_shp hS (by omega) rfl, sk_shp hS (by omega) rfl, sk_shp hS (by omega) rfl⟩
theorem w_r1 {M : Mem} (hS : Sk M) : gR M 10 87 1 = some 88 := by rw [gR_at (w_sh hS).1, hS.2 (87, 1, 88) (by decide)]
theorem w_r2 {M : Mem} (hS : Sk M) : gR M 10 87 2 = some 89 := by rw [gR_at (w_sh hS).1, hS.2 (87, 2, 89) (by decide)]
theorem w_r3 {M : Mem} (hS : Sk M) : gR M 10 87 3 = some 90 := by rw [gR_at (w_sh hS).1, hS.2 (87, 3, 90) (by decide)]
theorem w_r5 {M : Mem} (hS : Sk M) : gR M 10 87 5 = some 91 := by rw [gR_at (w_sh hS).1, hS.2 (87, 5, 91) (by decide)]
theorem w_ob {M : Mem} (hS : Sk M) : ob M 10 87 = some () := ob_at (w_sh hS).1
theorem vc_22 {P : Nat} {c w : Nat → Nat} (hP : P ≤ 7) : cb (vc P c w) 32 ≤ 22 := by
  have h1 : cb (vc P c w) 32 ≤ cb (fun e => decide (e = 0 ∨ (8 ≤ e ∧ e % 8 < 7))) 32 := cb_mono (fun e he hv => by
    rcases dc_iff.mp hv with ⟨h, _⟩ | ⟨h1, h2, h3, _⟩
    · exact decide_eq_true (Or.inl h)
    · exact decide_eq_true (Or.inr ⟨h1, by omega⟩))
  have h2 : cb (fun e => decide (e = 0 ∨ (8 ≤ e ∧ e % 8 < 7))) 32 = 22 := by decide +kernel
  omega
theorem vc_lt {P : Nat} {c w : Nat → Nat} {e : Nat} (hP : P ≤ 7) (he : e < 32) (hv : vc P c w e = true) : cb (vc P c w) e < cb (vc P c w) 32 ∧ cb (vc P c w) e < 22 := by
  have h1 := cb_mo (vc P c w) (show e + 1 ≤ 32 by omega)
  rw [cb_st, if_pos hv] at h1
  have := vc_22 (c := c) (w := w) hP
  omega
/-- the families, told -/
def CG (M : Mem) (P : Nat) (g c w : Nat → Nat) : Prop := Sk M ∧ M.1 87 0 = nI P ∧ M.1 87 4 = nI (cb (vc P c w) 32) ∧ ∀ e, e < 32 → vc P c w e = true → ∀ i, i < P → M.1 91 (8 * cb (vc P c w) e + i) = nI (chF g c w e i)
section
variable {M : Mem} {P : Nat} {g c w : Nat → Nat}
theorem cg_p (h : CG M P g c w) : gI M 10 87 0 = some (nI P) := by rw [gI_at (w_sh h.1).1, h.2.1]
theorem cg_n (h : CG M P g c w) : gI M 10 87 4 = some (nI (cb (vc P c w) 32)) := by rw [gI_at (w_sh h.1).1, h.2.2.1]
theorem cg_c (h : CG M P g c w) (hP : P ≤ 7) {e i : Nat} (he : e < 32) (hv : vc P c w e = true) (hi : i < P) : aI M 0 91 (nI (cb (vc P c w) e) * 8 + nI i) = some (nI (chF g c w e i)) := by
  have := vc_lt hP he hv
  rw [x8, aI_at (w_sh h.1).2.2.2.2 (by omega) (by omega) (by omega), h.2.2.2 e he hv i hi]
theorem prm_s {ch : Nat → Nat → Nat} {e i : Nat} (hi : i < P) : prm ch P e (P - i) = pc (ch e i) * prm ch P e (P - (i + 1)) := by
  obtain ⟨m, hm⟩ : ∃ m, P - i = m + 1 := ⟨P - i - 1, by omega⟩
  rw [hm, show P - (i + 1) = m by omega]
  show pc (ch e (P - (m + 1))) * prm ch P e m = _
  rw [show P - (m + 1) = i by omega]
theorem c_rows (h : CG M P g c w) (hP : P ≤ 7) {e i : Nat} (he : e < 32) (hv : vc P c w e = true) (hi : i ≤ P) : f_X10_rowsFrom M 87 (nI (cb (vc P c w) e)) (nI i) = some (nI (prm (chF g c w) P e (P - i))) := by
  obtain ⟨r, e1, a, hr1, hr2⟩ := iter_rel (f := fun s : Int32 × Int32 => f_X10_rowsFrom_B5 M 87 (nI (cb (vc P c w) e)) s.1 s.2) P (fun x s => (∃ a, s.1 = nI a ∧ a * prm (chF g c w) P e (P - x) = prm (chF g c w) P e (P - i)) ∧ s.2 = nI x) (fun r => ∃ a, r = nI a ∧ a = prm (chF g c w) P e (P - i)) (fun x s hx ⟨⟨a, hs1, hs2⟩, hs3⟩ => by
    obtain ⟨s1, s2⟩ := s
    have hq1 : s1 = nI a := hs1
    have hq3 : s2 = nI x := hs3
    clear hs1 hs3
    subst hq1
    subst hq3
    have hl := chF_lt (g := g) (c := c) (w := w) (i := x) he
    refine Or.inl ⟨(nI (a * pc (chF g c w e x)), nI (x + 1)), ?_, ⟨_, rfl, ?_⟩, rfl⟩
    · show f_X10_rowsFrom_B5 M 87 (nI (cb (vc P c w) e)) (nI a) (nI x) = _
      unfold f_X10_rowsFrom_B5
      rw [cg_p h, bb_some, if_neg (nI_ge hx (by omega)), w_r5 h.1, bb_some, cg_c h hP he hv hx, bb_some, pc_at M _ (by omega), bb_some, pk_mul, nI_1]
    · rw [← hs2, prm_s hx, Nat.mul_assoc]) (fun s ⟨⟨a, hs1, hs2⟩, hs3⟩ => by
    obtain ⟨s1, s2⟩ := s
    have hq3 : s2 = nI P := hs3
    subst hq3
    refine ⟨s1, by show f_X10_rowsFrom_B5 M 87 (nI (cb (vc P c w) e)) s1 (nI P) = _; rw [f_X10_rowsFrom_B5, cg_p h, bb_some, if_pos (nI_le (Nat.le_refl _) (by omega))], a, hs1, ?_⟩
    rw [Nat.sub_self] at hs2
    rw [← hs2]
    show a = a * 1
    rw [Nat.mul_one]) 1048576 i (1, nI i) hi ⟨⟨1, rfl, Nat.one_mul _⟩, rfl⟩ (by omega)
  have e1 : f_X10_rowsFrom_L5 M 87 (nI (cb (vc P c w) e)) 1 (nI i) = some r := e1
  rw [f_X10_rowsFrom, e1, bb_some, hr1, hr2]
theorem c_many (h : CG M P g c w) (hP : P ≤ 7) (hw : Wm w) : f_X10_howMany M 87 = some (nI (RCt P g c w P 0)) := by
  have v22 := vc_22 (c := c) (w := w) hP
  obtain ⟨r, e, hr⟩ := iter_row (f := fun s : Int32 × Int32 => f_X10_howMany_B4 M 87 s.1 s.2) (vc P c w) 32 (fun e t => t + prm (chF g c w) P e P) (fun j v s => s.1 = nI v ∧ s.2 = nI j) (fun v r => r = nI v) 0 (by omega) (fun x v s hx hp hc ⟨hs1, hs2⟩ => by
    obtain ⟨s1, s2⟩ := s
    have hq1 : s1 = nI v := hs1
    have hq2 : s2 = nI (cb (vc P c w) x) := hs2
    clear hs1 hs2
    subst hq1
    subst hq2
    have cr := c_rows h hP hx hp (Nat.zero_le P)
    rw [nI_0, Nat.sub_zero] at cr
    refine ⟨(nI (v + prm (chF g c w) P x P), nI (cb (vc P c w) x + 1)), ?_, rfl, rfl⟩
    show f_X10_howMany_B4 M 87 (nI v) (nI (cb (vc P c w) x)) = _
    unfold f_X10_howMany_B4
    rw [cg_n h, bb_some, if_neg (nI_ge hc (by omega)), w_ob h.1, bb_some, cr, bb_some, nI_add, nI_1]) (fun v s ⟨hs1, hs2⟩ => by
    obtain ⟨s1, s2⟩ := s
    have hq2 : s2 = nI (cb (vc P c w) 32) := hs2
    subst hq2
    exact ⟨s1, by show f_X10_howMany_B4 M 87 s1 (nI (cb (vc P c w) 32)) = _; rw [f_X10_howMany_B4, cg_n h, bb_some, if_pos (nI_le (Nat.le_refl _) (by omega))], hs1⟩) (0, 0) ⟨rfl, rfl⟩
  have e : f_X10_howMany_L4 M 87 0 0 = some r := e
  have es : RCt P g c w P 0 = ff (vc P c w) (fun e t => t + prm (chF g c w) P e P) 32 0 := by
    rw [RC_fam hP hw (Nat.le_refl P) 0]
    have p0 : ∀ e, dc (pre (chF g c w) e 0 (P - P)) = true := fun e => dc_iff.mpr (fun j hj => absurd hj (by omega))
    have : ∀ n, smE (vc P c w) (fun e => ind (dc (pre (chF g c w) e 0 (P - P))) * prm (chF g c w) P e P) n = ff (vc P c w) (fun e t => t + prm (chF g c w) P e P) n 0 := by
      intro n
      induction n with
      | zero => rfl
      | succ n ih => rw [smE_st, ff_st, ih, p0, show ind true = 1 from rfl, Nat.one_mul]
    exact this 32
  rw [f_X10_howMany, e, bb_some, hr, es]
/-- who of the families goes on so -/
def AL (P : Nat) (g c w : Nat → Nat) (A v i : Nat) : Prop := A < 2 ^ 22 ∧ ∀ e, e < 32 → vc P c w e = true → A.testBit (cb (vc P c w) e) = dc (pre (chF g c w) e v i)
noncomputable def alf (P : Nat) (g c w : Nat → Nat) (A i s e acc : Nat) : Nat := if ((chF g c w e i).testBit s && A.testBit (cb (vc P c w) e)) = true then acc ||| 2 ^ cb (vc P c w) e else acc
theorem alf_ok (hP : P ≤ 7) (A i s : Nat) : ∀ n, n ≤ 32 → ff (vc P c w) (alf P g c w A i s) n 0 < 2 ^ cb (vc P c w) n ∧ ∀ e, e < n → vc P c w e = true → (ff (vc P c w) (alf P g c w A i s) n 0).testBit (cb (vc P c w) e) = ((chF g c w e i).testBit s && A.testBit (cb (vc P c w) e)) := by
  intro n
  induction n with
  | zero => intro _; exact ⟨by show 0 < 1; omega, fun e he => absurd he (by omega)⟩
  | succ n ih =>
    intro hn
    obtain ⟨h1, h2⟩ := ih (by omega)
    rw [ff_st, cb_st]
    by_cases hv : vc P c w n = true
    · rw [if_pos hv, if_pos hv]
      have hb : (ff (vc P c w) (alf P g c w A i s) n 0).testBit (cb (vc P c w) n) = false := Nat.testBit_lt_two_pow h1
      unfold alf at h1 h2 hb ⊢
      generalize ff (vc P c w) (fun e acc => if ((chF g c w e i).testBit s && A.testBit (cb (vc P c w) e)) = true then acc ||| 2 ^ cb (vc P c w) e else acc) n 0 = X at h1 h2 hb
      by_cases hc : ((chF g c w n i).testBit s && A.testBit (cb (vc P c w) n)) = true
      · rw [if_pos hc]
        refine ⟨or_lt (Nat.lt_trans h1 (pw_lt (by omega))) (pw_lt (by omega)), fun e he hve => ?_⟩
        rw [Nat.testBit_or, Nat.testBit_two_pow]
        by_cases ee : e = n
        · subst ee; rw [hc]; simp
        · have c1 := cb_mo (vc P c w) (show e + 1 ≤ n by omega)
          rw [cb_st, if_pos hve] at c1
          rw [h2 e (by omega) hve, decide_eq_false (by omega), Bool.or_false]
      · rw [if_neg hc]
        refine ⟨Nat.lt_trans h1 (pw_lt (by omega)), fun e he hve => ?_⟩
        by_cases ee : e = n
        · subst ee; rw [hb]; simpa using hc
        · exact h2 e (by omega) hve
    · rw [if_neg hv, if_neg hv]
      refine ⟨h1, fun e he hve => ?_⟩
      by_cases ee : e = n
      · rw [ee] at hve; exact absurd hve hv
      · exact h2 e (by omega) hve
theorem c_fsay (h : CG M P g c w) (hP : P ≤ 7) {A v i s : Nat} (hA : AL P g c w A v i) (hi : i < P) (hs : s < 4) : ∃ B, f_X10_familiesSaying M 87 (nI A) (nI i) (nI s) = some (nI B) ∧ AL P g c w B (4 * v + s) (i + 1) := by
  have v22 := vc_22 (c := c) (w := w) hP
  have hA31 : A < 2 ^ 31 := by have := hA.1; omega
  obtain ⟨r, e, hr⟩ := iter_row (f := fun t : Int32 × Int32 => f_X10_familiesSaying_B6 M 87 (nI A) (nI i) (nI s) t.1 t.2) (vc P c w) 32 (alf P g c w A i s) (fun j v t => t.1 = nI v ∧ t.2 = nI j) (fun v r => r = nI v) 0 (by omega) (fun x v t hx hp hc ⟨hs1, hs2⟩ => by
    obtain ⟨t1, t2⟩ := t
    have hq1 : t1 = nI v := hs1
    have hq2 : t2 = nI (cb (vc P c w) x) := hs2
    clear hs1 hs2
    subst hq1
    subst hq2
    have hl := chF_lt (g := g) (c := c) (w := w) (i := i) hx
    have b1 := bit_0 (m := chF g c w x i) (s := s) (by omega) (by omega)
    have b2 := bit_0 (m := A) (s := cb (vc P c w) x) hA31 (by omega)
    refine ⟨(nI (alf P g c w A i s x v), nI (cb (vc P c w) x + 1)), ?_, rfl, rfl⟩
    show f_X10_familiesSaying_B6 M 87 (nI A) (nI i) (nI s) (nI v) (nI (cb (vc P c w) x)) = _
    unfold f_X10_familiesSaying_B6 f_X10_familiesSaying_J39 alf
    rw [cg_n h, bb_some, if_neg (nI_ge hc (by omega)), w_r5 h.1, bb_some, cg_c h hP hx hp hi, bb_some, nI_1, one_sl (by omega), or_at]
    by_cases c1 : (chF g c w x i).testBit s = true
    · rw [if_neg (fun hh => by rw [b1.mp hh] at c1; cases c1), if_neg (by decide)]
      by_cases c2 : A.testBit (cb (vc P c w) x) = true
      · rw [if_neg (fun hh => by rw [b2.mp hh] at c2; cases c2), c1, c2, if_pos (by rfl)]
      · rw [if_pos (b2.mpr (by simpa using c2)), show A.testBit (cb (vc P c w) x) = false by simpa using c2, Bool.and_false, if_neg (by decide)]
    · rw [if_pos (b1.mpr (by simpa using c1)), if_pos rfl, show (chF g c w x i).testBit s = false by simpa using c1, Bool.false_and, if_neg (by decide)]) (fun v t ⟨hs1, hs2⟩ => by
    obtain ⟨t1, t2⟩ := t
    have hq2 : t2 = nI (cb (vc P c w) 32) := hs2
    subst hq2
    exact ⟨t1, by show f_X10_familiesSaying_B6 M 87 (nI A) (nI i) (nI s) t1 (nI (cb (vc P c w) 32)) = _; rw [f_X10_familiesSaying_B6, cg_n h, bb_some, if_pos (nI_le (Nat.le_refl _) (by omega))], hs1⟩) (0, 0) ⟨rfl, rfl⟩
  have e : f_X10_familiesSaying_L6 M 87 (nI A) (nI i) (nI s) 0 0 = some r := e
  obtain ⟨k1, k2⟩ := alf_ok (c := c) (w := w) (g := g) hP A i s 32 (Nat.le_refl _)
  refine ⟨_, by rw [f_X10_familiesSaying, e, bb_some, hr], Nat.lt_of_lt_of_le k1 (Nat.pow_le_pow_right (by omega) v22), fun x hx hv => ?_⟩
  rw [k2 x hx hv, hA.2 x hx hv]
  by_cases c1 : pre (chF g c w) x v i
  · by_cases c2 : (chF g c w x i).testBit s = true
    · rw [dc_iff.mpr c1, c2, dc_iff.mpr ((pre_st hs).mpr ⟨c1, c2⟩)]; rfl
    · rw [show (chF g c w x i).testBit s = false by simpa using c2, dc_f (fun hh => c2 ((pre_st hs).mp hh).2)]; rfl
  · rw [dc_f c1, dc_f (fun hh => c1 ((pre_st hs).mp hh).1), Bool.and_false]
theorem c_rsay (h : CG M P g c w) (hP : P ≤ 7) (hw : Wm w) {A v i s : Nat} (hA : AL P g c w A v i) (hi : i < P) (hs : s < 4) : f_X10_rowsSaying M 87 (nI A) (nI i) (nI s) = some (nI (RCt P g c w (P - (i + 1)) (4 * v + s))) := by
  have v22 := vc_22 (c := c) (w := w) hP
  obtain ⟨B, eB, hB⟩ := c_fsay h hP hA hi hs
  have hB31 : B < 2 ^ 31 := by have := hB.1; omega
  obtain ⟨r, e, hr⟩ := iter_row (f := fun t : Int32 × Int32 => f_X10_rowsSaying_B15 M 87 (nI i) (nI B) t.1 t.2) (vc P c w) 32 (fun e t => t + ind (dc (pre (chF g c w) e (4 * v + s) (i + 1))) * prm (chF g c w) P e (P - (i + 1))) (fun j v t => t.1 = nI v ∧ t.2 = nI j) (fun v r => r = nI v) 0 (by omega) (fun x u t hx hp hc ⟨hs1, hs2⟩ => by
    obtain ⟨t1, t2⟩ := t
    have hq1 : t1 = nI u := hs1
    have hq2 : t2 = nI (cb (vc P c w) x) := hs2
    clear hs1 hs2
    subst hq1
    subst hq2
    have b2 := bit_0 (m := B) (s := cb (vc P c w) x) hB31 (by omega)
    rw [hB.2 x hx hp] at b2
    refine ⟨(nI (u + ind (dc (pre (chF g c w) x (4 * v + s) (i + 1))) * prm (chF g c w) P x (P - (i + 1))), nI (cb (vc P c w) x + 1)), ?_, rfl, rfl⟩
    show f_X10_rowsSaying_B15 M 87 (nI i) (nI B) (nI u) (nI (cb (vc P c w) x)) = _
    unfold f_X10_rowsSaying_B15
    rw [cg_n h, bb_some, if_neg (nI_ge hc (by omega)), w_ob h.1, bb_some, nI_1 i, c_rows h hP hx hp (show i + 1 ≤ P by omega), bb_some, nI_add, nI_1 (cb (vc P c w) x)]
    cases hd : dc (pre (chF g c w) x (4 * v + s) (i + 1)) with
    | true => rw [if_neg (fun hh => by have := b2.mp hh; rw [hd] at this; cases this), show ind true = 1 from rfl, Nat.one_mul]
    | false => rw [if_pos (b2.mpr hd), show ind false = 0 from rfl, Nat.zero_mul]; rfl) (fun u t ⟨hs1, hs2⟩ => by
    obtain ⟨t1, t2⟩ := t
    have hq2 : t2 = nI (cb (vc P c w) 32) := hs2
    subst hq2
    exact ⟨t1, by show f_X10_rowsSaying_B15 M 87 (nI i) (nI B) t1 (nI (cb (vc P c w) 32)) = _; rw [f_X10_rowsSaying_B15, cg_n h, bb_some, if_pos (nI_le (Nat.le_refl _) (by omega))], hs1⟩) (0, 0) ⟨rfl, rfl⟩
  have e : f_X10_rowsSaying_L15 M 87 (nI i) (nI B) 0 0 = some r := e
  rw [f_X10_rowsSaying, w_ob h.1, bb_some, eB, bb_some, e, bb_some, hr, RC_fam hP hw (show P - (i + 1) ≤ P by omega), show P - (P - (i + 1)) = i + 1 by omega]
  rfl
theorem rc_le {R : Nat → Bool} : ∀ m v, rc4 (fun x => ind (R x)) m v ≤ 4 ^ m := by
  intro m
  induction m with
  | zero => intro v; show ind (R v) ≤ 1; unfold ind; split <;> omega
  | succ m ih =>
    intro v
    have h0 := ih (4 * v)
    have h1 := ih (4 * v + 1)
    have h2 := ih (4 * v + 2)
    have h3 := ih (4 * v + 3)
    show rc4 _ m (4 * v) + rc4 _ m (4 * v + 1) + rc4 _ m (4 * v + 2) + rc4 _ m (4 * v + 3) ≤ 4 ^ (m + 1)
    rw [Nat.pow_succ]
    omega
theorem rc_7 {m v : Nat} (hm : m ≤ 7) : RCt P g c w m v ≤ 16384 := by
  have h1 : RCt P g c w m v ≤ 4 ^ m := rc_le m v
  have h2 : 4 ^ m ≤ 4 ^ 7 := Nat.pow_le_pow_right (by omega) hm
  omega
theorem c_said (h : CG M P g c w) (hP : P ≤ 7) (hw : Wm w) {A v i l k : Nat} (hA : AL P g c w A v i) (hi : i < P) (hl : l < RCt P g c w (P - i) v) (hk : k = l + cb (Rr P g c w) (v * 4 ^ (P - i))) (x3 : Int32) : ∃ l' s, f_X10_restAt_L55 M 87 x3 (nI A) (nI i) (nI l) 0 (nI (RCt P g c w (P - (i + 1)) (4 * v))) = some (nI l', nI s) ∧ s < 4 ∧ l' < RCt P g c w (P - (i + 1)) (4 * v + s) ∧ k = l' + cb (Rr P g c w) ((4 * v + s) * 4 ^ (P - (i + 1))) := by
  obtain ⟨m, hm⟩ : ∃ m, P - i = m + 1 := ⟨P - i - 1, by omega⟩
  have hm2 : P - (i + 1) = m := by omega
  rw [hm] at hl hk
  rw [hm2]
  have r4 : RCt P g c w (m + 1) v = RCt P g c w m (4 * v) + RCt P g c w m (4 * v + 1) + RCt P g c w m (4 * v + 2) + RCt P g c w m (4 * v + 3) := rfl
  have cs : ∀ u, cb (Rr P g c w) ((u + 1) * 4 ^ m) = cb (Rr P g c w) (u * 4 ^ m) + RCt P g c w m u := fun u => rc_cb (Rr P g c w) m u
  have c0 : v * 4 ^ (m + 1) = 4 * v * 4 ^ m := by rw [Nat.pow_succ, Nat.mul_comm (4 ^ m) 4, ← Nat.mul_assoc, Nat.mul_comm v 4]
  rw [c0] at hk
  have bd : ∀ u, RCt P g c w m u ≤ 16384 := fun u => rc_7 (by omega)
  have b0 := bd (4 * v)
  have b1 := bd (4 * v + 1)
  have b2 := bd (4 * v + 2)
  have b3 := bd (4 * v + 3)
  have k0 := cs (4 * v)
  have k1 : cb (Rr P g c w) ((4 * v + 2) * 4 ^ m) = cb (Rr P g c w) ((4 * v + 1) * 4 ^ m) + RCt P g c w m (4 * v + 1) := cs (4 * v + 1)
  have k2 : cb (Rr P g c w) ((4 * v + 3) * 4 ^ m) = cb (Rr P g c w) ((4 * v + 2) * 4 ^ m) + RCt P g c w m (4 * v + 2) := cs (4 * v + 2)
  have e1 := c_rsay h hP hw hA hi (show 1 < 4 by omega)
  have e2 := c_rsay h hP hw hA hi (show 2 < 4 by omega)
  have e3 := c_rsay h hP hw hA hi (show 3 < 4 by omega)
  rw [hm2] at e1 e2 e3
  have e1 : f_X10_rowsSaying M 87 (nI A) (nI i) 1 = _ := e1
  have e2 : f_X10_rowsSaying M 87 (nI A) (nI i) 2 = _ := e2
  have e3 : f_X10_rowsSaying M 87 (nI A) (nI i) 3 = _ := e3
  have a01 : (0 : Int32) + 1 = 1 := by decide
  have a12 : (1 : Int32) + 1 = 2 := by decide
  have a23 : (2 : Int32) + 1 = 3 := by decide
  have stop : ∀ (l s : Nat) (S : Int32), S = nI s → s < 4 → l < 2 ^ 30 → (s = 3 ∨ l < RCt P g c w m (4 * v + s)) → ∀ F, iter (fun t : Int32 × Int32 × Int32 => f_X10_restAt_B55 M 87 x3 (nI A) (nI i) t.1 t.2.1 t.2.2) (F + 1) (nI l, S, nI (RCt P g c w m (4 * v + s))) = some (nI l, nI s) := fun l s S hS hs4 hl30 hc F => by
    have bb := bd (4 * v + s)
    refine iter_end ?_
    show f_X10_restAt_B55 M 87 x3 (nI A) (nI i) (nI l) S (nI (RCt P g c w m (4 * v + s))) = _
    unfold f_X10_restAt_B55
    rw [hS]
    by_cases h3 : s = 3
    · subst h3; rw [if_pos (show (3 : Int32) ≤ nI 3 by decide)]
    · rw [if_neg (show ¬ (3 : Int32) ≤ nI s from nI_ge (b := 3) (by omega) (by omega)), if_pos (nI_lt (hc.resolve_left h3) (by omega))]
  have go : ∀ (l s : Nat) (S S' : Int32), S = nI s → S' = nI (s + 1) → s < 3 → l < 2 ^ 30 → RCt P g c w m (4 * v + s) ≤ l → f_X10_rowsSaying M 87 (nI A) (nI i) S' = some (nI (RCt P g c w m (4 * v + (s + 1)))) → ∀ F, iter (fun t : Int32 × Int32 × Int32 => f_X10_restAt_B55 M 87 x3 (nI A) (nI i) t.1 t.2.1 t.2.2) (F + 1) (nI l, S, nI (RCt P g c w m (4 * v + s))) = iter (fun t : Int32 × Int32 × Int32 => f_X10_restAt_B55 M 87 x3 (nI A) (nI i) t.1 t.2.1 t.2.2) F (nI (l - RCt P g c w m (4 * v + s)), S', nI (RCt P g c w m (4 * v + (s + 1)))) := fun l s S S' hS hS' hs3 hl30 hc er F => by
    refine iter_step ?_
    show f_X10_restAt_B55 M 87 x3 (nI A) (nI i) (nI l) S (nI (RCt P g c w m (4 * v + s))) = _
    unfold f_X10_restAt_B55
    have sS : S + 1 = S' := by rw [hS, hS', nI_1]
    rw [sS, hS, if_neg (show ¬ (3 : Int32) ≤ nI s from nI_ge (b := 3) hs3 (by omega)), if_neg (nI_nlt hc (by omega)), w_ob h.1, bb_some, er, bb_some, pk_sub hc]
  have l30 : l < 2 ^ 30 := by omega
  show ∃ l' s, iter (fun t : Int32 × Int32 × Int32 => f_X10_restAt_B55 M 87 x3 (nI A) (nI i) t.1 t.2.1 t.2.2) (1048572 + 1 + 1 + 1 + 1) (nI l, 0, nI (RCt P g c w m (4 * v + 0))) = _ ∧ _
  by_cases q0 : l < RCt P g c w m (4 * v)
  · exact ⟨l, 0, stop l 0 0 rfl (by omega) l30 (Or.inr q0) _, by omega, q0, hk⟩
  · rw [go l 0 0 1 rfl rfl (by omega) l30 (by show RCt P g c w m (4 * v) ≤ l; omega) e1]
    show ∃ l' s, iter _ (1048572 + 1 + 1 + 1) (nI (l - RCt P g c w m (4 * v)), 1, nI (RCt P g c w m (4 * v + 1))) = _ ∧ _
    by_cases q1 : l - RCt P g c w m (4 * v) < RCt P g c w m (4 * v + 1)
    · exact ⟨_, 1, stop _ 1 1 rfl (by omega) (by omega) (Or.inr q1) _, by omega, q1, by omega⟩
    · rw [go (l - RCt P g c w m (4 * v)) 1 1 2 rfl rfl (by omega) (by omega) (by omega) e2]
      show ∃ l' s, iter _ (1048572 + 1 + 1) (nI (l - RCt P g c w m (4 * v) - RCt P g c w m (4 * v + 1)), 2, nI (RCt P g c w m (4 * v + 2))) = _ ∧ _
      by_cases q2 : l - RCt P g c w m (4 * v) - RCt P g c w m (4 * v + 1) < RCt P g c w m (4 * v + 2)
      · exact ⟨_, 2, stop _ 2 2 rfl (by omega) (by omega) (Or.inr q2) _, by omega, q2, by omega⟩
      · rw [go (l - RCt P g c w m (4 * v) - RCt P g c w m (4 * v + 1)) 2 2 3 rfl rfl (by omega) (by omega) (by omega) e3]
        exact ⟨_, 3, stop _ 3 3 rfl (by omega) (by omega) (Or.inl rfl) _, by omega, by omega, by omega⟩
theorem c_restAt (h : CG M P g c w) (hP : P ≤ 7) (hw : Wm w) {k : Nat} (hk : k < RCt P g c w P 0) : ∃ x, f_X10_restAt M 87 (nI k) = some (nI x) ∧ x < 4 ^ P ∧ Rr P g c w x = true ∧ cb (Rr P g c w) x = k := by
  have v22 := vc_22 (c := c) (w := w) hP
  have k7 := rc_7 (P := P) (g := g) (c := c) (w := w) (v := 0) hP
  obtain ⟨r, e, x, hr, hx, hx2⟩ := iter_rel (f := fun t : Int32 × Int32 × Int32 × Int32 => f_X10_restAt_B31 M 87 t.1 t.2.1 t.2.2.1 t.2.2.2) P (fun i t => ∃ l v A, t.1 = nI l ∧ t.2.1 = nI v ∧ t.2.2.1 = nI A ∧ t.2.2.2 = nI i ∧ AL P g c w A v i ∧ l < RCt P g c w (P - i) v ∧ k = l + cb (Rr P g c w) (v * 4 ^ (P - i)) ∧ v < 4 ^ i) (fun r => ∃ x, r = nI x ∧ x < 4 ^ P ∧ (Rr P g c w x = true ∧ cb (Rr P g c w) x = k)) (fun i t hi ⟨l, v, A, h1, h2, h3, h4, h5, h6, h7, h8⟩ => by
    obtain ⟨t1, t2, t3, t4⟩ := t
    have h1 : t1 = nI l := h1
    have h2 : t2 = nI v := h2
    have h3 : t3 = nI A := h3
    have h4 : t4 = nI i := h4
    subst h1 h2 h3 h4
    obtain ⟨l', s, es, hs, hl', hk'⟩ := c_said h hP hw h5 hi h6 h7 (nI v)
    obtain ⟨B, eB, hB⟩ := c_fsay h hP h5 hi hs
    have e0 : f_X10_rowsSaying M 87 (nI A) (nI i) 0 = some (nI (RCt P g c w (P - (i + 1)) (4 * v))) := c_rsay h hP hw h5 hi (show 0 < 4 by omega)
    refine Or.inl ⟨(nI l', nI (4 * v + s), nI B, nI (i + 1)), ?_, l', 4 * v + s, B, rfl, rfl, rfl, rfl, hB, hl', hk', by rw [Nat.pow_succ]; omega⟩
    show f_X10_restAt_B31 M 87 (nI l) (nI v) (nI A) (nI i) = _
    unfold f_X10_restAt_B31
    rw [cg_p h, bb_some, if_neg (nI_ge hi (by omega)), w_ob h.1, bb_some, e0, bb_some, es, bb_some, bb_some]
    show ((f_X10_familiesSaying M 87 (nI A) (nI i) (nI s)).bind fun v5 => some (Sum.inl (nI l', nI v * 4 + nI s, v5, nI i + 1))) = _
    rw [eB, bb_some, nI_1, show nI v * 4 + nI s = nI (4 * v + s) by show nI v * nI 4 + nI s = _; rw [pk_mul, nI_add]; congr 1; omega]) (fun t ⟨l, v, A, h1, h2, h3, h4, h5, h6, h7, h8⟩ => by
    obtain ⟨t1, t2, t3, t4⟩ := t
    have h2 : t2 = nI v := h2
    have h4 : t4 = nI P := h4
    subst h2 h4
    refine ⟨nI v, by show f_X10_restAt_B31 M 87 t1 (nI v) t3 (nI P) = _; rw [f_X10_restAt_B31, cg_p h, bb_some, if_pos (nI_le (Nat.le_refl _) (by omega))], v, rfl, h8, ?_⟩
    rw [Nat.sub_self] at h6 h7
    rw [Nat.pow_zero, Nat.mul_one] at h7
    have h6 : l < ind (Rr P g c w v) := h6
    unfold ind at h6
    split at h6
    · rename_i hv; exact ⟨hv, by omega⟩
    · omega) 1048576 0 (nI k, 0, nI (2 ^ cb (vc P c w) 32 - 1), 0) (by omega) ⟨k, 0, 2 ^ cb (vc P c w) 32 - 1, rfl, rfl, rfl, rfl, ⟨by have : 2 ^ cb (vc P c w) 32 ≤ 2 ^ 22 := Nat.pow_le_pow_right (by omega) v22; omega, fun e he hv => by rw [all_bit, (dc_iff (p := pre (chF g c w) e 0 0)).mpr (fun j hj => absurd hj (by omega))]; exact decide_eq_true (vc_lt hP he hv).1⟩, hk, by rw [Nat.zero_mul]; exact (Nat.add_zero k).symm, by omega⟩ (by omega)
  have e : f_X10_restAt_L31 M 87 (nI k) 0 (nI (2 ^ cb (vc P c w) 32 - 1)) 0 = some r := e
  refine ⟨x, ?_, hx, hx2.1, hx2.2⟩
  rw [f_X10_restAt, if_neg (nI_pos (by omega)), w_ob h.1, bb_some, c_many h hP hw, bb_some, if_pos (nI_lt hk (by omega)), cg_n h, bb_some, all_sl (by omega), e, bb_some, hr]
end
