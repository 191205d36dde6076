/-! the game of waiting: what a rest is, how many there are -/
def bh (g : Nat → Nat) (k j : Nat) : Prop := g j < g k ∨ (g k = g j ∧ j < k)
def wst (g y : Nat → Nat) (k : Nat) (l : Option (Nat × Nat)) : Option (Nat × Nat) := if y k = 0 then l else match l with
  | none => some (k, y k)
  | some (j, r) => if r < y k then some (j, r) else if y k = r ∧ g j ≤ g k then some (j, r) else some (k, y k)
def wt (g y : Nat → Nat) (n : Nat) : Option (Nat × Nat) := fo (wst g y) n none
def Lf (P : Nat) (g y : Nat → Nat) (j r : Nat) : Prop := j < P ∧ y j = r ∧ r ≠ 0 ∧ ∀ k, k < P → y k ≠ 0 → k ≠ j → r < y k ∨ (y k = r ∧ bh g k j)
theorem wt_sp (g y : Nat → Nat) : ∀ n, (wt g y n = none ∧ ∀ k, k < n → y k = 0) ∨ ∃ j r, wt g y n = some (j, r) ∧ Lf n g y j r := by
  intro n
  induction n with
  | zero => exact Or.inl ⟨rfl, fun k hk => absurd hk (by omega)⟩
  | succ n ih =>
    have st : wt g y (n + 1) = wst g y n (wt g y n) := rfl
    rw [st]
    by_cases h0 : y n = 0
    · have e : wst g y n (wt g y n) = wt g y n := by unfold wst; rw [if_pos h0]
      rw [e]
      rcases ih with ⟨h1, h2⟩ | ⟨j, r, h1, h2, h3, h4, h5⟩
      · refine Or.inl ⟨h1, fun k hk => ?_⟩
        by_cases ek : k = n
        · rw [ek]; exact h0
        · exact h2 k (by omega)
      · refine Or.inr ⟨j, r, h1, by omega, h3, h4, fun k hk hy hkj => ?_⟩
        by_cases ek : k = n
        · rw [ek] at hy; exact absurd h0 hy
        · exact h5 k (by omega) hy hkj
    · right
      rcases ih with ⟨h1, h2⟩ | ⟨j, r, h1, h2, h3, h4, h5⟩
      · refine ⟨n, y n, by unfold wst; rw [if_neg h0, h1], by omega, rfl, h0, fun k hk hy hkj => ?_⟩
        exact absurd (h2 k (by omega)) hy
      · have e : wst g y n (wt g y n) = if r < y n then some (j, r) else if y n = r ∧ g j ≤ g n then some (j, r) else some (n, y n) := by unfold wst; rw [if_neg h0, h1]
        rw [e]
        by_cases c1 : r < y n
        · rw [if_pos c1]
          refine ⟨j, r, rfl, by omega, h3, h4, fun k hk hy hkj => ?_⟩
          by_cases ek : k = n
          · rw [ek]; exact Or.inl c1
          · exact h5 k (by omega) hy hkj
        · rw [if_neg c1]
          by_cases c2 : y n = r ∧ g j ≤ g n
          · rw [if_pos c2]
            refine ⟨j, r, rfl, by omega, h3, h4, fun k hk hy hkj => ?_⟩
            by_cases ek : k = n
            · rw [ek]; exact Or.inr ⟨c2.1, by unfold bh; omega⟩
            · exact h5 k (by omega) hy hkj
          · rw [if_neg c2]
            refine ⟨n, y n, rfl, by omega, rfl, h0, fun k hk hy hkj => ?_⟩
            by_cases ek : k = j
            · subst ek
              rw [h3]
              unfold bh
              omega
            · have := h5 k (by omega) hy ek
              unfold bh at this ⊢
              omega
theorem lf_un {P : Nat} {g y : Nat → Nat} {j r j' r' : Nat} (h : Lf P g y j r) (h' : Lf P g y j' r') : j = j' ∧ r = r' := by
  obtain ⟨h1, h2, h3, h4⟩ := h
  obtain ⟨g1, g2, g3, g4⟩ := h'
  by_cases e : j = j'
  · subst e; exact ⟨rfl, by omega⟩
  · exfalso
    have k1 := h4 j' g1 (by omega) (fun h => e h.symm)
    have k2 := g4 j h1 (by omega) e
    unfold bh at k1 k2
    omega
theorem wt_of {P : Nat} {g y : Nat → Nat} {j r : Nat} (h : Lf P g y j r) : wt g y P = some (j, r) := by
  rcases wt_sp g y P with ⟨h1, h2⟩ | ⟨j', r', h1, h2⟩
  · have := h2 j h.1; have := h.2.1; have := h.2.2.1; omega
  · obtain ⟨e1, e2⟩ := lf_un h h2
    rw [h1, e1, e2]
def wn (c w : Nat → Nat) (l : Option (Nat × Nat)) (k : Nat) : Int := match l with
  | none => 0
  | some (j, r) => (w r : Int) - (if j = k then (c j : Int) else 0)
theorem wn_s (c w : Nat → Nat) (j r : Nat) : wn c w (some (j, r)) j = (w r : Int) - (c j : Int) := by
  show (w r : Int) - (if j = j then (c j : Int) else 0) = _
  rw [if_pos rfl]
theorem wn_o (c w : Nat → Nat) {j r k : Nat} (h : j ≠ k) : wn c w (some (j, r)) k = (w r : Int) := by
  show (w r : Int) - (if j = k then (c j : Int) else 0) = _
  rw [if_neg h]; omega
def IsR (P : Nat) (g c w y : Nat → Nat) : Prop := ∀ k, k < P → ∀ s, s < 4 → wn c w (wt g (up y k s) P) k ≤ wn c w (wt g y P) k
def FamC (c w : Nat → Nat) (j r : Nat) : Prop := w r = w 1 ∧ c j ≤ w r
def chb (g c w : Nat → Nat) (k j r s : Nat) : Prop := s = 0 ∨ (r ≤ s ∧ w s + c j ≤ w r ∧ (r < s ∨ bh g k j))
def Fam (P : Nat) (g c w : Nat → Nat) (j r : Nat) (y : Nat → Nat) : Prop := y j = r ∧ ∀ k, k < P → k ≠ j → chb g c w k j r (y k)
def Wm (w : Nat → Nat) : Prop := ∀ r s, 1 ≤ r → r ≤ s → s ≤ 3 → w s ≤ w r
theorem fam_lf {P : Nat} {g c w y : Nat → Nat} {j r : Nat} (hj : j < P) (hr : r ≠ 0) (h : Fam P g c w j r y) : Lf P g y j r := ⟨hj, h.1, hr, fun k hk hy hkj => by
  rcases h.2 k hk hkj with h0 | ⟨h1, h2, h3⟩
  · exact absurd h0 hy
  · rcases h3 with h3 | h3
    · exact Or.inl h3
    · by_cases e : y k = r
      · exact Or.inr ⟨e, h3⟩
      · exact Or.inl (by omega)⟩
theorem rest_to {P : Nat} {g c w y : Nat → Nat} (hy : ∀ k, k < P → y k < 4) (hw : Wm w) (h : IsR P g c w y) : ((∀ k, k < P → w 1 ≤ c k) ∧ ∀ k, k < P → y k = 0) ∨ ∃ j r, j < P ∧ 1 ≤ r ∧ r ≤ 3 ∧ FamC c w j r ∧ Fam P g c w j r y := by
  rcases wt_sp g y P with ⟨e, z⟩ | ⟨j, r, e, L⟩
  · left
    refine ⟨fun k hk => ?_, z⟩
    have t := h k hk 1 (by omega)
    have L : Lf P g (up y k 1) k 1 := ⟨hk, up_s _ _ _, by omega, fun i hi hn hik => by rw [up_n _ _ hik] at hn; exact absurd (z i hi) hn⟩
    rw [e, wt_of L, wn_s] at t
    have t : (w 1 : Int) - (c k : Int) ≤ 0 := t
    omega
  · right
    obtain ⟨l1, l2, l3, l4⟩ := L
    have r3 : r ≤ 3 := by have := hy j l1; omega
    have base : wn c w (wt g y P) j = (w r : Int) - (c j : Int) := by rw [e, wn_s]
    have w1 : w r = w 1 := by
      have m := hw 1 r (by omega) (by omega) r3
      have t := h j l1 1 (by omega)
      have L : Lf P g (up y j 1) j 1 := ⟨l1, up_s _ _ _, by omega, fun i hi hn hij => by
        rw [up_n _ _ hij] at hn ⊢
        rcases l4 i hi hn hij with q | ⟨q, q2⟩
        · exact Or.inl (by omega)
        · by_cases e1 : r = 1
          · exact Or.inr ⟨by omega, q2⟩
          · exact Or.inl (by omega)⟩
      rw [base, wt_of L, wn_s] at t
      omega
    have t0 := h j l1 0 (by omega)
    rw [base] at t0
    have z0 : ∀ k, k < P → k ≠ j → y k ≠ 0 → w (y k) + c j ≤ w r := fun k hk hkj hyk => by
      rcases wt_sp g (up y j 0) P with ⟨_, z⟩ | ⟨j', r', e', L'⟩
      · have := z k hk; rw [up_n _ _ hkj] at this; exact absurd this hyk
      · obtain ⟨m1, m2, m3, m4⟩ := L'
        have jj : j' ≠ j := fun hh => by subst hh; rw [up_s] at m2; omega
        rw [e', wn_o c w jj] at t0
        have rk : r' ≤ y k := by
          by_cases ek : k = j'
          · subst ek; rw [up_n _ _ hkj] at m2; omega
          · have := m4 k hk (by rw [up_n _ _ hkj]; exact hyk) ek
            rw [up_n _ _ hkj] at this
            unfold bh at this
            omega
        have := hw r' (y k) (by omega) rk (by have := hy k hk; omega)
        omega
    refine ⟨j, r, l1, by omega, r3, ⟨w1, ?_⟩, l2, fun k hk hkj => ?_⟩
    · rcases wt_sp g (up y j 0) P with ⟨e', _⟩ | ⟨j', r', e', L'⟩
      · rw [e'] at t0
        have t0 : (0 : Int) ≤ (w r : Int) - (c j : Int) := t0
        omega
      · have jj : j' ≠ j := fun hh => by subst hh; have := L'.2.1; rw [up_s] at this; have := L'.2.2.1; omega
        rw [e', wn_o c w jj] at t0
        omega
    · by_cases hk0 : y k = 0
      · exact Or.inl hk0
      · right
        have := l4 k hk hk0 hkj
        refine ⟨?_, z0 k hk hkj hk0, ?_⟩
        · unfold bh at this; omega
        · rcases this with q | ⟨q, q2⟩
          · exact Or.inl q
          · exact Or.inr q2
theorem rest_of {P : Nat} {g c w y : Nat → Nat} (hy : ∀ k, k < P → y k < 4) (hw : Wm w) (h : ((∀ k, k < P → w 1 ≤ c k) ∧ ∀ k, k < P → y k = 0) ∨ ∃ j r, j < P ∧ 1 ≤ r ∧ r ≤ 3 ∧ FamC c w j r ∧ Fam P g c w j r y) : IsR P g c w y := by
  intro k hk s hs
  have y4 : ∀ i, i < P → up y k s i < 4 := fun i hi => by
    by_cases e : i = k
    · rw [e, up_s]; exact hs
    · rw [up_n _ _ e]; exact hy i hi
  rcases h with ⟨h1, h2⟩ | ⟨j, r, hj, r1, r3, ⟨f1, f2⟩, F⟩
  · have e0 : wt g y P = none := by
      rcases wt_sp g y P with ⟨e, _⟩ | ⟨j, r, e, L⟩
      · exact e
      · have := h2 j L.1; have := L.2.1; have := L.2.2.1; omega
    rw [e0]
    show wn c w (wt g (up y k s) P) k ≤ 0
    rcases wt_sp g (up y k s) P with ⟨e, _⟩ | ⟨j, r, e, L⟩
    · rw [e]; exact Int.le_refl _
    · have jk : j = k := by
        by_cases e1 : j = k
        · exact e1
        · have a1 := L.2.1; rw [up_n _ _ e1, h2 j L.1] at a1; have := L.2.2.1; omega
      subst jk
      have a1 := y4 j hk
      rw [L.2.1] at a1
      have := hw 1 r (by omega) (by have := L.2.2.1; omega) (by omega)
      have := h1 j hk
      rw [e, wn_s]
      omega
  · have L := fam_lf hj (by omega) F
    rw [wt_of L]
    rcases wt_sp g (up y k s) P with ⟨e, z⟩ | ⟨j', r', e, L'⟩
    · rw [e]
      show (0 : Int) ≤ _
      by_cases jk : j = k
      · subst jk; rw [wn_s]; omega
      · rw [wn_o c w jk]; omega
    · obtain ⟨m1, m2, m3, m4⟩ := L'
      have a1 := y4 j' m1
      rw [m2] at a1
      have b1 := hw 1 r' (by omega) (by omega) (by omega)
      rw [e]
      by_cases jk : j = k
      · subst jk
        rw [wn_s]
        by_cases jj : j' = j
        · subst jj; rw [wn_s]; omega
        · rw [wn_o c w jj]
          rw [up_n _ _ jj] at m2
          rcases F.2 j' m1 jj with q | ⟨_, q2, _⟩
          · omega
          · rw [m2] at q2; omega
      · rw [wn_o c w jk]
        by_cases jj : j' = k
        · subst jj; rw [wn_s]; omega
        · rw [wn_o c w jj]; omega
/-- families by their codes: 0 is silence, 8 r + j has j lift at r -/
def SilC (P : Nat) (c w : Nat → Nat) : Prop := ∀ k, k < P → w 1 ≤ c k
def cbp (g c w : Nat → Nat) (k j r s : Nat) : Prop := (1 ≤ s ∧ r ≤ s) ∧ w s + c j ≤ w r ∧ (r < s ∨ bh g k j)
noncomputable def dc (p : Prop) : Bool := @decide p (Classical.propDecidable p)
theorem dc_iff {p : Prop} : dc p = true ↔ p := by unfold dc; exact @decide_eq_true_iff p (Classical.propDecidable p)
theorem dc_f {p : Prop} (h : ¬ p) : dc p = false := by
  cases e : dc p with
  | false => rfl
  | true => exact absurd (dc_iff.mp e) h
noncomputable def vc (P : Nat) (c w : Nat → Nat) (e : Nat) : Bool := dc ((e = 0 ∧ SilC P c w) ∨ (8 ≤ e ∧ e < 32 ∧ e % 8 < P ∧ FamC c w (e % 8) (e / 8)))
noncomputable def chB (g c w : Nat → Nat) (k j r : Nat) : Nat := fo (fun s acc => if dc (cbp g c w k j r s) = true then acc ||| 2 ^ s else acc) 4 1
noncomputable def chF (g c w : Nat → Nat) (e i : Nat) : Nat := if e = 0 then 1 else if i = e % 8 then 2 ^ (e / 8) else chB g c w i (e % 8) (e / 8)
theorem chB_lt (g c w : Nat → Nat) (k j r : Nat) : chB g c w k j r < 16 := fo_orlt (N := 4) (by omega) (by omega)
theorem chF_lt {g c w : Nat → Nat} {e i : Nat} (he : e < 32) : chF g c w e i < 16 := by
  unfold chF
  split
  · omega
  · split
    · have : 2 ^ (e / 8) ≤ 2 ^ 3 := Nat.pow_le_pow_right (by omega) (by omega)
      omega
    · exact chB_lt _ _ _ _ _ _
theorem chB_bit {g c w : Nat → Nat} {k j r s : Nat} (hr : 1 ≤ r) (hs : s < 4) : (chB g c w k j r).testBit s = true ↔ chb g c w k j r s := by
  unfold chB
  rw [fo_or (p := fun s => dc (cbp g c w k j r s))]
  have t1 : Nat.testBit 1 s = decide (s = 0) := by
    rw [show (1 : Nat) = 2 ^ 0 from rfl, Nat.testBit_two_pow]
    by_cases h : s = 0
    · rw [h]
    · rw [decide_eq_false h, decide_eq_false (fun hh => h hh.symm)]
  rw [t1, Bool.or_eq_true, Bool.and_eq_true, decide_eq_true_iff, decide_eq_true_iff, dc_iff]
  unfold chb cbp
  constructor
  · rintro (h | ⟨_, ⟨_, h1⟩, h2, h3⟩)
    · exact Or.inl h
    · exact Or.inr ⟨h1, h2, h3⟩
  · rintro (h | ⟨h1, h2, h3⟩)
    · exact Or.inl h
    · exact Or.inr ⟨hs, ⟨by omega, h1⟩, h2, h3⟩
def mem (P : Nat) (ch : Nat → Nat → Nat) (y : Nat → Nat) (e : Nat) : Prop := ∀ i, i < P → (ch e i).testBit (y i) = true
theorem mem_0 {P : Nat} {g c w y : Nat → Nat} : mem P (chF g c w) y 0 ↔ ∀ i, i < P → y i = 0 := by
  have t1 : ∀ s, Nat.testBit 1 s = true ↔ s = 0 := fun s => by
    rw [show (1 : Nat) = 2 ^ 0 from rfl, Nat.testBit_two_pow, decide_eq_true_iff]
    exact ⟨fun h => h.symm, fun h => h.symm⟩
  exact ⟨fun h i hi => (t1 _).mp (h i hi), fun h i hi => (t1 _).mpr (h i hi)⟩
theorem mem_f {P : Nat} {g c w y : Nat → Nat} {e : Nat} (hy : ∀ k, k < P → y k < 4) (he : 8 ≤ e) (hj : e % 8 < P) : mem P (chF g c w) y e ↔ Fam P g c w (e % 8) (e / 8) y := by
  have e0 : ¬ e = 0 := by omega
  have r1 : 1 ≤ e / 8 := by omega
  constructor
  · intro h
    refine ⟨?_, fun k hk hkj => ?_⟩
    · have := h (e % 8) hj
      unfold chF at this
      rw [if_neg e0, if_pos rfl, Nat.testBit_two_pow, decide_eq_true_iff] at this
      exact this.symm
    · have := h k hk
      unfold chF at this
      rw [if_neg e0, if_neg hkj] at this
      exact (chB_bit r1 (hy k hk)).mp this
  · intro h i hi
    unfold chF
    rw [if_neg e0]
    by_cases hij : i = e % 8
    · rw [if_pos hij, hij, Nat.testBit_two_pow, decide_eq_true_iff]; exact h.1.symm
    · rw [if_neg hij]; exact (chB_bit r1 (hy i hi)).mpr (h.2 i hi hij)
theorem rest_mem {P : Nat} {g c w y : Nat → Nat} (hP : P ≤ 7) (hy : ∀ k, k < P → y k < 4) (hw : Wm w) : IsR P g c w y ↔ ∃ e, e < 32 ∧ vc P c w e = true ∧ mem P (chF g c w) y e := by
  constructor
  · intro h
    rcases rest_to hy hw h with ⟨h1, h2⟩ | ⟨j, r, hj, r1, r3, f, F⟩
    · exact ⟨0, by omega, dc_iff.mpr (Or.inl ⟨rfl, h1⟩), mem_0.mpr h2⟩
    · have e1 : (8 * r + j) % 8 = j := by omega
      have e2 : (8 * r + j) / 8 = r := by omega
      refine ⟨8 * r + j, by omega, dc_iff.mpr (Or.inr ⟨by omega, by omega, by omega, by rw [e1, e2]; exact f⟩), ?_⟩
      rw [mem_f hy (by omega) (by omega), e1, e2]; exact F
  · rintro ⟨e, he, hv, hm⟩
    refine rest_of hy hw ?_
    rcases dc_iff.mp hv with ⟨e0, h1⟩ | ⟨h1, h2, h3, h4⟩
    · subst e0; exact Or.inl ⟨h1, mem_0.mp hm⟩
    · exact Or.inr ⟨e % 8, e / 8, h3, by omega, by omega, h4, (mem_f hy h1 h3).mp hm⟩
theorem mem_un {P : Nat} {g c w y : Nat → Nat} {e e' : Nat} (hy : ∀ k, k < P → y k < 4) (hv : vc P c w e = true) (hv' : vc P c w e' = true) (h : mem P (chF g c w) y e) (h' : mem P (chF g c w) y e') : e = e' := by
  rcases dc_iff.mp hv with ⟨e0, _⟩ | ⟨h1, h2, h3, h4⟩ <;> rcases dc_iff.mp hv' with ⟨e0', _⟩ | ⟨g1, g2, g3, g4⟩
  · omega
  · subst e0
    have a1 := mem_0.mp h (e' % 8) g3
    have a2 := ((mem_f hy g1 g3).mp h').1
    omega
  · subst e0'
    have a1 := mem_0.mp h' (e % 8) h3
    have a2 := ((mem_f hy h1 h3).mp h).1
    omega
  · obtain ⟨q1, q2⟩ := lf_un (fam_lf h3 (by omega) ((mem_f hy h1 h3).mp h)) (fam_lf g3 (by omega) ((mem_f hy g1 g3).mp h'))
    omega
/-- counting by figures -/
def rc4 (R : Nat → Nat) : Nat → Nat → Nat
  | 0, v => R v
  | m + 1, v => rc4 R m (4 * v) + rc4 R m (4 * v + 1) + rc4 R m (4 * v + 2) + rc4 R m (4 * v + 3)
def ind (b : Bool) : Nat := if b = true then 1 else 0
theorem rc_cb (R : Nat → Bool) : ∀ m v, cb R ((v + 1) * 4 ^ m) = cb R (v * 4 ^ m) + rc4 (fun x => ind (R x)) m v := by
  intro m
  induction m with
  | zero =>
    intro v
    rw [Nat.pow_zero, Nat.mul_one, Nat.mul_one, cb_st]
    show _ = cb R v + ind (R v)
    unfold ind
    split <;> omega
  | succ m ih =>
    intro v
    have e1 : (v + 1) * 4 ^ (m + 1) = (4 * v + 3 + 1) * 4 ^ m := by rw [Nat.pow_succ, Nat.mul_comm (4 ^ m) 4, ← Nat.mul_assoc]; congr 1; omega
    have e2 : v * 4 ^ (m + 1) = 4 * v * 4 ^ m := by rw [Nat.pow_succ, Nat.mul_comm (4 ^ m) 4, ← Nat.mul_assoc, Nat.mul_comm v 4]
    rw [e1, e2, ih (4 * v + 3), ih (4 * v + 2), ih (4 * v + 1), ih (4 * v)]
    show _ = cb R (4 * v * 4 ^ m) + (rc4 _ m (4 * v) + rc4 _ m (4 * v + 1) + rc4 _ m (4 * v + 2) + rc4 _ m (4 * v + 3))
    omega
def smE (q : Nat → Bool) (f : Nat → Nat) (n : Nat) : Nat := ff q (fun e t => t + f e) n 0
theorem smE_st (q : Nat → Bool) (f : Nat → Nat) (n : Nat) : smE q f (n + 1) = if q n = true then smE q f n + f n else smE q f n := rfl
theorem smE_add4 (q : Nat → Bool) (f1 f2 f3 f4 : Nat → Nat) : ∀ n, smE q (fun e => f1 e + f2 e + f3 e + f4 e) n = smE q f1 n + smE q f2 n + smE q f3 n + smE q f4 n := by
  intro n
  induction n with
  | zero => rfl
  | succ n ih =>
    rw [smE_st, smE_st, smE_st, smE_st, smE_st, ih]
    split <;> omega
theorem rc_sum (q : Nat → Bool) (f : Nat → Nat → Nat) (n : Nat) : ∀ m v, rc4 (fun x => smE q (fun e => f e x) n) m v = smE q (fun e => rc4 (f e) m v) n := by
  intro m
  induction m with
  | zero => intro v; rfl
  | succ m ih =>
    intro v
    show rc4 _ m (4 * v) + rc4 _ m (4 * v + 1) + rc4 _ m (4 * v + 2) + rc4 _ m (4 * v + 3) = smE q (fun e => rc4 (f e) m (4 * v) + rc4 (f e) m (4 * v + 1) + rc4 (f e) m (4 * v + 2) + rc4 (f e) m (4 * v + 3)) n
    rw [smE_add4, ih, ih, ih, ih]
theorem smE_0 {q : Nat → Bool} {f : Nat → Nat} : ∀ n, (∀ e, e < n → q e = true → f e = 0) → smE q f n = 0 := by
  intro n
  induction n with
  | zero => intro _; rfl
  | succ n ih =>
    intro h
    rw [smE_st, ih (fun e he => h e (by omega))]
    split
    · rename_i hq; rw [h n (by omega) hq]
    · rfl
theorem smE_1 {q : Nat → Bool} {f : Nat → Nat} {x : Nat} (hq : q x = true) (hf : f x = 1) : ∀ n, x < n → (∀ e, e < n → q e = true → e ≠ x → f e = 0) → smE q f n = 1 := by
  intro n
  induction n with
  | zero => intro h; omega
  | succ n ih =>
    intro hx h
    rw [smE_st]
    by_cases e : x = n
    · subst e
      rw [if_pos hq, smE_0 x (fun e he hqe => h e (by omega) hqe (by omega)), hf]
    · rw [ih (by omega) (fun e he => h e (by omega))]
      split
      · rename_i hqn; rw [h n (by omega) hqn (by omega)]
      · rfl
/-- what each says in a row -/
def yd (P x k : Nat) : Nat := x / 4 ^ (P - 1 - k) % 4
theorem yd_4 (P x k : Nat) : yd P x k < 4 := Nat.mod_lt _ (by omega)
def pre (ch : Nat → Nat → Nat) (e v i : Nat) : Prop := ∀ j, j < i → (ch e j).testBit (v / 4 ^ (i - 1 - j) % 4) = true
theorem pre_st {ch : Nat → Nat → Nat} {e v i s : Nat} (hs : s < 4) : pre ch e (4 * v + s) (i + 1) ↔ pre ch e v i ∧ (ch e i).testBit s = true := by
  have dv : ∀ t, (4 * v + s) / 4 ^ (t + 1) = v / 4 ^ t := fun t => by
    rw [Nat.pow_succ, Nat.mul_comm (4 ^ t) 4, ← Nat.div_div_eq_div_mul, show (4 * v + s) / 4 = v by omega]
  have d0 : (4 * v + s) / 4 ^ (i + 1 - 1 - i) % 4 = s := by rw [show i + 1 - 1 - i = 0 by omega, Nat.pow_zero, Nat.div_one]; omega
  constructor
  · intro h
    refine ⟨fun j hj => ?_, ?_⟩
    · have := h j (by omega)
      rw [show i + 1 - 1 - j = (i - 1 - j) + 1 by omega, dv] at this
      exact this
    · have := h i (by omega)
      rw [d0] at this
      exact this
  · rintro ⟨h1, h2⟩ j hj
    by_cases e1 : j = i
    · subst e1; rw [d0]; exact h2
    · rw [show i + 1 - 1 - j = (i - 1 - j) + 1 by omega, dv]; exact h1 j (by omega)
def prm (ch : Nat → Nat → Nat) (P e : Nat) : Nat → Nat
  | 0 => 1
  | m + 1 => pc (ch e (P - (m + 1))) * prm ch P e m
theorem pc_4 : ∀ b, b < 16 → pc b = ind (b.testBit 0) + ind (b.testBit 1) + ind (b.testBit 2) + ind (b.testBit 3) := by decide +kernel
theorem rc_fam {ch : Nat → Nat → Nat} {P e : Nat} (hc : ∀ i, i < P → ch e i < 16) : ∀ m, m ≤ P → ∀ v, rc4 (fun x => ind (dc (mem P ch (yd P x) e))) m v = ind (dc (pre ch e v (P - m))) * prm ch P e m := by
  intro m
  induction m with
  | zero =>
    intro _ v
    show ind (dc (mem P ch (yd P v) e)) = ind (dc (pre ch e v (P - 0))) * 1
    rw [Nat.mul_one, Nat.sub_zero]
    rfl
  | succ m ih =>
    intro hm v
    obtain ⟨i, hi⟩ : ∃ i, P - (m + 1) = i := ⟨_, rfl⟩
    have hi1 : P - m = i + 1 := by omega
    show rc4 _ m (4 * v) + rc4 _ m (4 * v + 1) + rc4 _ m (4 * v + 2) + rc4 _ m (4 * v + 3) = ind (dc (pre ch e v (P - (m + 1)))) * (pc (ch e (P - (m + 1))) * prm ch P e m)
    rw [ih (by omega), ih (by omega), ih (by omega), ih (by omega), hi, hi1, pc_4 _ (hc i (by omega))]
    have st : ∀ s, s < 4 → ind (dc (pre ch e (4 * v + s) (i + 1))) = ind (dc (pre ch e v i)) * ind ((ch e i).testBit s) := fun s hs => by
      by_cases h1 : pre ch e v i
      · by_cases h2 : (ch e i).testBit s = true
        · rw [dc_iff.mpr ((pre_st hs).mpr ⟨h1, h2⟩), dc_iff.mpr h1, h2]; rfl
        · rw [dc_f (fun hh => h2 ((pre_st hs).mp hh).2), dc_iff.mpr h1, show (ch e i).testBit s = false by simpa using h2]; rfl
      · rw [dc_f (fun hh => h1 ((pre_st hs).mp hh).1), dc_f h1]
        show 0 = 0 * _
        rw [Nat.zero_mul]
    have s0 := st 0 (by omega)
    rw [Nat.add_zero] at s0
    rw [s0, st 1 (by omega), st 2 (by omega), st 3 (by omega)]
    generalize ind (dc (pre ch e v i)) = A
    generalize prm ch P e m = B
    simp only [Nat.add_mul, Nat.mul_add, Nat.mul_assoc]
noncomputable def Rr (P : Nat) (g c w : Nat → Nat) (x : Nat) : Bool := dc (IsR P g c w (yd P x))
theorem rr_sum {P : Nat} {g c w : Nat → Nat} (hP : P ≤ 7) (hw : Wm w) (x : Nat) : ind (Rr P g c w x) = smE (vc P c w) (fun e => ind (dc (mem P (chF g c w) (yd P x) e))) 32 := by
  have hy : ∀ k, k < P → yd P x k < 4 := fun k _ => yd_4 P x k
  have key := rest_mem (g := g) (c := c) hP hy hw
  unfold Rr
  by_cases h : IsR P g c w (yd P x)
  · obtain ⟨e, he, hv, hm⟩ := key.mp h
    rw [dc_iff.mpr h, smE_1 (x := e) hv (by rw [dc_iff.mpr hm]; rfl) 32 he (fun e' he' hv' hne => by rw [dc_f (fun hh => hne (mem_un hy hv' hv hh hm))]; rfl)]
    rfl
  · rw [dc_f h, smE_0 32 (fun e he hv => by rw [dc_f (fun hh => h (key.mpr ⟨e, he, hv, hh⟩))]; rfl)]
    rfl
/-- how many rests begin so -/
noncomputable def RCt (P : Nat) (g c w : Nat → Nat) (m v : Nat) : Nat := rc4 (fun x => ind (Rr P g c w x)) m v
theorem RC_fam {P : Nat} {g c w : Nat → Nat} (hP : P ≤ 7) (hw : Wm w) {m : Nat} (hm : m ≤ P) (v : Nat) : RCt P g c w m v = smE (vc P c w) (fun e => ind (dc (pre (chF g c w) e v (P - m))) * prm (chF g c w) P e m) 32 := by
  have e1 : (fun x => ind (Rr P g c w x)) = fun x => smE (vc P c w) (fun e => ind (dc (mem P (chF g c w) (yd P x) e))) 32 := funext fun x => rr_sum hP hw x
  unfold RCt
  rw [e1, rc_sum (vc P c w) (fun e x => ind (dc (mem P (chF g c w) (yd P x) e))) 32 m v]
  have : ∀ n, n ≤ 32 → smE (vc P c w) (fun e => rc4 (fun x => ind (dc (mem P (chF g c w) (yd P x) e))) m v) n = smE (vc P c w) (fun e => ind (dc (pre (chF g c w) e v (P - m))) * prm (chF g c w) P e m) n := by
    intro n
    induction n with
    | zero => intro _; rfl
    | succ n ih =>
      intro hn
      rw [smE_st, smE_st, ih (by omega), rc_fam (fun i _ => chF_lt (by omega)) m hm v]
  exact this 32 (Nat.le_refl _)
