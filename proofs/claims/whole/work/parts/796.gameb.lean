/-! the game of waiting: who plays, which families there are -/
def el (a : Nat → Nat) (d s : Nat) : Bool := hr a s d && decide (a (5 + 5 * s) ≠ 2)
def qq (a : Nat → Nat) (d k : Nat) : Nat := fo (fun s v => if (el a d s && decide (cb (el a d) s = k)) = true then s else v) (a 0) 0
def gq (a : Nat → Nat) (d k : Nat) : Nat := gp a (qq a d k) d
def cq (a : Nat → Nat) (d k : Nat) : Nat := a (8 + 5 * qq a d k)
def ww (a : Nat → Nat) (W r : Nat) : Nat := W - a 4 * (r - 1)
theorem ww_m (a : Nat → Nat) (W : Nat) : Wm (ww a W) := fun r s h1 h2 h3 => by
  have : a 4 * (r - 1) ≤ a 4 * (s - 1) := Nat.mul_le_mul_left _ (by omega)
  unfold ww; omega
theorem fo_pick {p : Nat → Bool} {s : Nat} (hp : p s = true) : ∀ n, s < n → (∀ x, x < n → p x = true → x = s) → fo (fun x v => if p x = true then x else v) n 0 = s := by
  intro n
  induction n with
  | zero => intro h; omega
  | succ n ih =>
    intro hs hu
    show (if p n = true then n else fo (fun x v => if p x = true then x else v) n 0) = s
    by_cases h : p n = true
    · rw [if_pos h]; exact hu n (by omega) h
    · rw [if_neg h]
      refine ih ?_ (fun x hx => hu x (by omega))
      by_cases e : s = n
      · rw [e] at hp; exact absurd hp h
      · omega
theorem qq_sp {a : Nat → Nat} {d s : Nat} (hs : s < a 0) (he : el a d s = true) : qq a d (cb (el a d) s) = s := by
  unfold qq
  refine fo_pick (p := fun x => el a d x && decide (cb (el a d) x = cb (el a d) s)) (by rw [he, decide_eq_true rfl]; rfl) (a 0) hs (fun x hx hp => ?_)
  rw [Bool.and_eq_true, decide_eq_true_iff] at hp
  exact cb_inj (el a d) hp.1 he hp.2
theorem qq_ok {a : Nat → Nat} {d k : Nat} (hk : k < cb (el a d) (a 0)) : qq a d k < a 0 ∧ el a d (qq a d k) = true ∧ cb (el a d) (qq a d k) = k := by
  obtain ⟨x, h1, h2, h3⟩ := cb_in (el a d) hk
  have e : qq a d k = x := by rw [← h3]; exact qq_sp h1 h2
  rw [e]; exact ⟨h1, h2, h3⟩
theorem el_7 {a : Nat → Nat} {d : Nat} (hO : OkO a) (hd : d < a 0) : cb (el a d) (a 0) ≤ 7 := by
  have h8 := hO.1.1
  have h1 : cb (el a d) (a 0) < cb (fun _ => true) (a 0) := cb_lt (fun i _ _ => rfl) ⟨d, hd, rfl, by unfold el hr; simp⟩
  have h2 := cb_le (fun _ => true) (a 0)
  omega
/-- the players, their gaps, their costs, the wins -/
def GCl (M : Mem) (P : Nat) (g c w : Nat → Nat) : Prop := (Sk M ∧ P ≤ 7 ∧ M.1 87 0 = nI P) ∧ (∀ j, j < P → (M.1 88 j = nI (g j) ∧ g j ≤ 30) ∧ M.1 89 j = nI (c j) ∧ c j ≤ 20) ∧ ∀ r, 1 ≤ r → r ≤ 3 → M.1 90 r = nI (w r) ∧ w r ≤ 99
def S87 : Nat → Nat → Prop := fun q k => (q = 87 ∧ (k = 0 ∨ k = 4 ∨ k = 6)) ∨ (88 ≤ q ∧ q ≤ 91)
def S9f : Nat → Nat → Prop := fun q k => (q = 87 ∧ (k = 4 ∨ k = 6)) ∨ q = 91
theorem s87_q {M M' : Mem} (h : Fr S87 M M') : Qf M M' := fr_q h (fun q k hh => by unfold S87 at hh; unfold zT; omega)
theorem s87_co {M M' : Mem} {o : Nat} {a : Nat → Nat} (hC : CO M o a) (hF : Fr S87 M M') : CO M' o a := co_fr hC hF (fun q k h => by have := hC.2.1; unfold S87 at h; omega)
theorem s9_87 {M M' : Mem} (h : Fr S9f M M') : Fr S87 M M' := fr_mono h (fun q k hh => by unfold S9f at hh; unfold S87; omega)
section
variable {M : Mem} {P : Nat} {g c w : Nat → Nat}
theorem gc_fr {M' : Mem} (h : GCl M P g c w) (hF : Fr S9f M M') : GCl M' P g c w := by
  refine ⟨⟨fr_sk hF h.1.1, h.1.2.1, by rw [hF.2 87 0 (by unfold S9f; omega)]; exact h.1.2.2⟩, fun j hj => ?_, fun r h1 h3 => ?_⟩
  · rw [hF.2 88 j (by unfold S9f; omega), hF.2 89 j (by unfold S9f; omega)]; exact h.2.1 j hj
  · rw [hF.2 90 r (by unfold S9f; omega)]; exact h.2.2 r h1 h3
theorem gc_p (h : GCl M P g c w) : gI M 10 87 0 = some (nI P) := by rw [gI_at (w_sh h.1.1).1, h.1.2.2]
theorem gc_g (h : GCl M P g c w) {j : Nat} (hj : j < P) : aI M 0 88 (nI j) = some (nI (g j)) := by
  have := h.1.2.1
  rw [aI_at (w_sh h.1.1).2.1 (by omega) (by omega) (by omega), (h.2.1 j hj).1.1]
theorem gc_c (h : GCl M P g c w) {j : Nat} (hj : j < P) : aI M 0 89 (nI j) = some (nI (c j)) := by
  have := h.1.2.1
  rw [aI_at (w_sh h.1.1).2.2.1 (by omega) (by omega) (by omega), (h.2.1 j hj).2.1]
theorem gc_w (h : GCl M P g c w) {r : Nat} (h1 : 1 ≤ r) (h3 : r ≤ 3) : aI M 0 90 (nI r) = some (nI (w r)) := by
  rw [aI_at (w_sh h.1.1).2.2.2.1 (by omega) (by omega) (by omega), (h.2.2 r h1 h3).1]
theorem c_nobody (h : GCl M P g c w) : f_X10_nobodyWouldLift M 87 = some (bI (dc (SilC P c w))) := by
  have hP := h.1.2.1
  have w1 := (h.2.2 1 (by omega) (by omega)).2
  have ew : aI M 0 90 1 = some (nI (w 1)) := gc_w h (r := 1) (by omega) (by omega)
  obtain ⟨r, e, hr⟩ := iter_rel (f := fun s : Int32 => f_X10_nobodyWouldLift_B2 M 87 s) P (fun i s => s = nI i ∧ ∀ k, k < i → w 1 ≤ c k) (fun r => r = if dc (SilC P c w) = true then .inr () else .inl ()) (fun i s hi ⟨hs1, hs2⟩ => by
    subst hs1
    have hc := (h.2.1 i hi).2.2
    unfold f_X10_nobodyWouldLift_B2
    rw [gc_p h, bb_some, if_neg (nI_ge hi (by omega)), w_r3 h.1.1, bb_some, ew, bb_some, w_r2 h.1.1, bb_some, gc_c h hi, bb_some, nI_1]
    by_cases hle : w 1 ≤ c i
    · rw [if_pos (nI_le hle (by omega))]
      refine Or.inl ⟨_, rfl, rfl, fun k hk => ?_⟩
      by_cases e : k = i
      · rw [e]; exact hle
      · exact hs2 k (by omega)
    · rw [if_neg (nI_ge (by omega) (by omega))]
      exact Or.inr ⟨_, rfl, by rw [dc_f (fun hh => hle (hh i hi)), if_neg (by decide)]⟩) (fun s ⟨hs1, hs2⟩ => by
    subst hs1
    refine ⟨.inr (), ?_, by rw [dc_iff.mpr (show SilC P c w from hs2), if_pos rfl]⟩
    unfold f_X10_nobodyWouldLift_B2
    rw [gc_p h, bb_some, if_pos (nI_le (Nat.le_refl _) (by omega))]) 1048576 0 0 (by omega) ⟨rfl, fun k hk => absurd hk (by omega)⟩ (by omega)
  have e : f_X10_nobodyWouldLift_L2 M 87 0 = some r := e
  rw [f_X10_nobodyWouldLift, e, bb_some, hr]
  cases dc (SilC P c w) <;> rfl
theorem c_beh (h : GCl M P g c w) {k j : Nat} (hk : k < P) (hj : j < P) : f_X10_isBehind M 87 (nI k) (nI j) = some (bI (dc (bh g k j))) := by
  have hP := h.1.2.1
  have gk := (h.2.1 k hk).1.2
  have gj := (h.2.1 j hj).1.2
  unfold f_X10_isBehind
  simp only [w_r1 h.1.1, bb_some, gc_g h hk, gc_g h hj]
  by_cases h1 : g j < g k
  · rw [if_pos (nI_lt h1 (by omega)), dc_iff.mpr (show bh g k j from Or.inl h1)]; rfl
  · rw [if_neg (nI_nlt (by omega) (by omega))]
    by_cases h2 : g k = g j
    · rw [if_pos (by rw [h2])]
      by_cases h3 : k ≤ j
      · rw [if_pos (nI_le h3 (by omega)), dc_f (by unfold bh; omega)]; rfl
      · rw [if_neg (nI_ge (by omega) (by omega)), dc_iff.mpr (show bh g k j from Or.inr ⟨h2, by omega⟩)]; rfl
    · rw [if_neg (nI_nq (by omega) (by omega) h2), dc_f (by unfold bh; omega)]; rfl
theorem c_chB (h : GCl M P g c w) {k j r : Nat} (hk : k < P) (hj : j < P) (h1 : 1 ≤ r) (h3 : r ≤ 3) : f_X10_choicesBeside M 87 (nI k) (nI j) (nI r) = some (nI (chB g c w k j r)) := by
  have hc := (h.2.1 j hj).2.2
  have wr := (h.2.2 r h1 h3).2
  have hP := h.1.2.1
  have z : ∀ n, n ≤ r → fo (fun s acc => if dc (cbp g c w k j r s) = true then acc ||| 2 ^ s else acc) n 1 = 1 := by
    intro n
    induction n with
    | zero => intro _; rfl
    | succ n ih =>
      intro hn
      show (if dc (cbp g c w k j r n) = true then _ else fo (fun s acc => if dc (cbp g c w k j r s) = true then acc ||| 2 ^ s else acc) n 1) = 1
      rw [dc_f (by unfold cbp; omega), if_neg (by decide)]
      exact ih (by omega)
  obtain ⟨q, e, hq⟩ := iter_rel (f := fun t : Int32 × Int32 => f_X10_choicesBeside_B6 M 87 (nI k) (nI j) (nI r) t.1 t.2) 4 (fun s t => (t.1 = nI (fo (fun s acc => if dc (cbp g c w k j r s) = true then acc ||| 2 ^ s else acc) s 1) ∧ r ≤ s) ∧ t.2 = nI s) (fun q => q = nI (chB g c w k j r)) (fun s t hs ⟨⟨hs1, hs3⟩, hs2⟩ => by
    obtain ⟨t1, t2⟩ := t
    have hq1 : t1 = nI (fo (fun s acc => if dc (cbp g c w k j r s) = true then acc ||| 2 ^ s else acc) s 1) := hs1
    have hq2 : t2 = nI s := hs2
    clear hs1 hs2
    subst hq2
    have ws := (h.2.2 s (by omega) (by omega)).2
    refine Or.inl ⟨(nI (fo (fun s acc => if dc (cbp g c w k j r s) = true then acc ||| 2 ^ s else acc) (s + 1) 1), nI (s + 1)), ?_, ⟨rfl, by omega⟩, rfl⟩
    show f_X10_choicesBeside_B6 M 87 (nI k) (nI j) (nI r) t1 (nI s) = _
    have st : fo (fun s acc => if dc (cbp g c w k j r s) = true then acc ||| 2 ^ s else acc) (s + 1) 1 = if dc (cbp g c w k j r s) = true then fo (fun s acc => if dc (cbp g c w k j r s) = true then acc ||| 2 ^ s else acc) s 1 ||| 2 ^ s else fo (fun s acc => if dc (cbp g c w k j r s) = true then acc ||| 2 ^ s else acc) s 1 := rfl
    rw [st]
    generalize fo (fun s acc => if dc (cbp g c w k j r s) = true then acc ||| 2 ^ s else acc) s 1 = X at hq1
    subst hq1
    have lt : nI (w r) - nI (c j) < nI (w s) ↔ ¬ w s + c j ≤ w r := by
      rw [Int32.lt_iff_toInt_lt, nI_toInt (by omega)]
      have e : (nI (w r) - nI (c j)).toInt = (w r : Int) - (c j : Int) := pk_sub_toInt (by omega) (by omega)
      omega
    unfold f_X10_choicesBeside_B6 f_X10_choicesBeside_J40
    rw [if_neg (show ¬ 3 < nI s from nI_nlt (a := 3) (by omega) (by omega)), w_r3 h.1.1, bb_some, gc_w h (by omega) (by omega), bb_some, bb_some, gc_w h h1 h3, bb_some, w_r2 h.1.1, bb_some, gc_c h hj, bb_some, w_ob h.1.1, bb_some, c_beh h hk hj, bb_some, nI_1, one_sl (by omega), or_at]
    by_cases c1 : w s + c j ≤ w r
    · rw [if_neg (fun hh => lt.mp hh c1), if_neg (by decide)]
      by_cases c2 : r < s
      · rw [if_pos (nI_lt c2 (by omega)), dc_iff.mpr (show cbp g c w k j r s from ⟨⟨by omega, hs3⟩, c1, Or.inl c2⟩), if_pos rfl]
      · rw [if_neg (nI_nlt (by omega) (by omega))]
        by_cases c3 : bh g k j
        · rw [dc_iff.mpr c3, if_neg (show ¬ bI true = 0 by decide), dc_iff.mpr (show cbp g c w k j r s from ⟨⟨by omega, hs3⟩, c1, Or.inr c3⟩), if_pos rfl]
        · rw [dc_f c3, if_pos (show bI false = 0 by decide), dc_f (fun hh : cbp g c w k j r s => by
            rcases hh.2.2 with q | q
            · exact c2 q
            · exact c3 q), if_neg (by decide)]
    · rw [if_pos (lt.mpr c1), if_pos rfl, dc_f (fun hh : cbp g c w k j r s => c1 hh.2.1), if_neg (by decide)]) (fun t ⟨⟨hs1, hs3⟩, hs2⟩ => by
    obtain ⟨t1, t2⟩ := t
    have hq2 : t2 = nI 4 := hs2
    subst hq2
    exact ⟨t1, by show f_X10_choicesBeside_B6 M 87 (nI k) (nI j) (nI r) t1 (nI 4) = _; rw [f_X10_choicesBeside_B6, if_pos (by decide)], hs1⟩) 1048576 r (1, nI r) (by omega) ⟨⟨by show (1 : Int32) = _; rw [z r (Nat.le_refl _)]; rfl, Nat.le_refl _⟩, rfl⟩ (by omega)
  have e : f_X10_choicesBeside_L6 M 87 (nI k) (nI j) (nI r) 1 (nI r) = some q := e
  rw [f_X10_choicesBeside, e, bb_some, hq]
/-- the families with codes below e -/
def FR (M : Mem) (P : Nat) (g c w : Nat → Nat) (e : Nat) : Prop := M.1 87 4 = nI (cb (vc P c w) e) ∧ (∀ x, x < e → vc P c w x = true → ∀ i, i < P → M.1 91 (8 * cb (vc P c w) x + i) = nI (chF g c w x i)) ∧ M.1 87 6 = bI (dc (∃ x, 8 ≤ x ∧ x < e ∧ vc P c w x = true))
theorem fr_skip {e e' : Nat} (h : FR M P g c w e) (hee : e ≤ e') (hn : ∀ x, e ≤ x → x < e' → vc P c w x = false) : FR M P g c w e' := by
  have ce : cb (vc P c w) e' = cb (vc P c w) e := cb_ext hee hn
  refine ⟨by rw [ce]; exact h.1, fun x hx hv => ?_, ?_⟩
  · refine h.2.1 x ?_ hv
    rcases Nat.lt_or_ge x e with q | q
    · exact q
    · rw [hn x q hx] at hv; cases hv
  · rw [h.2.2]
    congr 2
    apply propext
    refine ⟨fun ⟨x, a1, a2, a3⟩ => ⟨x, a1, by omega, a3⟩, fun ⟨x, a1, a2, a3⟩ => ⟨x, a1, ?_, a3⟩⟩
    rcases Nat.lt_or_ge x e with q | q
    · exact q
    · rw [hn x q a2] at a3; cases a3
theorem fr_add {M' : Mem} {e : Nat} {b : Bool} (hP : P ≤ 7) (he : e < 32) (h : FR M P g c w e) (hv : vc P c w e = true) (h4 : M'.1 87 4 = nI (cb (vc P c w) e + 1)) (h91 : ∀ i, i < P → M'.1 91 (8 * cb (vc P c w) e + i) = nI (chF g c w e i)) (hot : ∀ k, k < 8 * cb (vc P c w) e → M'.1 91 k = M.1 91 k) (h6 : M'.1 87 6 = bI b) (hb : b = true ↔ ∃ x, 8 ≤ x ∧ x < e + 1 ∧ vc P c w x = true) : FR M' P g c w (e + 1) := by
  refine ⟨by rw [cb_st, if_pos hv]; exact h4, fun x hx hvx i hi => ?_, ?_⟩
  · by_cases ex : x = e
    · subst ex; exact h91 i hi
    · have c1 := cb_mo (vc P c w) (show x + 1 ≤ e by omega)
      rw [cb_st, if_pos hvx] at c1
      rw [hot _ (by omega)]
      exact h.2.1 x (by omega) hvx i hi
  · rw [h6]
    congr 1
    cases hb2 : dc (∃ x, 8 ≤ x ∧ x < e + 1 ∧ vc P c w x = true) with
    | true => exact hb.mpr (dc_iff.mp hb2)
    | false =>
      cases b with
      | false => rfl
      | true => rw [dc_iff.mpr (hb.mp rfl)] at hb2; cases hb2
theorem c_addS (h : GCl M P g c w) (hF : FR M P g c w 0) (hs : SilC P c w) : ∃ M', f_X10_addSilence M 87 = some M' ∧ FR M' P g c w 1 ∧ Fr S9f M M' := by
  have hP := h.1.2.1
  have h4 : M.1 87 4 = nI 0 := hF.1
  have hv : vc P c w 0 = true := dc_iff.mpr (Or.inl ⟨rfl, hs⟩)
  obtain ⟨B, eB, hB, fB⟩ := iter_rel (f := fun t : Int32 × Mem => f_X10_addSilence_B2 t.2 87 t.1) P (fun i t => t.1 = nI i ∧ (∀ j, j < i → t.2.1 91 j = nI 1) ∧ Fr (fun q _ => q = 91) M t.2) (fun r => (∀ j, j < P → r.1 91 j = nI 1) ∧ Fr (fun q _ => q = 91) M r) (fun i t hi ⟨hs1, hs2, hs3⟩ => by
    obtain ⟨t1, t2⟩ := t
    have hq1 : t1 = nI i := hs1
    have hq2 : ∀ j, j < i → t2.1 91 j = nI 1 := hs2
    have hq3 : Fr (fun q _ => q = 91) M t2 := hs3
    clear hs1 hs2 hs3
    subst hq1
    have hS2 := fr_sk hq3 h.1.1
    have g0 : gI t2 10 87 0 = some (nI P) := by rw [gI_at (w_sh hS2).1, hq3.2 87 0 (by omega), h.1.2.2]
    have g4 : gI t2 10 87 4 = some (nI 0) := by rw [gI_at (w_sh hS2).1, hq3.2 87 4 (by omega), h4]
    refine Or.inl ⟨(nI (i + 1), wI t2 91 i (nI 1)), ?_, rfl, fun j hj => ?_, fr_put hq3 rfl⟩
    · show f_X10_addSilence_B2 t2 87 (nI i) = _
      unfold f_X10_addSilence_B2
      rw [g0, bb_some, if_neg (nI_ge hi (by omega)), w_r5 hS2, bb_some, g4, bb_some, x8, show 8 * 0 + i = i by omega, sI_at (w_sh hS2).2.2.2.2 (by omega) (by omega), nar0, bb_some, nI_1 i]
      rfl
    · show (wI t2 91 i _).1 91 j = _
      rw [wI_rd]
      by_cases e : j = i
      · subst e; rw [if_pos ⟨rfl, rfl⟩]
      · rw [if_neg (by omega)]; exact hq2 j (by omega)) (fun t ⟨hs1, hs2, hs3⟩ => by
    obtain ⟨t1, t2⟩ := t
    have hq1 : t1 = nI P := hs1
    have hq3 : Fr (fun q _ => q = 91) M t2 := hs3
    subst hq1
    have hS2 := fr_sk hq3 h.1.1
    have g0 : gI t2 10 87 0 = some (nI P) := by rw [gI_at (w_sh hS2).1, hq3.2 87 0 (by omega), h.1.2.2]
    exact ⟨t2, by show f_X10_addSilence_B2 t2 87 (nI P) = _; rw [f_X10_addSilence_B2, g0, bb_some, if_pos (nI_le (Nat.le_refl _) (by omega))], hs2, hq3⟩) 1048576 0 (0, M) (by omega) ⟨rfl, fun j hj => absurd hj (by omega), fr_refl⟩ (by omega)
  have eB : f_X10_addSilence_L2 M 87 0 = some B := eB
  have hSB := fr_sk fB h.1.1
  have g4 : gI B 10 87 4 = some (nI 0) := by rw [gI_at (w_sh hSB).1, fB.2 87 4 (by omega), h4]
  have fB' : Fr S9f M B := fr_mono fB (fun q k hh => Or.inr hh)
  refine ⟨wI B 87 4 (nI 1), ?_, ?_, fr_put fB' (Or.inl ⟨rfl, Or.inl rfl⟩)⟩
  · rw [f_X10_addSilence, eB, bb_some, g4, bb_some, nI_1, pI_at (w_sh hSB).1, bb_some]
  · refine fr_add (M := M) (b := false) hP (by omega) hF hv (wI_same _ _ _ _) (fun i hi => ?_) (fun k hk => absurd hk (by show ¬ k < 0; omega)) ?_ ⟨fun hh => (by cases hh), fun ⟨x, a1, a2, _⟩ => absurd a2 (by omega)⟩
    · show (wI B 87 4 _).1 91 (8 * 0 + i) = nI 1
      rw [wI_rd, if_neg (by omega), show 8 * 0 + i = i by omega]; exact hB i hi
    · rw [wI_rd, if_neg (by omega), fB.2 87 6 (by omega), hF.2.2, dc_f (fun ⟨x, a1, a2, _⟩ => absurd a2 (by omega))]
theorem c_addF (h : GCl M P g c w) {j r : Nat} (hj : j < P) (h1 : 1 ≤ r) (h3 : r ≤ 3) (hF : FR M P g c w (8 * r + j)) (hv : vc P c w (8 * r + j) = true) : ∃ M', ((f_X10_addFamily M 87 (nI j) (nI r)).bind fun z13 => (pZ z13 10 87 6 (1 : Int32)).bind fun M14 => some (Sum.inl (α := Int32 × Mem) (β := Mem) ((nI j + (1 : Int32)), M14))) = some (Sum.inl (nI (j + 1), M')) ∧ FR M' P g c w (8 * r + (j + 1)) ∧ Fr S9f M M' := by
  have hP := h.1.2.1
  have v22 := vc_lt hP (show 8 * r + j < 32 by omega) hv
  have e1 : (8 * r + j) % 8 = j := by omega
  have e2 : (8 * r + j) / 8 = r := by omega
  generalize hn : cb (vc P c w) (8 * r + j) = n at v22
  have h4 : M.1 87 4 = nI n := by rw [hF.1, hn]
  obtain ⟨B, eB, hB, hB2, fB⟩ := iter_rel (f := fun t : Int32 × Mem => f_X10_addFamily_B2 t.2 87 (nI j) (nI r) t.1) P (fun i t => t.1 = nI i ∧ (∀ k, k < i → t.2.1 91 (8 * n + k) = nI (chF g c w (8 * r + j) k)) ∧ (∀ k, k < 8 * n → t.2.1 91 k = M.1 91 k) ∧ Fr (fun q _ => q = 91) M t.2) (fun R => (∀ k, k < P → R.1 91 (8 * n + k) = nI (chF g c w (8 * r + j) k)) ∧ (∀ k, k < 8 * n → R.1 91 k = M.1 91 k) ∧ Fr (fun q _ => q = 91) M R) (fun i t hi ⟨hs1, hs2, hs4, hs3⟩ => by
    obtain ⟨t1, t2⟩ := t
    have hq1 : t1 = nI i := hs1
    have hq2 : ∀ k, k < i → t2.1 91 (8 * n + k) = nI (chF g c w (8 * r + j) k) := hs2
    have hq4 : ∀ k, k < 8 * n → t2.1 91 k = M.1 91 k := hs4
    have hq3 : Fr (fun q _ => q = 91) M t2 := hs3
    clear hs1 hs2 hs3 hs4
    subst hq1
    have hG2 := gc_fr h (fr_mono hq3 (fun q k hh => Or.inr hh))
    have hS2 := hG2.1.1
    have g4 : gI t2 10 87 4 = some (nI n) := by rw [gI_at (w_sh hS2).1, hq3.2 87 4 (by omega), h4]
    have fin : ∀ v, sI t2 0 91 (nI (8 * n + i)) (nI v) = some (wI t2 91 (8 * n + i) (nI v)) := fun v => by rw [sI_at (w_sh hS2).2.2.2.2 (by omega) (by omega), nar0]
    refine Or.inl ⟨(nI (i + 1), wI t2 91 (8 * n + i) (nI (chF g c w (8 * r + j) i))), ?_, rfl, fun k hk => ?_, fun k hk => ?_, fr_put hq3 rfl⟩
    · show f_X10_addFamily_B2 t2 87 (nI j) (nI r) (nI i) = _
      unfold f_X10_addFamily_B2 f_X10_addFamily_J41 chF
      rw [gc_p hG2, bb_some, if_neg (nI_ge hi (by omega)), w_r5 hS2, bb_some, g4, bb_some, x8, one_sl (by omega), fin, bb_some, if_neg (show ¬ 8 * r + j = 0 by omega), e1, e2, nI_1]
      by_cases hij : i = j
      · rw [if_pos (by rw [hij]), if_pos hij]
      · rw [if_neg (nI_nq (by omega) (by omega) hij), if_neg hij, w_ob hS2, bb_some, c_chB hG2 hi hj h1 h3, bb_some, fin, bb_some]
    · show (wI t2 91 (8 * n + i) _).1 91 (8 * n + k) = _
      rw [wI_rd]
      by_cases e : k = i
      · subst e; rw [if_pos ⟨rfl, rfl⟩]
      · rw [if_neg (by omega)]; exact hq2 k (by omega)
    · show (wI t2 91 (8 * n + i) _).1 91 k = _
      rw [wI_rd, if_neg (by omega)]; exact hq4 k hk) (fun t ⟨hs1, hs2, hs4, hs3⟩ => by
    obtain ⟨t1, t2⟩ := t
    have hq1 : t1 = nI P := hs1
    have hq3 : Fr (fun q _ => q = 91) M t2 := hs3
    subst hq1
    have hG2 := gc_fr h (fr_mono hq3 (fun q k hh => Or.inr hh))
    exact ⟨t2, by show f_X10_addFamily_B2 t2 87 (nI j) (nI r) (nI P) = _; rw [f_X10_addFamily_B2, gc_p hG2, bb_some, if_pos (nI_le (Nat.le_refl _) (by omega))], hs2, hs4, hq3⟩) 1048576 0 (0, M) (by omega) ⟨rfl, fun k hk => absurd hk (by omega), fun _ _ => rfl, fr_refl⟩ (by omega)
  have eB : f_X10_addFamily_L2 M 87 (nI j) (nI r) 0 = some B := eB
  have hSB := fr_sk fB h.1.1
  have g4 : gI B 10 87 4 = some (nI n) := by rw [gI_at (w_sh hSB).1, fB.2 87 4 (by omega), h4]
  have fB' : Fr S9f M B := fr_mono fB (fun q k hh => Or.inr hh)
  let D := wI B 87 4 (nI (n + 1))
  have hSD : Sk D := hSB
  refine ⟨wI D 87 6 1, ?_, ?_, fr_put (fr_put fB' (Or.inl ⟨rfl, Or.inl rfl⟩)) (Or.inl ⟨rfl, Or.inr rfl⟩)⟩
  · rw [f_X10_addFamily, eB, bb_some, g4, bb_some, nI_1, pI_at (w_sh hSB).1, bb_some, bb_some]
    show ((pZ D 10 87 6 (1 : Int32)).bind fun M14 => some (Sum.inl (nI j + (1 : Int32), M14))) = _
    rw [pZ_at (w_sh hSD).1 6 (Or.inr rfl), bb_some, nI_1]
  · rw [show 8 * r + (j + 1) = 8 * r + j + 1 by omega]
    refine fr_add (M := M) (b := true) hP (by omega) hF hv ?_ (fun i hi => ?_) (fun k hk => ?_) ?_ ⟨fun _ => ⟨8 * r + j, by omega, by omega, hv⟩, fun _ => rfl⟩
    · show (wI (wI B 87 4 _) 87 6 1).1 87 4 = _
      rw [hn, wI_rd, if_neg (by omega)]; exact wI_same _ _ _ _
    · show (wI (wI B 87 4 _) 87 6 1).1 91 _ = _
      rw [hn, wI_rd, if_neg (by omega), wI_rd, if_neg (by omega)]; exact hB i hi
    · show (wI (wI B 87 4 _) 87 6 1).1 91 k = _
      rw [hn] at hk
      rw [wI_rd, if_neg (by omega), wI_rd, if_neg (by omega)]; exact hB2 k hk
    · exact wI_same _ _ _ _
theorem vc_e {j r : Nat} (hj : j < P) (hP : P ≤ 7) (h1 : 1 ≤ r) (h3 : r ≤ 3) : vc P c w (8 * r + j) = true ↔ FamC c w j r := by
  have e1 : (8 * r + j) % 8 = j := by omega
  have e2 : (8 * r + j) / 8 = r := by omega
  unfold vc
  rw [dc_iff, e1, e2]
  constructor
  · rintro (⟨q, _⟩ | ⟨_, _, _, q⟩)
    · omega
    · exact q
  · intro q; exact Or.inr ⟨by omega, by omega, hj, q⟩
theorem c_famJ (h : GCl M P g c w) {r : Nat} (h1 : 1 ≤ r) (h3 : r ≤ 3) (hF : FR M P g c w (8 * r)) : ∃ M', f_X10_findFamilies_L30 M 87 (nI r) 0 = some M' ∧ FR M' P g c w (8 * (r + 1)) ∧ Fr S9f M M' := by
  have hP := h.1.2.1
  obtain ⟨B, eB, hB, fB⟩ := iter_rel (f := fun t : Int32 × Mem => f_X10_findFamilies_B30 t.2 87 (nI r) t.1) P (fun j t => t.1 = nI j ∧ FR t.2 P g c w (8 * r + j) ∧ Fr S9f M t.2) (fun R => FR R P g c w (8 * r + P) ∧ Fr S9f M R) (fun j t hj ⟨hs1, hs2, hs3⟩ => by
    obtain ⟨t1, t2⟩ := t
    have hq1 : t1 = nI j := hs1
    have hq2 : FR t2 P g c w (8 * r + j) := hs2
    have hq3 : Fr S9f M t2 := hs3
    clear hs1 hs2 hs3
    subst hq1
    have hG := gc_fr h hq3
    have hS2 := hG.1.1
    have hc := (hG.2.1 j hj).2.2
    have wr := (hG.2.2 r h1 h3).2
    have w1 := (hG.2.2 1 (by omega) (by omega)).2
    have ew : aI t2 0 90 1 = some (nI (w 1)) := gc_w hG (r := 1) (by omega) (by omega)
    have ve := vc_e (c := c) (w := w) hj hP h1 h3
    have no : ¬ FamC c w j r → FR t2 P g c w (8 * r + (j + 1)) := fun hn => fr_skip hq2 (by omega) (fun x a1 a2 => by
      rw [show x = 8 * r + j by omega]
      cases hvv : vc P c w (8 * r + j) with
      | false => rfl
      | true => exact absurd (ve.mp hvv) hn)
    refine Or.inl ?_
    show ∃ t' : Int32 × Mem, f_X10_findFamilies_B30 t2 87 (nI r) (nI j) = some (.inl t') ∧ _
    unfold f_X10_findFamilies_B30
    rw [gc_p hG, bb_some, if_neg (nI_ge hj (by omega)), w_r3 hS2, bb_some, gc_w hG h1 h3, bb_some, bb_some, ew, bb_some, bb_some, gc_w hG h1 h3, bb_some, w_r2 hS2, bb_some, gc_c hG hj, bb_some, w_ob hS2, bb_some]
    by_cases c1 : w r = w 1
    · rw [if_pos (by rw [c1])]
      by_cases c2 : c j ≤ w r
      · rw [if_neg (nI_nlt c2 (by omega))]
        obtain ⟨D, eD, hD, fD⟩ := c_addF hG hj h1 h3 hq2 (ve.mpr ⟨c1, c2⟩)
        rw [eD]
        exact ⟨_, rfl, rfl, hD, fr_trans hq3 fD⟩
      · rw [if_pos (nI_lt (by omega) (by omega)), nI_1]
        exact ⟨_, rfl, rfl, no (fun hh => c2 hh.2), hq3⟩
    · rw [if_neg (nI_nq (by omega) (by omega) c1), nI_1]
      exact ⟨_, rfl, rfl, no (fun hh => c1 hh.1), hq3⟩) (fun t ⟨hs1, hs2, hs3⟩ => by
    obtain ⟨t1, t2⟩ := t
    have hq1 : t1 = nI P := hs1
    have hq3 : Fr S9f M t2 := hs3
    subst hq1
    exact ⟨t2, by show f_X10_findFamilies_B30 t2 87 (nI r) (nI P) = _; rw [f_X10_findFamilies_B30, gc_p (gc_fr h hq3), bb_some, if_pos (nI_le (Nat.le_refl _) (by omega))], hs2, hq3⟩) 1048576 0 (0, M) (by omega) ⟨rfl, hF, fr_refl⟩ (by omega)
  refine ⟨B, eB, fr_skip hB (by omega) (fun x a1 a2 => dc_f (fun hh => ?_)), fB⟩
  rcases hh with ⟨q, _⟩ | ⟨_, _, q, _⟩ <;> omega
theorem c_find2 (h : GCl M P g c w) : ∃ M', f_X10_findFamilies M 87 = some M' ∧ FR M' P g c w 32 ∧ Fr S9f M M' := by
  have hP := h.1.2.1
  have hS := h.1.1
  let A := wI M 87 4 0
  let B := wI A 87 6 0
  have hSA : Sk A := hS
  have hSB : Sk B := hS
  have fB : Fr S9f M B := fr_put (fr_wI (Or.inl ⟨rfl, Or.inl rfl⟩)) (Or.inl ⟨rfl, Or.inr rfl⟩)
  have hGB := gc_fr h fB
  have F0 : FR B P g c w 0 := ⟨by show (wI (wI M 87 4 0) 87 6 0).1 87 4 = _; rw [wI_rd, if_neg (by omega)]; exact wI_same _ _ _ _, fun x hx => absurd hx (by omega), by rw [dc_f (fun ⟨x, a1, a2, _⟩ => absurd a2 (by omega))]; exact wI_same _ _ _ _⟩
  have loop : ∀ C, FR C P g c w 8 → Fr S9f M C → ∃ M', f_X10_findFamilies_L23 C 87 1 = some M' ∧ FR M' P g c w 32 ∧ Fr S9f M M' := fun C hC fC => by
    obtain ⟨D, eD, hD, fD⟩ := iter_rel (f := fun t : Int32 × Mem => f_X10_findFamilies_B23 t.2 87 t.1) 4 (fun r t => (1 ≤ r ∧ t.1 = nI r) ∧ FR t.2 P g c w (8 * r) ∧ Fr S9f M t.2) (fun R => FR R P g c w 32 ∧ Fr S9f M R) (fun r t hr ⟨⟨hs0, hs1⟩, hs2, hs3⟩ => by
      obtain ⟨t1, t2⟩ := t
      have hq1 : t1 = nI r := hs1
      have hq3 : Fr S9f M t2 := hs3
      have hq2 : FR t2 P g c w (8 * r) := hs2
      clear hs1 hs2 hs3
      subst hq1
      obtain ⟨E, eE, hE, fE⟩ := c_famJ (gc_fr h hq3) hs0 (by omega) hq2
      refine Or.inl ⟨(nI (r + 1), E), ?_, ⟨by omega, rfl⟩, hE, fr_trans hq3 fE⟩
      show f_X10_findFamilies_B23 t2 87 (nI r) = _
      rw [f_X10_findFamilies_B23, if_neg (show ¬ 3 < nI r from nI_nlt (a := 3) (by omega) (by omega)), eE, bb_some, nI_1]) (fun t ⟨⟨hs0, hs1⟩, hs2, hs3⟩ => by
      obtain ⟨t1, t2⟩ := t
      have hq1 : t1 = nI 4 := hs1
      subst hq1
      exact ⟨t2, by show f_X10_findFamilies_B23 t2 87 (nI 4) = _; rw [f_X10_findFamilies_B23, if_pos (by decide)], hs2, hs3⟩) 1048576 1 (1, C) (by omega) ⟨⟨by omega, rfl⟩, hC, fC⟩ (by omega)
    exact ⟨D, eD, hD, fD⟩
  have sk18 : ∀ x, 1 ≤ x → x < 8 → vc P c w x = false := fun x a1 a2 => dc_f (fun hh => by rcases hh with ⟨q, _⟩ | ⟨q, _, _, _⟩ <;> omega)
  unfold f_X10_findFamilies
  rw [pI_at (w_sh hS).1, bb_some]
  show ∃ M', ((pZ A 10 87 6 (0 : Int32)).bind fun M2 => (ob M2 10 87).bind fun _ => (f_X10_nobodyWouldLift M2 87).bind fun v3 => _) = _ ∧ _
  rw [pZ_at (w_sh hSA).1 6 (Or.inl rfl), bb_some]
  show ∃ M', ((ob B 10 87).bind fun _ => (f_X10_nobodyWouldLift B 87).bind fun v3 => (if v3 = 0 then (f_X10_findFamilies_L23 B 87 1).bind fun r5 => some r5 else (ob B 10 87).bind fun _ => (f_X10_addSilence B 87).bind fun z6 => (f_X10_findFamilies_L23 z6 87 1).bind fun r7 => some r7)) = _ ∧ _
  rw [w_ob hSB, bb_some, c_nobody hGB, bb_some]
  by_cases hs : SilC P c w
  · obtain ⟨C, eC, hC, fC⟩ := c_addS hGB F0 hs
    obtain ⟨D, eD, hD, fD⟩ := loop C (fr_skip hC (by omega) sk18) (fr_trans fB fC)
    rw [dc_iff.mpr hs, if_neg (show ¬ bI true = 0 by decide), bb_some, eC, bb_some, eD, bb_some]
    exact ⟨D, rfl, hD, fD⟩
  · have s0 : FR B P g c w 8 := fr_skip F0 (by omega) (fun x a1 a2 => by
      by_cases x0 : x = 0
      · rw [x0]
        exact dc_f (fun hh => by
          rcases hh with ⟨_, q⟩ | ⟨q, _, _, _⟩
          · exact hs q
          · omega)
      · exact sk18 x (by omega) a2)
    obtain ⟨D, eD, hD, fD⟩ := loop B s0 fB
    rw [dc_f hs, if_pos (show bI false = 0 by decide), eD, bb_some]
    exact ⟨D, rfl, hD, fD⟩
end
theorem c_gbeg {M : Mem} {o d W K : Nat} {a : Nat → Nat} (hC : CO M o a) (hO : OkO a) (hd : d < a 0) (hW : W ≤ 99) (hK : K ≤ 8) : ∃ M', f_X10_begin M 87 o (nI d) (nI W) (nI K) = some M' ∧ CG M' (min (cb (el a d) (a 0)) K) (gq a d) (cq a d) (ww a W) ∧ M'.1 87 6 = bI (dc (∃ x, 8 ≤ x ∧ x < 32 ∧ vc (min (cb (el a d) (a 0)) K) (cq a d) (ww a W) x = true)) ∧ Fr S87 M M' := by
  have h8 := hO.1.1
  have h4 := hO.1.2.2.2.2
  have e7 := el_7 hO hd
  have hS := hC.1
  let A := wI M 87 0 0
  have fA : Fr S87 M A := fr_wI (Or.inl ⟨rfl, Or.inl rfl⟩)
  obtain ⟨B, eB, ⟨hB1, hB2⟩, fB⟩ := iter_rel (f := fun t : Int32 × Mem => f_X10_begin_B8 t.2 87 o (nI d) (nI W) (nI K) t.1) (a 0) (fun i t => t.1 = nI i ∧ (t.2.1 87 0 = nI (min (cb (el a d) i) K) ∧ ∀ j, j < min (cb (el a d) i) K → t.2.1 88 j = nI (gq a d j) ∧ t.2.1 89 j = nI (cq a d j)) ∧ Fr S87 M t.2) (fun R => (R.1 87 0 = nI (min (cb (el a d) (a 0)) K) ∧ ∀ j, j < min (cb (el a d) (a 0)) K → R.1 88 j = nI (gq a d j) ∧ R.1 89 j = nI (cq a d j)) ∧ Fr S87 M R) (fun i t hi ⟨hs1, ⟨hs2, hs4⟩, hs3⟩ => by
    obtain ⟨t1, t2⟩ := t
    have hq1 : t1 = nI i := hs1
    have hq2 : t2.1 87 0 = nI (min (cb (el a d) i) K) := hs2
    have hq4 : ∀ j, j < min (cb (el a d) i) K → t2.1 88 j = nI (gq a d j) ∧ t2.1 89 j = nI (cq a d j) := hs4
    have hq3 : Fr S87 M t2 := hs3
    clear hs1 hs2 hs3 hs4
    subst hq1
    have hC2 := s87_co hC hq3
    have hS2 := hC2.1
    have ci := cb_le (el a d) i
    have cst := cb_st (el a d) i
    have g0 : gI t2 10 87 0 = some (nI (min (cb (el a d) i) K)) := by rw [gI_at (w_sh hS2).1, hq2]
    have keep : min (cb (el a d) (i + 1)) K = min (cb (el a d) i) K → ∃ t' : Int32 × Mem, some (Sum.inl (α := Int32 × Mem) (β := Mem) (nI (i + 1), t2)) = some (.inl t') ∧ t'.1 = nI (i + 1) ∧ (t'.2.1 87 0 = nI (min (cb (el a d) (i + 1)) K) ∧ ∀ j, j < min (cb (el a d) (i + 1)) K → t'.2.1 88 j = nI (gq a d j) ∧ t'.2.1 89 j = nI (cq a d j)) ∧ Fr S87 M t'.2 := fun h => ⟨_, rfl, rfl, by rw [h]; exact ⟨hq2, hq4⟩, hq3⟩
    refine Or.inl ?_
    show ∃ t' : Int32 × Mem, f_X10_begin_B8 t2 87 o (nI d) (nI W) (nI K) (nI i) = some (.inl t') ∧ _
    unfold f_X10_begin_B8
    rw [co_g0 hC2, bb_some, if_neg (nI_ge hi (by omega)), g0, bb_some, nI_1 i]
    by_cases hk : K ≤ min (cb (el a d) i) K
    · rw [if_pos (nI_le hk (by omega))]
      refine keep ?_
      split at cst <;> omega
    · have hm : min (cb (el a d) i) K = cb (el a d) i := by omega
      rw [hm] at hk g0 hq2 hq4 ⊢
      have hki := (hO.2.1 i hi).1
      have e2 : nI (a (5 + 5 * i)) = 2 ↔ a (5 + 5 * i) = 2 := nI_eq (b := 2) (by omega) (by omega)
      rw [if_neg (nI_ge (by omega) (by omega)), ob_at (co_shp hC2), bb_some, c_hears hC2 hO hd hi, bb_some]
      by_cases c1 : hr a i d = true
      · rw [if_pos c1, if_neg (by decide), co_r5 hC2, bb_some, co_kind hC2 hO hi, bb_some]
        by_cases c2 : a (5 + 5 * i) = 2
        · rw [if_pos (e2.mpr c2)]
          have hn : el a d i = false := by unfold el; rw [c1, decide_eq_false (by omega)]; rfl
          rw [hn, if_neg (by decide)] at cst
          rw [hm] at keep
          exact keep (by rw [cst]; omega)
        · rw [if_neg (fun hh => c2 (e2.mp hh))]
          have hy : el a d i = true := by unfold el; rw [c1, decide_eq_true c2]; rfl
          rw [if_pos hy] at cst
          have qi := qq_sp hi hy
          generalize hn : cb (el a d) i = n at hk g0 hq2 hq4 cst qi ci hm
          have en : min (cb (el a d) (i + 1)) K = n + 1 := by omega
          let E := wI t2 88 n (nI (gp a i d))
          let G := wI E 89 n (nI (a (8 + 5 * i)))
          let H := wI G 87 0 (nI (n + 1))
          have hSE : Sk E := hS2
          have hSG : Sk G := hS2
          have fE : Fr S87 M E := fr_put hq3 (Or.inr (by omega))
          have fG : Fr S87 M G := fr_put fE (Or.inr (by omega))
          have hCE := s87_co hC fE
          have gE : gI E 10 87 0 = some (nI n) := by rw [gI_at (w_sh hSE).1, wI_rd, if_neg (by omega), hq2]
          have gG : gI G 10 87 0 = some (nI n) := by rw [gI_at (w_sh hSG).1, wI_rd, if_neg (by omega), wI_rd, if_neg (by omega), hq2]
          refine ⟨(nI (i + 1), H), ?_, rfl, ⟨?_, fun j hj => ?_⟩, fr_put fG (Or.inl ⟨rfl, Or.inl rfl⟩)⟩
          · rw [w_r1 hS2, bb_some, bb_some, bb_some, c_gap hC2 hO hd hi, bb_some, sI_at (w_sh hS2).2.1 (by omega) (by omega), nar0, bb_some]
            show ((gR E 10 87 2).bind fun v14 => (gI E 10 87 0).bind fun v15 => (gR E 5 o 8).bind fun v16 => (aI E 0 v16 (nI i)).bind fun v17 => (sI E 0 v14 v15 v17).bind fun M18 => (gI M18 10 87 0).bind fun v19 => (pI M18 10 87 0 (v19 + 1)).bind fun M20 => some (Sum.inl (nI (i + 1), M20))) = _
            rw [w_r2 hSE, bb_some, gE, bb_some, co_r8 hCE, bb_some, co_cost hCE hO hi, bb_some, sI_at (w_sh hSE).2.2.1 (by omega) (by omega), nar0, bb_some]
            show ((gI G 10 87 0).bind fun v19 => (pI G 10 87 0 (v19 + 1)).bind fun M20 => some (Sum.inl (nI (i + 1), M20))) = _
            rw [gG, bb_some, nI_1, pI_at (w_sh hSG).1, bb_some]
          · rw [en]; exact wI_same _ _ _ _
          · rw [en] at hj
            by_cases ej : j = n
            · subst ej
              unfold gq cq
              rw [qi]
              refine ⟨?_, ?_⟩
              · show (wI (wI (wI t2 88 j _) 89 j _) 87 0 _).1 88 j = _
                rw [wI_rd, if_neg (by omega), wI_rd, if_neg (by omega)]; exact wI_same _ _ _ _
              · show (wI (wI (wI t2 88 j _) 89 j _) 87 0 _).1 89 j = _
                rw [wI_rd, if_neg (by omega)]; exact wI_same _ _ _ _
            · refine ⟨?_, ?_⟩
              · show (wI (wI (wI t2 88 n _) 89 n _) 87 0 _).1 88 j = _
                rw [wI_rd, if_neg (by omega), wI_rd, if_neg (by omega), wI_rd, if_neg (by omega)]; exact (hq4 j (by omega)).1
              · show (wI (wI (wI t2 88 n _) 89 n _) 87 0 _).1 89 j = _
                rw [wI_rd, if_neg (by omega), wI_rd, if_neg (by omega), wI_rd, if_neg (by omega)]; exact (hq4 j (by omega)).2
      · rw [if_neg c1, if_pos rfl]
        have hn : el a d i = false := by unfold el; rw [show hr a i d = false by simpa using c1]; rfl
        rw [hn, if_neg (by decide)] at cst
        rw [hm] at keep
        exact keep (by rw [cst]; omega)) (fun t ⟨hs1, hs2, hs3⟩ => by
    obtain ⟨t1, t2⟩ := t
    have hq1 : t1 = nI (a 0) := hs1
    have hq3 : Fr S87 M t2 := hs3
    subst hq1
    exact ⟨t2, by show f_X10_begin_B8 t2 87 o (nI d) (nI W) (nI K) (nI (a 0)) = _; rw [f_X10_begin_B8, co_g0 (s87_co hC hq3), bb_some, if_pos (nI_le (Nat.le_refl _) (by omega))], hs2, hq3⟩) 1048576 0 (0, A) (by omega) ⟨rfl, ⟨by show (wI M 87 0 0).1 87 0 = _; rw [wI_same, show cb (el a d) 0 = 0 from rfl, Nat.zero_min]; rfl, fun j hj => by rw [show cb (el a d) 0 = 0 from rfl, Nat.zero_min] at hj; omega⟩, fA⟩ (by omega)
  have eB : f_X10_begin_L8 A 87 o (nI d) (nI W) (nI K) 0 = some B := eB
  obtain ⟨D, eD, hD, fBD⟩ := iter_rel (f := fun t : Int32 × Mem => f_X10_begin_B98 t.2 87 o (nI W) t.1) 4 (fun r t => (1 ≤ r ∧ t.1 = nI r) ∧ (∀ x, 1 ≤ x → x < r → t.2.1 90 x = nI (ww a W x)) ∧ Fr (fun q _ => q = 90) B t.2) (fun R => (∀ x, 1 ≤ x → x < 4 → R.1 90 x = nI (ww a W x)) ∧ Fr (fun q _ => q = 90) B R) (fun r t hr ⟨⟨hs0, hs1⟩, hs2, hs3⟩ => by
    obtain ⟨t1, t2⟩ := t
    have hq1 : t1 = nI r := hs1
    have hq2 : ∀ x, 1 ≤ x → x < r → t2.1 90 x = nI (ww a W x) := hs2
    have hq3 : Fr (fun q _ => q = 90) B t2 := hs3
    clear hs1 hs2 hs3
    subst hq1
    have hC2 := s87_co hC (fr_trans fB (fr_mono hq3 (fun q k hh => Or.inr (by omega))))
    have hS2 := hC2.1
    refine Or.inl ⟨(nI (r + 1), wI t2 90 r (nI (ww a W r))), ?_, ⟨by omega, rfl⟩, fun x a1 a2 => ?_, fr_put hq3 rfl⟩
    · show f_X10_begin_B98 t2 87 o (nI W) (nI r) = _
      unfold f_X10_begin_B98
      rw [if_neg (show ¬ 3 < nI r from nI_nlt (a := 3) (by omega) (by omega)), w_r3 hS2, bb_some, ob_at (co_shp hC2), bb_some, c_faded hC2, bb_some, fade_at hW h4 (by omega) (by omega), sI_at (w_sh hS2).2.2.2.1 (by omega) (by omega), nar0, bb_some, nI_1]
      rfl
    · show (wI t2 90 r _).1 90 x = _
      rw [wI_rd]
      by_cases e : x = r
      · subst e; rw [if_pos ⟨rfl, rfl⟩]
      · rw [if_neg (by omega)]; exact hq2 x a1 (by omega)) (fun t ⟨⟨hs0, hs1⟩, hs2, hs3⟩ => by
    obtain ⟨t1, t2⟩ := t
    have hq1 : t1 = nI 4 := hs1
    subst hq1
    exact ⟨t2, by show f_X10_begin_B98 t2 87 o (nI W) (nI 4) = _; rw [f_X10_begin_B98, if_pos (by decide)], hs2, hs3⟩) 1048576 1 (1, B) (by omega) ⟨⟨by omega, rfl⟩, fun x a1 a2 => absurd a2 (by omega), fr_refl⟩ (by omega)
  have eD : f_X10_begin_L98 B 87 o (nI W) 1 = some D := eD
  have fD : Fr S87 M D := fr_trans fB (fr_mono fBD (fun q k hh => Or.inr (by omega)))
  have hSD := fr_sk fD hS
  generalize hP : min (cb (el a d) (a 0)) K = P at hB1 hB2
  have hP7 : P ≤ 7 := by omega
  have hG : GCl D P (gq a d) (cq a d) (ww a W) := by
    refine ⟨⟨hSD, hP7, by rw [fBD.2 87 0 (by omega)]; exact hB1⟩, fun j hj => ?_, fun r h1 h3 => ⟨hD r h1 (by omega), by unfold ww; omega⟩⟩
    have hq := qq_ok (a := a) (d := d) (k := j) (by omega)
    have hb := hB2 j hj
    rw [fBD.2 88 j (by omega), fBD.2 89 j (by omega)]
    exact ⟨⟨hb.1, gp_30 hO hd hq.1⟩, hb.2, (hO.2.1 _ hq.1).2.2.2.1⟩
  obtain ⟨E, eE, hE, fE⟩ := c_find2 hG
  refine ⟨E, ?_, ⟨fr_sk fE hSD, ?_, hE.1, hE.2.1⟩, hE.2.2, fr_trans fD (s9_87 fE)⟩
  · unfold f_X10_begin
    rw [pI_at (w_sh hS).1, bb_some]
    show ((f_X10_begin_L8 A 87 o (nI d) (nI W) (nI K) 0).bind fun r2 => _) = _
    rw [eB, bb_some, eD, bb_some, w_ob hSD, bb_some, eE, bb_some]
  · exact (gc_fr hG fE).1.2.2
