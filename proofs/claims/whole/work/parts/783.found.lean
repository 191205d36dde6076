/-! the sets that fit: the class -/
/-- they lie in a row: all but what a try of a desk changes -/
def FS (M : Mem) (a : Nat → Nat) (b : Nat → Int32) (p : Nat → Bool) (l : Nat) : Prop := GX M a ∧ CL M l b ∧ M.1 92 0 = nI (cb p (2 ^ a 0)) ∧ ∀ x, x < 2 ^ a 0 → p x = true → M.1 93 (cb p x) = nI x
def SY : Nat → Nat → Prop := fun q k => (q = 92 ∧ k = 0) ∨ (93 ≤ q ∧ q ≤ 106)
def SZ : Nat → Nat → Prop := fun q _ => q = 95 ∨ q = 105 ∨ q = 106
theorem sy_q {M M' : Mem} (h : Fr SY M M') : Qf M M' := fr_q h (fun q k hh => by unfold SY at hh; unfold zT; omega)
theorem sz_sy {M M' : Mem} (h : Fr SZ M M') : Fr SY M M' := fr_mono h (fun q k hh => by unfold SZ at hh; unfold SY; omega)
theorem sl_sz {M M' : Mem} (h : Fr (SL 105) M M') : Fr SZ M M' := fr_mono h (fun q k hh => by have := hh.1; unfold SZ; omega)
theorem s95_sz {M M' : Mem} (h : Fr S95 M M') : Fr SZ M M' := fr_mono h (fun q k hh => by unfold S95 at hh; unfold SZ; omega)
theorem gx_fr {M M' : Mem} {a : Nat → Nat} (hG : GX M a) (hF : Fr (fun q _ => q < 94 ∨ 104 < q) M M') : GX M' a := by
  obtain ⟨hS, a', ha, hC⟩ := hG
  exact ⟨fr_sk hF hS, a', ha, oc_cong (fun n k h1 h2 => hF.2 n k (by omega)) hC⟩
theorem cp_gx {M : Mem} {o : Nat} {a : Nat → Nat} (hC : CO M o a) (hO : OkO a) (ho : o = 8 ∨ o = 26) : ∃ M', f_X5_copyFrom M 94 o = some M' ∧ GX M' a ∧ Fr SY M M' := by
  have e := cp_o hC.1 (o := o) (o' := 94) (by rcases ho with rfl | rfl <;> decide) (by decide) (by omega)
  refine ⟨cpM LO M o 94 11 0, e, ⟨hC.1, a, fun _ _ => rfl, ?_⟩, rfl, fun n k h => ?_⟩
  · exact oc_move hO (fun q hq k hk => cpM_in hq hk) hC.2.2
  · exact cpM_out (by unfold SY at h; omega) k
theorem c_find {M : Mem} {o l n : Nat} {a : Nat → Nat} {b : Nat → Int32} (hC : CO M o a) (hO : OkO a) (ho : o = 8 ∨ o = 26) (hL : CL M l b) (hb : OL b n) (hT : LTh a b n) : ∃ M', f_X8_find M 92 o l = some M' ∧ FS M' a b (agr a b n) l ∧ Fr SY M M' := by
  have h8 := hO.1.1
  have p8 := pw8 h8
  have pp := Nat.two_pow_pos (a 0)
  have hll := hL.2.1
  obtain ⟨A, eA, hA, fA⟩ := cp_gx hC hO ho
  have hSA := fr_sk fA hC.1
  have fB : Fr SY M (wI A 92 0 0) := fr_put fA (Or.inl ⟨rfl, rfl⟩)
  have sco : ∀ M', Fr SY M M' → CO M' o a := fun M' h => co_fr hC h (fun q k hh => by unfold SY at hh; omega)
  have scl : ∀ M', Fr SY M M' → CL M' l b := fun M' h => cl_fr hL h (fun q k hh => by unfold SY at hh; omega)
  have hGB : GX (wI A 92 0 0) a := gx_fr hA (fr_wI (by omega))
  obtain ⟨D, eD, hD, fD⟩ := iter_rel (f := fun s : Int32 × Mem => f_X8_find_B15 s.2 92 o l s.1) (2 ^ a 0) (fun i s => s.1 = nI i ∧ (GX s.2 a ∧ s.2.1 92 0 = nI (cb (agr a b n) i) ∧ ∀ x, x < i → agr a b n x = true → s.2.1 93 (cb (agr a b n) x) = nI x) ∧ Fr SY M s.2) (fun r => FS r a b (agr a b n) l ∧ Fr SY M r) (fun i s hi ⟨hs1, ⟨hs2, hs3, hs5⟩, hs4⟩ => by
    obtain ⟨s1, s2⟩ := s
    have hs1 : s1 = nI i := hs1
    subst hs1
    have hs2 : GX s2 a := hs2
    have hs3 : s2.1 92 0 = nI (cb (agr a b n) i) := hs3
    have hs5 : ∀ x, x < i → agr a b n x = true → s2.1 93 (cb (agr a b n) x) = nI x := hs5
    have hs4 : Fr SY M s2 := hs4
    have hS2 := fr_sk hs4 hC.1
    have hCo := sco s2 hs4
    obtain ⟨E, eE, hE, fE⟩ := c_sup hs2 hO (show i < 2 ^ 31 by omega)
    have fE' := fr_trans hs4 (sz_sy (s95_sz fE))
    have hSE := fr_sk fE' hC.1
    obtain ⟨G, eG, fG⟩ := c_agrees hE hO (scl E fE') hb hT
    have fG' := fr_trans fE' (sz_sy (sl_sz fG))
    have hSG := fr_sk fG' hC.1
    have gx : GX G a := co_gx (sl_co (by decide) hE fG)
    have r92 : G.1 92 0 = nI (cb (agr a b n) i) := by
      rw [fG.2 92 0 (by unfold SL; omega), fE.2 92 0 (by unfold S95; omega)]; exact hs3
    have r93 : ∀ x, x < i → agr a b n x = true → G.1 93 (cb (agr a b n) x) = nI x := fun x hx hp => by
      rw [fG.2 93 _ (by unfold SL; omega), fE.2 93 _ (by unfold S95; omega)]; exact hs5 x hx hp
    have cl := cb_le (agr a b n) i
    have cn := cb_st (agr a b n) i
    show (∃ s' : Int32 × Mem, f_X8_find_B15 s2 92 o l (nI i) = some (.inl s') ∧ _) ∨ _
    unfold f_X8_find_B15
    rw [ob_at (co_shp hCo), bb_some, c_every hCo hO, bb_some, if_neg (nI_nlt (by omega) (by omega)), su_ob hS2, bb_some, eE, bb_some, su_ob hSE, bb_some, eG, bb_some]
    by_cases h : agr a b n i = true
    · rw [if_pos h] at cn
      rw [show bI (agr a b n i) = 1 by rw [h]; rfl, if_neg (show ¬ (1 : Int32) = 0 by decide)]
      show (∃ s' : Int32 × Mem, ((gR G 8 92 1).bind fun v6 => (gI G 8 92 0).bind fun v7 => (sI G 0 v6 v7 (nI i)).bind fun M8 => (gI M8 8 92 0).bind fun v9 => (pI M8 8 92 0 (v9 + 1)).bind fun M10 => some (Sum.inl (nI i + 1, M10))) = some (.inl s') ∧ _) ∨ _
      let G1 := wI G 93 (cb (agr a b n) i) (nI i)
      let G2 := wI G1 92 0 (nI (cb (agr a b n) i + 1))
      have hS1 : Sk G1 := hSG
      have g1 : gI G1 8 92 0 = some (nI (cb (agr a b n) i)) := by rw [gI_at (su_sh hS1).1, wI_rd, if_neg (by omega), r92]
      have f1 : Fr (fun q _ => q < 94 ∨ 104 < q) G G2 := fr_put (fr_wI (by omega)) (by omega)
      refine Or.inl ⟨(nI (i + 1), G2), ?_, rfl, ⟨gx_fr gx f1, ?_, fun x hx hp => ?_⟩, fr_put (fr_put fG' (Or.inr (by omega))) (Or.inl ⟨rfl, rfl⟩)⟩
      · rw [su_r1 hSG, bb_some, gI_at (su_sh hSG).1, bb_some, r92, sI_at (su_sh hSG).2.1 (by omega) (by omega), nar0, bb_some]
        show ((gI G1 8 92 0).bind fun v9 => (pI G1 8 92 0 (v9 + 1)).bind fun M10 => some (Sum.inl (nI i + 1, M10))) = _
        rw [g1, bb_some, nI_1, pI_at (su_sh hS1).1, bb_some, nI_1]
      · rw [cn]; exact wI_same _ _ _ _
      · show (wI (wI G 93 _ _) 92 0 _).1 93 _ = _
        rw [wI_rd, if_neg (by omega), wI_rd]
        by_cases e : x = i
        · subst e; rw [if_pos ⟨rfl, rfl⟩]
        · have c1 : cb (agr a b n) (x + 1) = cb (agr a b n) x + 1 := by rw [cb_st, if_pos hp]
          have c2 := cb_mo (agr a b n) (show x + 1 ≤ i by omega)
          rw [if_neg (by omega)]; exact r93 x (by omega) hp
    · rw [if_neg h] at cn
      rw [show bI (agr a b n i) = 0 by rw [show agr a b n i = false by simpa using h]; rfl, if_pos rfl, nI_1]
      refine Or.inl ⟨_, rfl, rfl, ⟨gx, by rw [cn]; exact r92, fun x hx hp => ?_⟩, fG'⟩
      by_cases e : x = i
      · subst e; exact absurd hp h
      · exact r93 x (by omega) hp) (fun s ⟨hs1, ⟨hs2, hs3, hs5⟩, hs4⟩ => by
    obtain ⟨s1, s2⟩ := s
    have hs1 : s1 = nI (2 ^ a 0) := hs1
    subst hs1
    have hs4 : Fr SY M s2 := hs4
    refine ⟨s2, ?_, ⟨hs2, scl s2 hs4, hs3, hs5⟩, hs4⟩
    show f_X8_find_B15 s2 92 o l (nI (2 ^ a 0)) = _
    unfold f_X8_find_B15
    rw [ob_at (co_shp (sco s2 hs4)), bb_some, c_every (sco s2 hs4) hO, bb_some, if_pos (nI_lt (by omega) (by omega))]) 1048576 0 (0, wI A 92 0 0) (by omega) ⟨rfl, ⟨hGB, wI_same _ _ _ _, fun x hx => absurd hx (by omega)⟩, fB⟩ (by omega)
  have eD : f_X8_find_L15 (wI A 92 0 0) 92 o l 0 = some D := eD
  refine ⟨D, ?_, hD, fD⟩
  unfold f_X8_find
  rw [su_r2 hC.1, bb_some, ob_at (su_sh hC.1).2.2.1, bb_some, eA, bb_some, pI_at (su_sh hSA).1, bb_some, eD, bb_some]
section
variable {M : Mem} {a : Nat → Nat} {b : Nat → Int32} {p : Nat → Bool} {l : Nat}
theorem fs_sk (h : FS M a b p l) : Sk M := h.1.1
theorem fs_g (h : FS M a b p l) : gI M 8 92 0 = some (nI (cb p (2 ^ a 0))) := by rw [gI_at (su_sh h.1.1).1, h.2.2.1]
theorem fs_a (hO : OkO a) (h : FS M a b p l) {x : Nat} (hx : x < 2 ^ a 0) (hp : p x = true) : aI M 0 93 (nI (cb p x)) = some (nI x) := by
  have p8 := pw8 hO.1.1
  have := cb_le p x
  rw [aI_at (su_sh h.1.1).2.1 (by omega) (by omega) (by omega), h.2.2.2 x hx hp]
theorem fs_ev (hO : OkO a) (h : FS M a b p l) : f_X5_everybody M 94 = some (nI (2 ^ a 0 - 1)) := by
  have h8 := hO.1.1
  obtain ⟨hS, a', ha, hC⟩ := h.1
  have g0 : gI M 5 94 0 = some (nI (a 0)) := by rw [gI_at (su_sh hS).2.2.1, hC.1 0 (by omega), ha 0 (by omega)]
  simp [f_X5_everybody, g0, all_sl (show a 0 < 31 by omega)]
theorem fs_g0 (h : FS M a b p l) : gI M 5 94 0 = some (nI (a 0)) := by
  obtain ⟨hS, a', ha, hC⟩ := h.1
  rw [gI_at (su_sh hS).2.2.1, hC.1 0 (by omega), ha 0 (by omega)]
theorem fs_fr {M' : Mem} (h : FS M a b p l) (hG : GX M' a) (hF : Fr SZ M M') : FS M' a b p l := by
  have hl := h.2.1.2.1
  exact ⟨hG, cl_fr h.2.1 hF (fun q k hh => by unfold SZ at hh; omega), by rw [hF.2 92 0 (by unfold SZ; omega)]; exact h.2.2.1, fun x hx hp => by rw [hF.2 93 _ (by unfold SZ; omega)]; exact h.2.2.2 x hx hp⟩
end
theorem N_lt {a : Nat → Nat} (hO : OkO a) : 2 ^ a 0 < 1048576 := by have := pw8 hO.1.1; omega
def anf (c x : Nat) (v : Int32) : Int32 := if c = 0 then v &&& nI x else v &&& (nI x ^^^ -1)
theorem c_inAll {M : Mem} {a : Nat → Nat} {b : Nat → Int32} {p : Nat → Bool} {l : Nat} (hO : OkO a) (h : FS M a b p l) : f_X8_inAll M 92 = some (ff p (anf 0) (2 ^ a 0) (nI (2 ^ a 0 - 1))) := by
  have p8 := pw8 hO.1.1
  have cl := cb_le p (2 ^ a 0)
  obtain ⟨r, e, hr⟩ := iter_row (f := fun s : Int32 × Int32 => f_X8_inAll_B10 M 92 s.1 s.2) p (2 ^ a 0) (anf 0) (fun j v s => s.1 = v ∧ s.2 = nI j) (fun v r => r = v) (nI (2 ^ a 0 - 1)) (N_lt hO) (fun x v s hx hp hc ⟨hs1, hs2⟩ => by
    obtain ⟨s1, s2⟩ := s
    have hs1 : s1 = v := hs1
    have hs2 : s2 = nI (cb p x) := hs2
    subst hs1 hs2
    refine ⟨(anf 0 x s1, nI (cb p x + 1)), ?_, rfl, rfl⟩
    show f_X8_inAll_B10 M 92 s1 (nI (cb p x)) = _
    unfold f_X8_inAll_B10 anf
    rw [fs_g h, bb_some, if_neg (nI_ge hc (by omega)), su_r1 (fs_sk h), bb_some, fs_a hO h hx hp, bb_some, nI_1, if_pos rfl]) (fun v s ⟨hs1, hs2⟩ => by
    obtain ⟨s1, s2⟩ := s
    have hs1 : s1 = v := hs1
    have hs2 : s2 = nI (cb p (2 ^ a 0)) := hs2
    subst hs1 hs2
    exact ⟨s1, by simp [f_X8_inAll_B10, fs_g h], rfl⟩) (nI (2 ^ a 0 - 1), 0) ⟨rfl, rfl⟩
  have e : f_X8_inAll_L10 M 92 (nI (2 ^ a 0 - 1)) 0 = some r := e
  rw [f_X8_inAll, su_r2 (fs_sk h), bb_some, ob_at (su_sh (fs_sk h)).2.2.1, bb_some, fs_ev hO h, bb_some, e, bb_some, hr]
theorem c_inNone {M : Mem} {a : Nat → Nat} {b : Nat → Int32} {p : Nat → Bool} {l : Nat} (hO : OkO a) (h : FS M a b p l) : f_X8_inNone M 92 = some (ff p (anf 1) (2 ^ a 0) (nI (2 ^ a 0 - 1))) := by
  have p8 := pw8 hO.1.1
  have cl := cb_le p (2 ^ a 0)
  obtain ⟨r, e, hr⟩ := iter_row (f := fun s : Int32 × Int32 => f_X8_inNone_B10 M 92 s.1 s.2) p (2 ^ a 0) (anf 1) (fun j v s => s.1 = v ∧ s.2 = nI j) (fun v r => r = v) (nI (2 ^ a 0 - 1)) (N_lt hO) (fun x v s hx hp hc ⟨hs1, hs2⟩ => by
    obtain ⟨s1, s2⟩ := s
    have hs1 : s1 = v := hs1
    have hs2 : s2 = nI (cb p x) := hs2
    subst hs1 hs2
    refine ⟨(anf 1 x s1, nI (cb p x + 1)), ?_, rfl, rfl⟩
    show f_X8_inNone_B10 M 92 s1 (nI (cb p x)) = _
    unfold f_X8_inNone_B10 anf
    rw [fs_g h, bb_some, if_neg (nI_ge hc (by omega)), su_r1 (fs_sk h), bb_some, fs_a hO h hx hp, bb_some, nI_1, if_neg (show ¬ 1 = 0 by omega)]) (fun v s ⟨hs1, hs2⟩ => by
    obtain ⟨s1, s2⟩ := s
    have hs1 : s1 = v := hs1
    have hs2 : s2 = nI (cb p (2 ^ a 0)) := hs2
    subst hs1 hs2
    exact ⟨s1, by simp [f_X8_inNone_B10, fs_g h], rfl⟩) (nI (2 ^ a 0 - 1), 0) ⟨rfl, rfl⟩
  have e : f_X8_inNone_L10 M 92 (nI (2 ^ a 0 - 1)) 0 = some r := e
  rw [f_X8_inNone, su_r2 (fs_sk h), bb_some, ob_at (su_sh (fs_sk h)).2.2.1, bb_some, fs_ev hO h, bb_some, e, bb_some, hr]
/-- the smallest -/
def smf (x : Nat) (v : Option Nat) : Option Nat := match v with
  | none => some x
  | some y => if pc y ≤ pc x then some y else some x
def oI : Option Nat → Int32
  | none => -1
  | some y => nI y
theorem smf_lt {p : Nat → Bool} {N : Nat} : ∀ n, n ≤ N → ∀ y, ff p smf n none = some y → y < N := by
  intro n
  induction n with
  | zero => intro _ y h; cases h
  | succ n ih =>
    intro hn y h
    rw [ff_st] at h
    split at h
    · cases e : ff p smf n none with
      | none => rw [e] at h; cases h; omega
      | some z =>
        rw [e] at h
        have h : (if pc z ≤ pc n then some z else some n) = some y := h
        split at h
        · cases h; exact ih (by omega) _ e
        · cases h; omega
    · exact ih (by omega) y h
theorem c_sm0 {M : Mem} {a : Nat → Nat} {b : Nat → Int32} {p : Nat → Bool} {l x : Nat} (hO : OkO a) (h : FS M a b p l) (hx : x < 2 ^ a 0) (hp : p x = true) (hc : cb p x < cb p (2 ^ a 0)) : f_X8_smallest_B4 M 92 (-1) (nI (cb p x)) = some (.inl (nI x, nI (cb p x + 1))) := by
  have p8 := pw8 hO.1.1
  have cl := cb_le p (2 ^ a 0)
  unfold f_X8_smallest_B4 f_X8_smallest_J33
  rw [fs_g h, bb_some, if_neg (nI_ge hc (by omega)), if_pos rfl, su_r1 (fs_sk h), bb_some, fs_a hO h hx hp, bb_some, nI_1]
theorem c_sm1 {M : Mem} {a : Nat → Nat} {b : Nat → Int32} {p : Nat → Bool} {l x y : Nat} (hO : OkO a) (h : FS M a b p l) (hx : x < 2 ^ a 0) (hp : p x = true) (hc : cb p x < cb p (2 ^ a 0)) (hy : y < 2 ^ a 0) : f_X8_smallest_B4 M 92 (nI y) (nI (cb p x)) = some (.inl (nI (if pc y ≤ pc x then y else x), nI (cb p x + 1))) := by
  have p8 := pw8 hO.1.1
  have cl := cb_le p (2 ^ a 0)
  have b1 : pc y ≤ 10 := pc_10 y
  have b2 : pc x ≤ 10 := pc_10 x
  unfold f_X8_smallest_B4 f_X8_smallest_J33
  rw [fs_g h, bb_some, if_neg (nI_ge hc (by omega)), if_neg (nI_nm1 (by omega)), su_r1 (fs_sk h), bb_some, fs_a hO h hx hp, bb_some, pc_at M x (by omega), bb_some, pc_at M y (by omega), bb_some, bb_some, fs_a hO h hx hp, bb_some, nI_1]
  by_cases hle : pc y ≤ pc x
  · rw [if_pos (nI_le hle (by omega)), if_pos hle]
  · rw [if_neg (nI_ge (by omega) (by omega)), if_neg hle]
def smI (N : Nat) (v : Option Nat) (s : Int32) : Prop := (v = none ∧ s = -1) ∨ ∃ y, v = some y ∧ s = nI y ∧ y < N
theorem smI_o {N : Nat} {v : Option Nat} {s : Int32} (h : smI N v s) : s = oI v := by
  rcases h with ⟨rfl, rfl⟩ | ⟨y, rfl, rfl, _⟩
  · rfl
  · rfl
theorem c_small {M : Mem} {a : Nat → Nat} {b : Nat → Int32} {p : Nat → Bool} {l : Nat} (hO : OkO a) (h : FS M a b p l) : f_X8_smallest M 92 = some (oI (ff p smf (2 ^ a 0) none)) := by
  obtain ⟨r, e, hr⟩ := iter_row (f := fun s : Int32 × Int32 => f_X8_smallest_B4 M 92 s.1 s.2) p (2 ^ a 0) smf (fun j v s => smI (2 ^ a 0) v s.1 ∧ s.2 = nI j) (fun v r => smI (2 ^ a 0) v r) none (N_lt hO) (fun x v s hx hp hc ⟨hs1, hs2⟩ => by
    obtain ⟨s1, s2⟩ := s
    have hq2 : s2 = nI (cb p x) := hs2
    have hq1 : smI (2 ^ a 0) v s1 := hs1
    clear hs1 hs2
    subst hq2
    rcases hq1 with ⟨e1, e2⟩ | ⟨y, e1, e2, e3⟩
    · subst e1 e2
      exact ⟨(nI x, nI (cb p x + 1)), c_sm0 hO h hx hp hc, Or.inr ⟨x, rfl, rfl, hx⟩, rfl⟩
    · subst e1 e2
      refine ⟨(nI (if pc y ≤ pc x then y else x), nI (cb p x + 1)), c_sm1 hO h hx hp hc e3, Or.inr ⟨if pc y ≤ pc x then y else x, ?_, rfl, by split <;> assumption⟩, rfl⟩
      show (if pc y ≤ pc x then some y else some x) = some (if pc y ≤ pc x then y else x)
      split <;> rfl) (fun v s ⟨hs1, hs2⟩ => by
    obtain ⟨s1, s2⟩ := s
    have hq2 : s2 = nI (cb p (2 ^ a 0)) := hs2
    have hq1 : smI (2 ^ a 0) v s1 := hs1
    clear hs1 hs2
    subst hq2
    refine ⟨s1, ?_, hq1⟩
    have cl := cb_le p (2 ^ a 0)
    have p8 := pw8 hO.1.1
    show f_X8_smallest_B4 M 92 s1 (nI (cb p (2 ^ a 0))) = _
    rw [f_X8_smallest_B4, fs_g h, bb_some, if_pos (nI_le (Nat.le_refl _) (by omega))]) (-1, 0) ⟨Or.inl ⟨rfl, rfl⟩, rfl⟩
  have e : f_X8_smallest_L4 M 92 (-1) 0 = some r := e
  rw [f_X8_smallest, e, bb_some, smI_o hr]
/-- how many lift alike -/
def wh (a : Nat → Nat) (d x : Nat) : Nat := match LF a x d with
  | none => 8
  | some (w, _, _) => w
theorem wh_lt {a : Nat → Nat} {d x : Nat} (hO : OkO a) (hd : d < a 0) : wh a d x < 9 := by
  have h8 := hO.1.1
  have lk := LF_ok (m := x) hO hd
  unfold wh
  cases e : LF a x d with
  | none => show 8 < 9; omega
  | some t => obtain ⟨w, r, t⟩ := t; rw [e] at lk; have := lk.1; show w < 9; omega
def taf (a : Nat → Nat) (d x : Nat) (t : Nat → Nat) : Nat → Nat := up t (wh a d x) (t (wh a d x) + 1)
def mx9 (t : Nat → Nat) : Nat := fo (fun s v => if v < t s then t s else v) 9 0
theorem mx_sp (t : Nat → Nat) : ∀ n, (∀ s, s < n → t s ≤ fo (fun s v => if v < t s then t s else v) n 0) ∧ (fo (fun s v => if v < t s then t s else v) n 0 = 0 ∨ ∃ s, s < n ∧ t s = fo (fun s v => if v < t s then t s else v) n 0) := by
  intro n
  induction n with
  | zero => exact ⟨fun s hs => absurd hs (by omega), Or.inl rfl⟩
  | succ n ih =>
    obtain ⟨h1, h2⟩ := ih
    show (∀ s, s < n + 1 → t s ≤ (if fo (fun s v => if v < t s then t s else v) n 0 < t n then t n else fo (fun s v => if v < t s then t s else v) n 0)) ∧ ((if fo (fun s v => if v < t s then t s else v) n 0 < t n then t n else fo (fun s v => if v < t s then t s else v) n 0) = 0 ∨ ∃ s, s < n + 1 ∧ t s = (if fo (fun s v => if v < t s then t s else v) n 0 < t n then t n else fo (fun s v => if v < t s then t s else v) n 0))
    generalize fo (fun s v => if v < t s then t s else v) n 0 = w at h1 h2
    by_cases h : w < t n
    · rw [if_pos h]
      refine ⟨fun s hs => ?_, Or.inr ⟨n, by omega, rfl⟩⟩
      by_cases e : s = n
      · rw [e]; exact Nat.le_refl _
      · have := h1 s (by omega); omega
    · rw [if_neg h]
      refine ⟨fun s hs => ?_, ?_⟩
      · by_cases e : s = n
        · rw [e]; omega
        · exact h1 s (by omega)
      · rcases h2 with h2 | ⟨s, hs, h2⟩
        · exact Or.inl h2
        · exact Or.inr ⟨s, by omega, h2⟩
theorem mx_up {t : Nat → Nat} {q : Nat} (hq : q < 9) : mx9 (up t q (t q + 1)) = if mx9 t < t q + 1 then t q + 1 else mx9 t := by
  obtain ⟨h1, h2⟩ := mx_sp t 9
  obtain ⟨g1, g2⟩ := mx_sp (up t q (t q + 1)) 9
  have h1 : ∀ s, s < 9 → t s ≤ mx9 t := h1
  have h2 : mx9 t = 0 ∨ ∃ s, s < 9 ∧ t s = mx9 t := h2
  have g1 : ∀ s, s < 9 → up t q (t q + 1) s ≤ mx9 (up t q (t q + 1)) := g1
  have g2 : mx9 (up t q (t q + 1)) = 0 ∨ ∃ s, s < 9 ∧ up t q (t q + 1) s = mx9 (up t q (t q + 1)) := g2
  generalize mx9 (up t q (t q + 1)) = w at g1 g2
  generalize mx9 t = v at h1 h2
  have k1 := g1 q hq
  rw [up_s] at k1
  have k2 : v ≤ w := by
    rcases h2 with h2 | ⟨s, hs, h2⟩
    · omega
    · have := g1 s hs
      by_cases e : s = q
      · subst e; rw [up_s] at this; omega
      · rw [up_n _ _ e] at this; omega
  have k3 : w = t q + 1 ∨ w ≤ v := by
    rcases g2 with g2 | ⟨s, hs, g2⟩
    · omega
    · by_cases e : s = q
      · subst e; rw [up_s] at g2; exact Or.inl g2.symm
      · rw [up_n _ _ e] at g2; have := h1 s hs; exact Or.inr (by omega)
  split <;> omega
def tal (a : Nat → Nat) (p : Nat → Bool) (d : Nat) : Nat → Nat := ff p (taf a d) (2 ^ a 0) (fun _ => 0)
theorem c_alike {M : Mem} {a : Nat → Nat} {b : Nat → Int32} {p : Nat → Bool} {l d : Nat} (hO : OkO a) (h : FS M a b p l) (hd : d < a 0) : ∃ M', f_X8_mostAlike M 92 (nI d) = some (nI (mx9 (tal a p d)), M') ∧ FS M' a b p l ∧ Fr SZ M M' := by
  have h8 := hO.1.1
  have p8 := pw8 h8
  have cl := cb_le p (2 ^ a 0)
  obtain ⟨A, eA, hA, fA⟩ := iter_rel (f := fun s : Int32 × Mem => f_X8_mostAlike_B2 s.2 92 (nI d) s.1) 9 (fun i s => s.1 = nI i ∧ (∀ j, j < i → s.2.1 106 j = nI 0) ∧ Fr (fun q _ => q = 106) M s.2) (fun r => (∀ j, j < 9 → r.1 106 j = nI 0) ∧ Fr (fun q _ => q = 106) M r) (fun i s hi ⟨hs1, hs3, hs4⟩ => by
    obtain ⟨s1, s2⟩ := s
    have hs1 : s1 = nI i := hs1
    subst hs1
    have hs3 : ∀ j, j < i → s2.1 106 j = nI 0 := hs3
    have hs4 : Fr (fun q _ => q = 106) M s2 := hs4
    have hS2 := fr_sk hs4 (fs_sk h)
    refine Or.inl ⟨(nI (i + 1), wI s2 106 i (nI 0)), ?_, rfl, fun j hj => ?_, fr_put hs4 rfl⟩
    · show f_X8_mostAlike_B2 s2 92 (nI d) (nI i) = _
      unfold f_X8_mostAlike_B2
      rw [if_neg (show ¬ 8 < nI i from nI_nlt (a := 8) (by omega) (by omega)), su_r4 hS2, bb_some, sI_at (su_sh hS2).2.2.2.2 (by omega) (by omega), nar0, bb_some, nI_1, nI_0]
    · show (wI s2 106 i _).1 106 j = _
      rw [wI_rd]
      by_cases e : j = i
      · subst e; rw [if_pos ⟨rfl, rfl⟩]
      · rw [if_neg (by omega)]; exact hs3 j (by omega)) (fun s ⟨hs1, hs3, hs4⟩ => by
    obtain ⟨s1, s2⟩ := s
    have hs1 : s1 = nI 9 := hs1
    subst hs1
    exact ⟨s2, by show f_X8_mostAlike_B2 s2 92 (nI d) (nI 9) = _; rw [f_X8_mostAlike_B2, if_pos (by decide)], hs3, hs4⟩) 1048576 0 (0, M) (by omega) ⟨rfl, fun j hj => absurd hj (by omega), fr_refl⟩ (by omega)
  have eA : f_X8_mostAlike_L2 M 92 (nI d) 0 = some A := eA
  have fA' : Fr SZ M A := fr_mono fA (fun q k hh => Or.inr (Or.inr hh))
  have hFA : FS A a b p l := fs_fr h (gx_fr h.1 (fr_mono fA (fun q k hh => by omega))) fA'
  obtain ⟨R, e, h1, h2, h3⟩ := iter_row (f := fun s : Int32 × Int32 × Mem => f_X8_mostAlike_B25 s.2.2 92 (nI d) s.1 s.2.1) p (2 ^ a 0) (taf a d) (fun j t s => (s.1 = nI (mx9 t) ∧ s.2.1 = nI j) ∧ (∀ q, q < 9 → s.2.2.1 106 q = nI (t q) ∧ t q ≤ j) ∧ FS s.2.2 a b p l ∧ Fr SZ M s.2.2) (fun t r => r.1 = nI (mx9 t) ∧ FS r.2 a b p l ∧ Fr SZ M r.2) (fun _ => 0) (N_lt hO) (fun x t s hx hp hc ⟨⟨hs1, hs2⟩, hs3, hs4, hs5⟩ => by
    obtain ⟨s1, s2, s3⟩ := s
    have hs1 : s1 = nI (mx9 t) := hs1
    have hs2 : s2 = nI (cb p x) := hs2
    subst hs1 hs2
    have hs3 : ∀ q, q < 9 → s3.1 106 q = nI (t q) ∧ t q ≤ cb p x := hs3
    have hs4 : FS s3 a b p l := hs4
    have hs5 : Fr SZ M s3 := hs5
    have hS3 := fs_sk hs4
    obtain ⟨E, eE, hE, fE⟩ := c_sup hs4.1 hO (show x < 2 ^ 31 by omega)
    have hSE := hE.1
    have hli : 105 ∈ liL := by decide
    have hCo := c_others hE (df_ok a x hO) (d := d) (by rw [df_0]; exact hd)
    rw [df_0] at hCo
    obtain ⟨G, eG, lG, fG⟩ := LF_m hli hE hO hd
    have hSG := fr_sk fG hSE
    have fEG : Fr SZ s3 G := fr_trans (s95_sz fE) (sl_sz fG)
    have hFG : FS G a b p l := fs_fr hs4 (co_gx (sl_co hli hE fG)) fEG
    have g106 : ∀ q, q < 9 → G.1 106 q = nI (t q) := fun q hq => by
      rw [fG.2 106 q (by unfold SL; omega), fE.2 106 q (by unfold S95; omega)]; exact (hs3 q hq).1
    have hw := wh_lt (x := x) hO hd
    have mb : mx9 t ≤ cb p x := by
      obtain ⟨_, m2⟩ := mx_sp t 9
      have m2 : mx9 t = 0 ∨ ∃ s, s < 9 ∧ t s = mx9 t := m2
      rcases m2 with m2 | ⟨q, hq, m2⟩
      · omega
      · have := (hs3 q hq).2; omega
    let H := wI G 106 (wh a d x) (nI (t (wh a d x) + 1))
    have hSH : Sk H := hSG
    have fH : Fr SZ G H := fr_wI (Or.inr (Or.inr rfl))
    have J : f_X8_mostAlike_J89 G 92 (nI d) (nI (mx9 t)) (nI (cb p x)) (nI (wh a d x)) = some (.inl (nI (mx9 (taf a d x t)), nI (cb p x + 1), H)) := by
      have tb := (hs3 _ hw).2
      unfold f_X8_mostAlike_J89
      rw [su_r4 hSG, bb_some, aI_at (su_sh hSG).2.2.2.2 hw (by omega) (by omega), g106 _ hw, bb_some, nI_1, sI_at (su_sh hSG).2.2.2.2 hw (by omega), nar0, bb_some]
      show ((gR H 8 92 4).bind fun v4 => (aI H 0 v4 (nI (wh a d x))).bind fun v5 => some (Sum.inl (imax (nI (mx9 t)) v5, nI (cb p x) + 1, H))) = _
      rw [su_r4 hSH, bb_some, aI_at (su_sh hSH).2.2.2.2 hw (by omega) (by omega), wI_same, bb_some, nI_1]
      unfold taf imax
      rw [mx_up hw]
      by_cases hlt : mx9 t < t (wh a d x) + 1
      · rw [if_pos (nI_lt hlt (by omega)), if_pos hlt]
      · rw [if_neg (nI_nlt (by omega) (by omega)), if_neg hlt]
    refine ⟨(nI (mx9 (taf a d x t)), nI (cb p x + 1), H), ?_, ⟨rfl, rfl⟩, fun q hq => ?_, fs_fr hFG (gx_fr hFG.1 (fr_wI (by omega))) fH, fr_trans hs5 (fr_trans fEG fH)⟩
    · show f_X8_mostAlike_B25 s3 92 (nI d) (nI (mx9 t)) (nI (cb p x)) = _
      unfold f_X8_mostAlike_B25
      rw [fs_g hs4, bb_some, if_neg (nI_ge hc (by omega)), su_r1 hS3, bb_some, fs_a hO hs4 hx hp, bb_some, su_ob hS3, bb_some, eE, bb_some, su_r3 hSE, bb_some, su_r2 hSE, bb_some, bb_some, ob_at (co_shp hE), bb_some, hCo, bb_some, ob_at (li_shp hSE hli), bb_some, eG, bb_some, su_r3 hSG, bb_some, gI_at (li_shp hSG hli), bb_some, bb_some, gI_at (li_shp hSG hli), bb_some]
      have lk := LF_ok (m := x) hO hd
      rw [← J]
      unfold wh
      cases eL : LF a x d with
      | none =>
        rw [eL] at lG
        rw [lG.1, if_pos rfl]
        rfl
      | some L =>
        obtain ⟨w, r, q⟩ := L
        rw [eL] at lG lk
        rw [lG.1, if_neg (nI_nm1 (by have := lk.1; omega))]
    · show (wI G 106 _ _).1 106 q = _ ∧ up t _ _ q ≤ _
      rw [wI_rd]
      by_cases e : q = wh a d x
      · rw [if_pos ⟨rfl, e⟩, e]
        unfold taf
        rw [up_s]
        exact ⟨rfl, by have := (hs3 _ hw).2; omega⟩
      · rw [if_neg (fun hh => e hh.2), up_n _ _ e]
        unfold taf
        rw [up_n _ _ e]
        exact ⟨g106 q hq, by have := (hs3 q hq).2; omega⟩) (fun t s ⟨⟨hs1, hs2⟩, hs3, hs4, hs5⟩ => by
    obtain ⟨s1, s2, s3⟩ := s
    have hs1 : s1 = nI (mx9 t) := hs1
    have hs2 : s2 = nI (cb p (2 ^ a 0)) := hs2
    subst hs1 hs2
    have hs4 : FS s3 a b p l := hs4
    exact ⟨(nI (mx9 t), s3), by simp [f_X8_mostAlike_B25, fs_g hs4], rfl, hs4, hs5⟩) (0, 0, A) ⟨⟨rfl, rfl⟩, fun q hq => ⟨hA q hq, Nat.le_refl _⟩, hFA, fA'⟩
  have e : f_X8_mostAlike_L25 A 92 (nI d) 0 0 = some R := e
  exact ⟨R.2, by rw [f_X8_mostAlike, eA, bb_some, e, bb_some, h1]; rfl, h2, h3⟩
theorem tal_bd {a : Nat → Nat} {p : Nat → Bool} {d : Nat} (hO : OkO a) (n : Nat) : ∀ q, ff p (taf a d) n (fun _ => 0) q ≤ n := by
  induction n with
  | zero => intro q; exact Nat.le_refl _
  | succ n ih =>
    intro q
    rw [ff_st]
    split
    · show up (ff p (taf a d) n (fun _ => 0)) (wh a d n) (ff p (taf a d) n (fun _ => 0) (wh a d n) + 1) q ≤ n + 1
      by_cases e : q = wh a d n
      · rw [e, up_s]; have := ih (wh a d n); omega
      · rw [up_n _ _ e]; have := ih q; omega
    · have := ih q; omega
theorem mx9_bd {a : Nat → Nat} {p : Nat → Bool} {d : Nat} (hO : OkO a) : mx9 (tal a p d) ≤ 256 := by
  have p8 := pw8 hO.1.1
  obtain ⟨_, m2⟩ := mx_sp (tal a p d) 9
  have m2 : mx9 (tal a p d) = 0 ∨ ∃ s, s < 9 ∧ tal a p d s = mx9 (tal a p d) := m2
  rcases m2 with m2 | ⟨q, hq, m2⟩
  · omega
  · have : tal a p d q ≤ 2 ^ a 0 := tal_bd hO (2 ^ a 0) q
    omega
/-- which desk to try -/
def trf (a : Nat → Nat) (p : Nat → Bool) (d : Nat) (v : Option Nat × Nat) : Option Nat × Nat := if mx9 (tal a p d) < v.2 then (some d, mx9 (tal a p d)) else v
theorem trf_sm {a : Nat → Nat} {p : Nat → Bool} (hO : OkO a) : ∀ i, 0 < i → i ≤ a 0 → ∃ d, d < a 0 ∧ (fo (trf a p) i (none, 999)).1 = some d ∧ (fo (trf a p) i (none, 999)).2 ≤ 256 := by
  intro i
  induction i with
  | zero => intro h; omega
  | succ i ih =>
    intro _ hi
    have hb := mx9_bd (p := p) (d := i) hO
    show ∃ d, d < a 0 ∧ (trf a p i (fo (trf a p) i (none, 999))).1 = some d ∧ (trf a p i (fo (trf a p) i (none, 999))).2 ≤ 256
    rw [show trf a p i (fo (trf a p) i (none, 999)) = if mx9 (tal a p i) < (fo (trf a p) i (none, 999)).2 then (some i, mx9 (tal a p i)) else fo (trf a p) i (none, 999) from rfl]
    by_cases h0 : i = 0
    · subst h0
      rw [if_pos (show mx9 (tal a p 0) < (fo (trf a p) 0 (none, 999)).2 by show _ < 999; omega)]
      exact ⟨0, by omega, rfl, hb⟩
    · obtain ⟨d, k1, k2, k3⟩ := ih (by omega) (by omega)
      split
      · exact ⟨i, by omega, rfl, hb⟩
      · exact ⟨d, k1, k2, k3⟩
theorem c_try {M : Mem} {a : Nat → Nat} {b : Nat → Int32} {p : Nat → Bool} {l : Nat} (hO : OkO a) (h : FS M a b p l) : ∃ M', f_X8_deskToTry M 92 = some (oI (fo (trf a p) (a 0) (none, 999)).1, M') ∧ Fr SZ M M' := by
  have h8 := hO.1.1
  obtain ⟨R, e, h1, h2⟩ := iter_rel (f := fun s : Int32 × Int32 × Int32 × Mem => f_X8_deskToTry_B6 s.2.2.2 92 s.1 s.2.1 s.2.2.1) (a 0) (fun i s => (s.1 = oI (fo (trf a p) i (none, 999)).1 ∧ (0 < i → s.2.1 = nI (fo (trf a p) i (none, 999)).2)) ∧ s.2.2.1 = nI i ∧ FS s.2.2.2 a b p l ∧ Fr SZ M s.2.2.2) (fun r => r.1 = oI (fo (trf a p) (a 0) (none, 999)).1 ∧ Fr SZ M r.2) (fun i s hi ⟨⟨hs1, hs2⟩, hs3, hs4, hs5⟩ => by
    obtain ⟨s1, s2, s3, s4⟩ := s
    have hs1 : s1 = oI (fo (trf a p) i (none, 999)).1 := hs1
    have hs2 : 0 < i → s2 = nI (fo (trf a p) i (none, 999)).2 := hs2
    have hs3 : s3 = nI i := hs3
    subst hs3
    have hs4 : FS s4 a b p l := hs4
    have hs5 : Fr SZ M s4 := hs5
    obtain ⟨D, eD, hD, fD⟩ := c_alike hO hs4 hi
    have hb := mx9_bd (p := p) (d := i) hO
    have st : fo (trf a p) (i + 1) (none, 999) = trf a p i (fo (trf a p) i (none, 999)) := rfl
    have c1 : f_X8_deskToTry_B6 s4 92 s1 s2 (nI i) = (if s1 = -1 then some (.inl (nI i, nI (mx9 (tal a p i)), nI (i + 1), D)) else (if s2 ≤ nI (mx9 (tal a p i)) then some (.inl (s1, s2, nI (i + 1), D)) else some (.inl (nI i, nI (mx9 (tal a p i)), nI (i + 1), D)))) := by
      unfold f_X8_deskToTry_B6
      rw [su_r2 (fs_sk hs4), bb_some, fs_g0 hs4, bb_some, if_neg (nI_ge hi (by omega)), su_ob (fs_sk hs4), bb_some, eD, bb_some, nI_1]
    show (∃ s' : Int32 × Int32 × Int32 × Mem, f_X8_deskToTry_B6 s4 92 s1 s2 (nI i) = some (.inl s') ∧ _) ∨ _
    rw [c1, st, show trf a p i (fo (trf a p) i (none, 999)) = if mx9 (tal a p i) < (fo (trf a p) i (none, 999)).2 then (some i, mx9 (tal a p i)) else fo (trf a p) i (none, 999) from rfl]
    refine Or.inl ?_
    have hq1 : s1 = oI (fo (trf a p) i (none, 999)).1 := hs1
    have hq2 : 0 < i → s2 = nI (fo (trf a p) i (none, 999)).2 := hs2
    by_cases h0 : i = 0
    · subst h0
      rw [if_pos (by rw [hq1]; rfl), if_pos (show mx9 (tal a p 0) < (fo (trf a p) 0 (none, 999)).2 by show _ < 999; omega)]
      exact ⟨_, rfl, ⟨rfl, fun _ => rfl⟩, rfl, hD, fr_trans hs5 fD⟩
    · obtain ⟨d, k1, k2, k3⟩ := trf_sm (p := p) hO i (by omega) (by omega)
      have hq2 := hq2 (by omega)
      rw [k2] at hq1
      rw [if_neg (by rw [hq1]; exact nI_nm1 (by omega)), hq2]
      by_cases hlt : mx9 (tal a p i) < (fo (trf a p) i (none, 999)).2
      · rw [if_neg (nI_ge hlt (by omega)), if_pos hlt]
        exact ⟨_, rfl, ⟨rfl, fun _ => rfl⟩, rfl, hD, fr_trans hs5 fD⟩
      · rw [if_pos (nI_le (by omega) (by omega)), if_neg hlt]
        exact ⟨_, rfl, ⟨by rw [k2]; exact hq1, fun _ => rfl⟩, rfl, hD, fr_trans hs5 fD⟩) (fun s ⟨⟨hs1, hs2⟩, hs3, hs4, hs5⟩ => by
    obtain ⟨s1, s2, s3, s4⟩ := s
    have hs3 : s3 = nI (a 0) := hs3
    subst hs3
    have hs4 : FS s4 a b p l := hs4
    exact ⟨(s1, s4), by simp [f_X8_deskToTry_B6, su_r2 (fs_sk hs4), fs_g0 hs4], hs1, hs5⟩) 1048576 0 (-1, 0, 0, M) (by omega) ⟨⟨rfl, fun hh => absurd hh (by omega)⟩, rfl, h, fr_refl⟩ (by omega)
  have e : f_X8_deskToTry_L6 M 92 (-1) 0 0 = some R := e
  exact ⟨R.2, by rw [f_X8_deskToTry, e, bb_some, h1], h2⟩
