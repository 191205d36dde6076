/-! after a day; days drawn -/
def mxh (u : Nat → Nat) : Nat := fo (fun d v => if v < u (10 + d) then u (10 + d) else v) 8 0
def mih (n : Nat) (u : Nat → Nat) : Nat := fo (fun i b => if u (10 + (1 + i)) ≤ u (10 + b) then b else 1 + i) (n - 1) 0
theorem mxh_fo (u : Nat → Nat) : ∀ n, (∀ d, d < n → u (10 + d) ≤ fo (fun d v => if v < u (10 + d) then u (10 + d) else v) n 0) ∧ (fo (fun d v => if v < u (10 + d) then u (10 + d) else v) n 0 = 0 ∨ ∃ d, d < n ∧ u (10 + d) = fo (fun d v => if v < u (10 + d) then u (10 + d) else v) n 0) := by
  intro n
  induction n with
  | zero => exact ⟨fun d hd => absurd hd (by omega), Or.inl rfl⟩
  | succ n ih =>
    obtain ⟨h1, h2⟩ := ih
    have e : fo (fun d v => if v < u (10 + d) then u (10 + d) else v) (n + 1) 0 = if fo (fun d v => if v < u (10 + d) then u (10 + d) else v) n 0 < u (10 + n) then u (10 + n) else fo (fun d v => if v < u (10 + d) then u (10 + d) else v) n 0 := rfl
    rw [e]
    generalize fo (fun d v => if v < u (10 + d) then u (10 + d) else v) n 0 = x at h1 h2
    by_cases h : x < u (10 + n)
    · rw [if_pos h]
      refine ⟨fun d hd => ?_, Or.inr ⟨n, by omega, rfl⟩⟩
      rcases (show d < n ∨ d = n by omega) with h' | rfl
      · have := h1 d h'; omega
      · exact Nat.le_refl _
    · rw [if_neg h]
      refine ⟨fun d hd => ?_, ?_⟩
      · rcases (show d < n ∨ d = n by omega) with h' | rfl
        · exact h1 d h'
        · omega
      · rcases h2 with h2 | ⟨d, hd, h2⟩
        · exact Or.inl h2
        · exact Or.inr ⟨d, by omega, h2⟩
theorem mih_ok (n : Nat) (u : Nat → Nat) : mih n u ≤ n - 1 ∧ (∀ d, d ≤ n - 1 → u (10 + d) ≤ u (10 + mih n u)) ∧ ∀ d, d < mih n u → u (10 + d) < u (10 + mih n u) := by
  refine fo_inv (fun i b => b ≤ i ∧ (∀ d, d ≤ i → u (10 + d) ≤ u (10 + b)) ∧ ∀ d, d < b → u (10 + d) < u (10 + b)) ⟨Nat.le_refl _, fun d hd => by rw [show d = 0 by omega]; exact Nat.le_refl _, fun d hd => absurd hd (by omega)⟩ (fun i b hi ⟨h1, h2, h3⟩ => ?_)
  show (if u (10 + (1 + i)) ≤ u (10 + b) then b else 1 + i) ≤ i + 1 ∧ _
  by_cases h : u (10 + (1 + i)) ≤ u (10 + b)
  · rw [if_pos h]
    refine ⟨by omega, fun d hd => ?_, h3⟩
    rcases (show d ≤ i ∨ d = 1 + i by omega) with h' | rfl
    · exact h2 d h'
    · exact h
  · rw [if_neg h]
    refine ⟨by omega, fun d hd => ?_, fun d hd => ?_⟩
    · rcases (show d ≤ i ∨ d = 1 + i by omega) with h' | rfl
      · have := h2 d h'; omega
      · exact Nat.le_refl _
    · have := h2 d (by omega); omega
theorem mxh_mih {a u : Nat → Nat} {m : Nat} (hO : OkO a) (hu : FOk a m u) : u (10 + mih (a 0) u) = mxh u := by
  have h8 := hO.1.1
  obtain ⟨h1, h2⟩ := mxh_fo u 8
  obtain ⟨g1, g2, g3⟩ := mih_ok (a 0) u
  have e1 : u (10 + mih (a 0) u) ≤ mxh u := h1 _ (by omega)
  rcases h2 with h2 | ⟨d, hd, h2⟩
  · have h2 : mxh u = 0 := h2
    omega
  · have h2 : u (10 + d) = mxh u := h2
    by_cases hda : d ≤ a 0 - 1
    · have := g2 d hda; omega
    · have := (hu.2.2 d (by omega) hd).1
      omega
theorem c_most {M : Mem} {f o m : Nat} {a u : Nat → Nat} (hF : FC M f o u) (hu : FOk a m u) (hm : m < 500) : f_X2_mostHelped M f = some (nI (mxh u)) := by
  have e := (lpI (f := fun s : Int32 × Int32 => f_X2_mostHelped_B4 M f s.1 s.2) 0 8 (fun d v => if v < u (10 + d) then u (10 + d) else v) nI nI (fun _ v => v < 1000) 0 (by omega) (fun i v hi hv => by
    have := (hu.2.1 i hi).1
    refine ⟨?_, by split <;> omega⟩
    rw [Nat.zero_add]
    show f_X2_mostHelped_B4 M f (nI v) (nI i) = _
    unfold f_X2_mostHelped_B4 imax
    rw [if_neg (show ¬ 8 ≤ nI i from nI_ge (b := 8) hi (by omega)), fc_9 hF, bb_some, fc_h hF hi, bb_some]
    by_cases h : v < u (10 + i)
    · rw [if_pos h, if_pos (nI_lt h (by omega))]
    · rw [if_neg h, if_neg (nI_nlt (by omega) (by omega))]) (fun v hv => by simp [f_X2_mostHelped_B4, show nI 8 = 8 from rfl]) (by omega)).1
  have e : f_X2_mostHelped_L4 M f 0 0 = some (nI (mxh u)) := e
  rw [f_X2_mostHelped, e, bb_some]
theorem mo_most {M : Mem} {m : Nat} {a u : Nat → Nat} (h : MF M a u) (hO : OkO a) (hu : FOk a m u) (hm : m < 500) : f_X12_mostHelped M 255 = some (nI (mih (a 0) u)) := by
  have h8 := hO.1.1
  have e : f_X12_mostHelped_L4 M 255 0 1 = some (nI (mih (a 0) u)) := by
    by_cases h0 : a 0 = 0
    · have : mih (a 0) u = 0 := by have := (mih_ok (a 0) u).1; omega
      rw [this]
      refine iter_end ?_
      show f_X12_mostHelped_B4 M 255 0 1 = _
      unfold f_X12_mostHelped_B4
      rw [mo_g12 h.1.1, bb_some, if_pos (by rw [h0]; decide)]; rfl
    · have e := (lpI (f := fun s : Int32 × Int32 => f_X12_mostHelped_B4 M 255 s.1 s.2) 1 (a 0 - 1) (fun i b => if u (10 + (1 + i)) ≤ u (10 + b) then b else 1 + i) nI nI (fun _ b => b < a 0) 0 (by omega) (fun i v hi hv => by
        have b1 := (hu.2.1 (1 + i) (by omega)).1
        have b2 := (hu.2.1 v (by omega)).1
        refine ⟨?_, by split <;> omega⟩
        show f_X12_mostHelped_B4 M 255 (nI v) (nI (1 + i)) = _
        unfold f_X12_mostHelped_B4
        rw [mo_g12 h.1.1, bb_some, if_neg (nI_ge (show 1 + i < a 0 by omega) (by omega)), m_r14 h.1.1.1, bb_some, mf_h8 h (show 1 + i < 8 by omega), bb_some, bb_some, mf_h8 h (show v < 8 by omega), bb_some]
        by_cases hc : u (10 + (1 + i)) ≤ u (10 + v)
        · rw [if_pos hc, if_pos (nI_le hc (by omega))]
        · rw [if_neg hc, if_neg (nI_ge (by omega) (by omega))]) (fun v hv => by
        rw [show 1 + (a 0 - 1) = a 0 by omega]
        simp [f_X12_mostHelped_B4, mo_g12 h.1.1]) (by omega)).1
      have e : f_X12_mostHelped_L4 M 255 (nI 0) (nI 1) = some (nI (mih (a 0) u)) := e
      rw [nI_0, show nI 1 = 1 from rfl] at e
      exact e
  rw [f_X12_mostHelped, e, bb_some]
theorem c_chief {M : Mem} {f o m : Nat} {a u : Nat → Nat} (hO : OkO a) (hF : FC M f o u) (hu : FOk a m u) (hm : m < 500) : f_X2_chiefHelper M f = some (if mxh u = 0 then -1 else nI (mih (a 0) u)) := by
  have h8 := hO.1.1
  obtain ⟨x1, x2⟩ := mxh_fo u 8
  have x1 : ∀ d, d < 8 → u (10 + d) ≤ mxh u := x1
  have x2 : mxh u = 0 ∨ ∃ d, d < 8 ∧ u (10 + d) = mxh u := x2
  obtain ⟨g1, g2, g3⟩ := mih_ok (a 0) u
  have mm := mxh_mih hO hu
  have hmx : mxh u < 1000 := by
    rcases x2 with h | ⟨d, hd, h⟩
    · omega
    · have := (hu.2.1 d hd).1; omega
  unfold f_X2_chiefHelper
  rw [fc_ob hF, bb_some, c_most hF hu hm, bb_some]
  by_cases h0 : mxh u = 0
  · obtain ⟨r, e, hr⟩ := iter_rel (f := fun s : Int32 => f_X2_chiefHelper_B7 M f (nI (mxh u)) s) 8 (fun i s => s = nI i) (fun r => r = .inr ()) (fun i s hi hs => by
      subst hs
      refine Or.inl ⟨nI (i + 1), ?_, rfl⟩
      unfold f_X2_chiefHelper_B7
      rw [if_neg (show ¬ 8 ≤ nI i from nI_ge (b := 8) hi (by omega)), h0, nI_0, if_pos (by decide), nI_1]) (fun s hs => ⟨.inr (), by subst hs; simp [f_X2_chiefHelper_B7, show nI 8 = 8 from rfl], rfl⟩) 1048576 0 0 (by omega) rfl (by omega)
    have e : f_X2_chiefHelper_L7 M f (nI (mxh u)) 0 = some r := e
    subst hr
    rw [e, bb_some, if_pos h0]
  · have np : ¬ nI (mxh u) ≤ 0 := nI_nle (by omega) (by omega)
    obtain ⟨r, e, hr⟩ := iter_rel (f := fun s : Int32 => f_X2_chiefHelper_B7 M f (nI (mxh u)) s) 8 (fun i s => s = nI i ∧ i ≤ mih (a 0) u) (fun r => r = .inl (nI (mih (a 0) u))) (fun i s hi ⟨hs, hi2⟩ => by
      subst hs
      have bi := (hu.2.1 i hi).1
      show (∃ s', f_X2_chiefHelper_B7 M f (nI (mxh u)) (nI i) = some (.inl s') ∧ _) ∨ (∃ r, f_X2_chiefHelper_B7 M f (nI (mxh u)) (nI i) = some (.inr r) ∧ _)
      unfold f_X2_chiefHelper_B7
      rw [if_neg (show ¬ 8 ≤ nI i from nI_ge (b := 8) hi (by omega)), if_neg np, fc_9 hF, bb_some, fc_h hF hi, bb_some]
      by_cases he : u (10 + i) = mxh u
      · rw [if_pos (by rw [he])]
        right
        refine ⟨_, rfl, ?_⟩
        have : i = mih (a 0) u := by
          rcases Nat.lt_or_ge i (mih (a 0) u) with h | h
          · have := g3 i h; omega
          · omega
        rw [this]
      · rw [if_neg (nI_nq (by omega) (by omega) he)]
        left
        refine ⟨_, rfl, nI_1 i, ?_⟩
        rcases Nat.lt_or_ge i (mih (a 0) u) with h | h
        · omega
        · have : i = mih (a 0) u := by omega
          rw [this] at he
          exact absurd mm he) (fun s ⟨hs, h⟩ => absurd h (by omega)) 1048576 0 0 (by omega) ⟨rfl, by omega⟩ (by omega)
    have e : f_X2_chiefHelper_L7 M f (nI (mxh u)) 0 = some r := e
    subst hr
    rw [e, bb_some, if_neg h0]
/-- desks on which slips lie -/
def unr (n : Nat) (u : Nat → Nat) : Nat := fo (fun d v => if (decide (u (20 + d) ≠ 0)) = true then v ||| 2 ^ d else v) n 0
theorem c_unread {M : Mem} {f o m : Nat} {a u : Nat → Nat} (hF : FC M f o u) (hu : FOk a m u) (hm : m < 500) : f_X2_unreadDesks M f = some (nI (unr 8 u)) := by
  have e := lp (f := fun s : Int32 × Int32 => f_X2_unreadDesks_B4 M f s.1 s.2) 8 (fun d v => if (decide (u (20 + d) ≠ 0)) = true then v ||| 2 ^ d else v) nI nI 0 (fun i v hi => by
    have := (hu.2.1 i hi).2
    show f_X2_unreadDesks_B4 M f (nI v) (nI i) = _
    unfold f_X2_unreadDesks_B4
    rw [if_neg (show ¬ 8 ≤ nI i from nI_ge (b := 8) hi (by omega)), fc_10 hF, bb_some, fc_s hF hi, bb_some, one_sl (by omega), or_at]
    by_cases h : u (20 + i) = 0
    · rw [h, nI_0, if_pos (by decide)]; simp
    · rw [if_neg (nI_nle (by omega) (by omega))]; simp [h]) (fun v => by simp [f_X2_unreadDesks_B4, show nI 8 = 8 from rfl]) (by omega)
  have e : f_X2_unreadDesks_L4 M f 0 0 = some (nI (unr 8 u)) := e
  rw [f_X2_unreadDesks, e, bb_some]
theorem unr_8 {a u : Nat → Nat} {m : Nat} (hO : OkO a) (hu : FOk a m u) : unr 8 u = unr (a 0) u := by
  have h8 := hO.1.1
  refine Nat.eq_of_testBit_eq (fun i => ?_)
  unfold unr
  rw [fo_or (p := fun d => decide (u (20 + d) ≠ 0)), fo_or (p := fun d => decide (u (20 + d) ≠ 0))]
  by_cases h1 : i < a 0
  · rw [decide_eq_true h1, decide_eq_true (show i < 8 by omega)]
  · rw [decide_eq_false h1]
    by_cases h2 : i < 8
    · have := (hu.2.2 i (by omega) h2).2
      simp [this]
    · rw [decide_eq_false h2]
theorem mo_unread {M : Mem} {m : Nat} {a u : Nat → Nat} (h : MF M a u) (hO : OkO a) (hu : FOk a m u) (hm : m < 500) (x3 : Int32) : f_X12_after_L50 M 255 x3 0 0 = some (nI (unr (a 0) u)) := by
  have h8 := hO.1.1
  refine lp (f := fun s : Int32 × Int32 => f_X12_after_B50 M 255 x3 s.1 s.2) (a 0) (fun d v => if (decide (u (20 + d) ≠ 0)) = true then v ||| 2 ^ d else v) nI nI 0 (fun i v hi => ?_) (fun v => by simp [f_X12_after_B50, mo_g12 h.1.1]) (by omega)
  have := (hu.2.1 i (by omega)).2
  have o0 : nI v ||| 0 = nI v := by rw [show (0 : Int32) = nI 0 from rfl, or_at, Nat.or_zero]
  show f_X12_after_B50 M 255 x3 (nI v) (nI i) = _
  unfold f_X12_after_B50
  rw [mo_g12 h.1.1, bb_some, if_neg (nI_ge hi (by omega)), m_r28 h.1.1.1, bb_some, mf_s h (by omega), bb_some, one_sl (by omega), or_at, o0]
  by_cases hh : u (20 + i) = 0
  · rw [hh, nI_0, if_pos (by decide)]; simp
  · rw [if_neg (nI_nle (by omega) (by omega))]; simp [hh]
/-- when half of it was got -/
def got (a dy : Nat → Nat) (j : Nat) : Nat := (plr a dy (min j (dy 0))).2.2 1
def Hlf (a dy : Nat → Nat) (h : Nat) : Prop := h ≤ dy 0 ∧ (h = dy 0 ∨ got a dy (dy 0) ≤ 2 * got a dy h) ∧ ∀ j, j < h → ¬ got a dy (dy 0) ≤ 2 * got a dy j
theorem hlf_un {a dy : Nat → Nat} {h h' : Nat} (g : Hlf a dy h) (g' : Hlf a dy h') : h = h' := by
  obtain ⟨g1, g2, g3⟩ := g
  obtain ⟨k1, k2, k3⟩ := g'
  rcases Nat.lt_trichotomy h h' with hl | hl | hl
  · exfalso
    rcases g2 with g2 | g2
    · omega
    · exact k3 h hl g2
  · exact hl
  · exfalso
    rcases k2 with k2 | k2
    · omega
    · exact g3 h' hl k2
theorem got_lt {a dy : Nat → Nat} (hO : OkO a) (hDy : OkD dy) (j : Nat) : got a dy j ≤ 99 * 40 := by
  have h40 := hDy.1
  have hm := Nat.min_le_right j (dy 0)
  have := (plr_ok (dy := dy) hO (min j (dy 0)) (by omega)).1.1.2.2
  unfold got
  omega
theorem c_half {M : Mem} {f o q : Nat} {a dy : Nat → Nat} (hC : CO M o a) (hO : OkO a) (hD : CD M q dy) (hDy : OkD dy) (hf : flO f) (hg : M.1 f 1 = nI (got a dy (dy 0))) : ∃ h M', f_X2_halfOf M f o q = some (nI h, M') ∧ Hlf a dy h ∧ Fg (SF f) M M' := by
  have h40 := hDy.1
  obtain ⟨A, eA, hA, fA⟩ := c_begin hC hO hf
  have hCA := sf_cg hf hC fA
  have hDA := sf_cd hf hD fA
  have hT := got_lt hO hDy (dy 0)
  have gi : ∀ i, i ≤ dy 0 → got a dy i = (plr a dy i).2.2 1 := fun i hi => by unfold got; rw [Nat.min_eq_left hi]
  obtain ⟨r, e, h⟩ := iter_rel (f := fun s : Int32 × Mem => f_X2_halfOf_B13 s.2 f q (nI (got a dy (dy 0))) s.1) (dy 0) (fun i s => s.1 = nI i ∧ (plr a dy i).1 = false ∧ (∀ j, j < i → ¬ got a dy (dy 0) ≤ 2 * got a dy j) ∧ FC s.2 f o (plr a dy i).2.2 ∧ Fr (SF f) A s.2) (fun r => (∃ h M', r = .inl (nI h, M') ∧ Hlf a dy h ∧ Fr (SF f) A M') ∨ (∃ M', r = .inr M' ∧ Hlf a dy (dy 0) ∧ Fr (SF f) A M')) (fun i s hi ⟨hs1, hs2, hs5, hs3, hs4⟩ => by
    obtain ⟨s1, s2⟩ := s
    have hs1 : s1 = nI i := hs1
    subst hs1
    have hs3 : FC s2 f o (plr a dy i).2.2 := hs3
    have hs4 : Fr (SF f) A s2 := hs4
    have hC2 := sf_co hf hCA hs4
    have hD2 := sf_cd hf hDA (fg_fr hs4)
    obtain ⟨d1, d2⟩ := hDy.2 i (by omega)
    obtain ⟨ok1, ok2, ok3⟩ := plr_ok (dy := dy) hO i (by omega)
    have ok3 := ok3 hs2
    obtain ⟨B, eB, hB, fB⟩ := c_act hC2 hO hs3 ok1 (by omega) d1 d2
    have st : plr a dy (i + 1) = (match dod a (dy (1 + 2 * i)) (dy (2 + 2 * i)) (plr a dy i).2.2 with | none => (true, (plr a dy i).2.1, (plr a dy i).2.2) | some u' => (false, (plr a dy i).2.1 + 1, u')) := by
      rw [plr_st, plf, if_neg (by rw [hs2]; decide)]
      rfl
    have hgi := got_lt hO hDy i
    have g1 : gI s2 2 f 1 = some (nI (got a dy i)) := by rw [fc_g hs3 (by omega) (by omega), gi i (by omega)]
    have e2 : (2 : Int32) * nI (got a dy i) = nI (2 * got a dy i) := pk_mul 2 _
    show (∃ s', f_X2_halfOf_B13 s2 f q (nI (got a dy (dy 0))) (nI i) = some (.inl s') ∧ _) ∨ (∃ r, f_X2_halfOf_B13 s2 f q (nI (got a dy (dy 0))) (nI i) = some (.inr r) ∧ _)
    unfold f_X2_halfOf_B13
    rw [cd_g0 hD2, bb_some, if_neg (nI_ge hi (by omega)), g1, bb_some, e2]
    by_cases hh : got a dy (dy 0) ≤ 2 * got a dy i
    · rw [if_pos (nI_le hh (by omega))]
      exact Or.inr ⟨_, rfl, Or.inl ⟨i, s2, rfl, ⟨by omega, Or.inr hh, hs5⟩, hs4⟩⟩
    · rw [if_neg (nI_ge (by omega) (by omega)), (cd_r hD2).1, bb_some, cd_deed hD2 hDy (by omega), bb_some, (cd_r hD2).2, bb_some, cd_num hD2 hDy (by omega), bb_some, fc_ob hs3, bb_some, eB, bb_some]
      cases ed : dod a (dy (1 + 2 * i)) (dy (2 + 2 * i)) (plr a dy i).2.2 with
      | none =>
        exfalso
        rw [ed] at st
        have hp : plr a dy (dy 0) = (true, (plr a dy i).2.1, (plr a dy i).2.2) := by
          rw [plr_stop (i := i + 1) (by rw [st]) (dy 0) (by omega), st]
        have : got a dy (dy 0) = got a dy i := by rw [gi _ (Nat.le_refl _), gi i (by omega), hp]
        omega
      | some u' =>
        rw [ed] at hB st
        have hB : FC B f o u' := hB
        refine Or.inl ⟨(nI (i + 1), B), ?_, rfl, by rw [st], fun j hj => ?_, by rw [st]; exact hB, fr_trans hs4 fB⟩
        · show (if (1 : Int32) = 0 then _ else _) = _
          rw [if_neg (by decide), nI_1]
        · rcases (show j < i ∨ j = i by omega) with h | rfl
          · exact hs5 j h
          · exact hh) (fun s ⟨hs1, hs2, hs5, hs3, hs4⟩ => by
    obtain ⟨s1, s2⟩ := s
    have hs1 : s1 = nI (dy 0) := hs1
    subst hs1
    have hs4 : Fr (SF f) A s2 := hs4
    have hD2 := sf_cd hf hDA (fg_fr hs4)
    exact ⟨.inr s2, by simp [f_X2_halfOf_B13, cd_g0 hD2], Or.inr ⟨s2, rfl, ⟨Nat.le_refl _, Or.inl rfl, hs5⟩, hs4⟩⟩) 1048576 0 (0, A) (by omega) ⟨rfl, rfl, fun j hj => absurd hj (by omega), hA, fr_refl⟩ (by omega)
  have e : f_X2_halfOf_L13 A f q (nI (got a dy (dy 0))) 0 = some r := e
  have sh := (fl_shp hC.1 hf).1
  rcases h with ⟨h, M', rfl, h1, h2⟩ | ⟨M', rfl, h1, h2⟩
  · refine ⟨h, M', ?_, h1, fg_trans fA (fg_fr h2)⟩
    unfold f_X2_halfOf
    rw [gI_at sh, bb_some, hg, ob_at sh, bb_some, eA, bb_some, e, bb_some]
  · refine ⟨dy 0, M', ?_, h1, fg_trans fA (fg_fr h2)⟩
    unfold f_X2_halfOf
    rw [gI_at sh, bb_some, hg, ob_at sh, bb_some, eA, bb_some, e, bb_some]
    show (gI M' 1 q 0).bind _ = _
    rw [cd_g0 (sf_cd hf hDA (fg_fr h2)), bb_some]
theorem mo_half {M : Mem} {a dy : Nat → Nat} (hM : MO M a) (hO : OkO a) (hD : MD M dy) (hDy : OkD dy) : ∃ h M', f_X12_halfOf M 255 = some (nI h, M') ∧ Hlf a dy h ∧ Fr SB M M' := by
  have h40 := hDy.1
  have hT := got_lt hO hDy (dy 0)
  obtain ⟨A, eA, hA, a27, fA⟩ := mo_runs hM hO hD hDy (show 40 < 2 ^ 31 by omega)
  have eA : f_X12_runs M 255 40 = some A := eA
  have gA : gI A 12 255 24 = some (nI (got a dy (dy 0))) := by
    have := mf_g hA (k := 1) (by omega) (by omega)
    have e : (plr a dy (min 40 (dy 0))).2.2 1 = got a dy (dy 0) := by unfold got; rw [Nat.min_eq_right (by omega), Nat.min_self]
    rw [e] at this
    exact this
  have hDA := sb_md hD fA
  obtain ⟨B, eB, hB, b27, fB⟩ := mo_runs hA.1.1 hO hDA hDy (show 0 < 2 ^ 31 by omega)
  have eB : f_X12_runs A 255 0 = some B := eB
  have fB' := fr_trans fA fB
  obtain ⟨r, e, h⟩ := iter_rel (f := fun s : Int32 × Mem => f_X12_halfOf_B18 s.2 255 (nI (got a dy (dy 0))) s.1) (dy 0) (fun i s => s.1 = nI i ∧ (∀ j, j < i → ¬ got a dy (dy 0) ≤ 2 * got a dy j) ∧ MF s.2 a (plr a dy (min i (dy 0))).2.2 ∧ Fr SB M s.2) (fun r => ∃ h M', r = (nI h, M') ∧ Hlf a dy h ∧ Fr SB M M') (fun i s hi ⟨hs1, hs5, hs3, hs4⟩ => by
    obtain ⟨s1, s2⟩ := s
    have hs1 : s1 = nI i := hs1
    subst hs1
    have hs4 : Fr SB M s2 := hs4
    have hs3 : MF s2 a (plr a dy (min i (dy 0))).2.2 := hs3
    have hgi := got_lt hO hDy i
    have g1 : gI s2 12 255 24 = some (nI (got a dy i)) := mf_g hs3 (k := 1) (by omega) (by omega)
    have e2 : (2 : Int32) * nI (got a dy i) = nI (2 * got a dy i) := pk_mul 2 _
    show (∃ s', f_X12_halfOf_B18 s2 255 (nI (got a dy (dy 0))) (nI i) = some (.inl s') ∧ _) ∨ (∃ r, f_X12_halfOf_B18 s2 255 (nI (got a dy (dy 0))) (nI i) = some (.inr r) ∧ _)
    unfold f_X12_halfOf_B18
    rw [g1, bb_some, e2]
    by_cases hh : got a dy (dy 0) ≤ 2 * got a dy i
    · rw [if_pos (nI_le hh (by omega))]
      exact Or.inr ⟨_, rfl, i, s2, rfl, ⟨by omega, Or.inr hh, hs5⟩, hs4⟩
    · obtain ⟨C, eC, hC, c27, fC⟩ := mo_runs hs3.1.1 hO (sb_md hD hs4) hDy (show i + 1 < 2 ^ 31 by omega)
      rw [if_neg (nI_ge (by omega) (by omega)), mo_ob hs3.1.1, bb_some, nI_1, eC, bb_some]
      refine Or.inl ⟨_, rfl, rfl, fun j hj => ?_, hC, fr_trans hs4 fC⟩
      rcases (show j < i ∨ j = i by omega) with h | rfl
      · exact hs5 j h
      · exact hh) (fun s ⟨hs1, hs5, hs3, hs4⟩ => by
    obtain ⟨s1, s2⟩ := s
    have hs1 : s1 = nI (dy 0) := hs1
    subst hs1
    have hs3 : MF s2 a (plr a dy (min (dy 0) (dy 0))).2.2 := hs3
    have g1 : gI s2 12 255 24 = some (nI (got a dy (dy 0))) := mf_g hs3 (k := 1) (by omega) (by omega)
    have e2 : (2 : Int32) * nI (got a dy (dy 0)) = nI (2 * got a dy (dy 0)) := pk_mul 2 _
    refine ⟨(nI (dy 0), s2), ?_, dy 0, s2, rfl, ⟨Nat.le_refl _, Or.inl rfl, hs5⟩, hs4⟩
    show f_X12_halfOf_B18 s2 255 (nI (got a dy (dy 0))) (nI (dy 0)) = _
    unfold f_X12_halfOf_B18
    rw [g1, bb_some, e2, if_pos (nI_le (by omega) (by omega))]) 1048576 0 (0, B) (by omega) ⟨rfl, fun j hj => absurd hj (by omega), hB, fB'⟩ (by omega)
  obtain ⟨h, M', rfl, h1, h2⟩ := h
  have e : f_X12_halfOf_L18 B 255 (nI (got a dy (dy 0))) 0 = some (nI h, M') := e
  refine ⟨h, M', ?_, h1, h2⟩
  unfold f_X12_halfOf
  rw [mo_ob hM, bb_some, eA, bb_some, gA, bb_some, mo_ob hA.1.1, bb_some, eB, bb_some, e, bb_some]
theorem call_after {M : Mem} (hI : Inv M) (a1 a2 a3 : Int32)  : ∃ (r : Int32) (M1 M2 : Mem), f_X11_after M 1 a1 a2 a3 = some (r, M1) ∧ shp M1 255 = some (.inl 12) ∧ f_X12_after M1 255 a1 a2 a3 = some (r, M2) ∧ Inv M2 := by
  have hS := hI.1
  refine qod hI a1 a2 (fC := f_X11_after M 1 a1 a2 a3) (fM := fun M => f_X12_after M 255 a1 a2 a3) (bad := -2) (fun q e1 d1 e2 => ⟨by simp [f_X11_after, d_r0 hS, t_ob hS, e1, d1], by simp [f_X12_after, ob_at (m_shp hS), e2]⟩) (fun o M2 ho e1 d1 e2 hS2 d2 => ⟨by simp [f_X11_after, d_r0 hS, t_ob hS, e1, d1], by simp [f_X12_after, ob_at (m_shp hS), e2, ob_at (m_shp hS2), d2]⟩) (fun o a q dy ho hq hO hDy e1 d1 hC hD => ?_)
  have h40 := hDy.1
  have mh : ∀ M1 M2 M3, Sk M1 → f_X12_isOffice M1 255 a1 = some (1, M2) → Sk M2 → f_X12_isDay M2 255 a2 = some (1, M3) → f_X12_after M1 255 a1 a2 a3 = ((f_X12_isIn M3 a3 0 2).bind fun v5 => (if v5 = 0 then some (-2, M3) else (if a3 = 1 then (ob M3 12 255).bind fun _ => (f_X12_halfOf M3 255).bind fun z8 => some (z8.1, z8.2) else (ob M3 12 255).bind fun _ => (f_X12_runs M3 255 40).bind fun z9 => (f_X12_after_L50 z9 255 a3 0 0).bind fun r10 => (if a3 = 2 then some (r10, z9) else (gR z9 12 255 14).bind fun v12 => (ob z9 12 255).bind fun _ => (f_X12_mostHelped z9 255).bind fun v13 => (aI z9 0 v12 v13).bind fun v14 => (if v14 = 0 then some (-1, z9) else (ob z9 12 255).bind fun _ => (f_X12_mostHelped z9 255).bind fun v16 => some (v16, z9)))))) := fun M1 M2 M3 hS1 e3 hS2 e4 => by
    unfold f_X12_after
    rw [ob_at (m_shp hS1), bb_some, e3, bb_some]
    show (if (1 : Int32) = 0 then _ else (ob M2 12 255).bind fun _ => (f_X12_isDay M2 255 a2).bind fun z3 => _) = _
    rw [if_neg (by decide), ob_at (m_shp hS2), bb_some, e4, bb_some]
    rfl
  obtain ⟨M1, e, hF, hg⟩ := c_play hC hO hD hDy fl68 (show 40 < 2 ^ 31 by omega)
  have hS1 := hg.1 hS
  have e : f_X2_playDay M 68 o q 40 = some (_, M1) := e
  have hm40 : min 40 (dy 0) = dy 0 := Nat.min_eq_right (by omega)
  rw [hm40] at e hF
  obtain ⟨ok1, ok2, ok3⟩ := plr_ok (dy := dy) hO (dy 0) (by omega)
  have ch : f_X11_after M 1 a1 a2 a3 = (if a3 = 0 then (f_X2_chiefHelper M1 68).bind fun v11 => some (v11, M1) else if a3 = 1 then (f_X2_halfOf M1 68 o q).bind fun z14 => some (z14.1, z14.2) else if a3 = 2 then (f_X2_unreadDesks M1 68).bind fun v17 => some (v17, M1) else some (-2, M1)) := by
    unfold f_X11_after
    rw [d_r0 hS, bb_some, t_ob hS, bb_some, e1, bb_some, bb_some, t_ob hS, bb_some, d1, bb_some, if_neg ho, if_neg hq, d_r5 hS, bb_some, ob_at (fl_shp hS fl68).1, bb_some, e, bb_some]
    show (if a3 = 0 then (gR M1 11 1 5).bind fun v10 => (ob M1 2 v10).bind fun _ => (f_X2_chiefHelper M1 v10).bind fun v11 => some (v11, M1) else if a3 = 1 then (gR M1 11 1 5).bind fun v13 => (ob M1 2 v13).bind fun _ => (f_X2_halfOf M1 v13 o q).bind fun z14 => some (z14.1, z14.2) else if a3 = 2 then (gR M1 11 1 5).bind fun v16 => (ob M1 2 v16).bind fun _ => (f_X2_unreadDesks M1 v16).bind fun v17 => some (v17, M1) else some (-2, M1)) = _
    rw [d_r5 hS1, bb_some, fc_ob hF, bb_some, bb_some, fc_ob hF, bb_some, bb_some, fc_ob hF, bb_some]
  have hCg := sf_cg fl68 hC hg
  have hDg := sf_cd fl68 hD hg
  generalize hR : plr a dy (dy 0) = R at *
  have rn : ∀ M3, MO M3 a → MD M3 dy → ∃ B, f_X12_runs M3 255 40 = some B ∧ MF B a R.2.2 ∧ Fr SB M3 B := fun M3 hM hMD => by
    obtain ⟨B, eB, hB, b27, fB⟩ := mo_runs hM hO hMD hDy (show 40 < 2 ^ 31 by omega)
    rw [hm40, hR] at hB
    exact ⟨B, eB, hB, fB⟩
  rcases io_cases a3 (n := 3) (by omega) with hx | ⟨j, hj, rfl⟩
  · have z : ∀ j, j < 3 → ¬ a3 = nI j := fun j hj e => by
      subst e
      rcases hx with hx | hx
      · exact nI_pos (by omega) hx
      · exact nI_ge hj (by omega) hx
    have z0 : ¬ a3 = 0 := z 0 (by omega)
    have z1 : ¬ a3 = 1 := z 1 (by omega)
    have z2 : ¬ a3 = 2 := z 2 (by omega)
    refine ⟨-2, M1, by rw [ch, if_neg z0, if_neg z1, if_neg z2], sfg_q fl68 hg, fun M2 M3 e3 hS2 e4 hM hMD => ⟨M3, ?_, qf_refl⟩⟩
    have i1 := ii_out M3 hx (by omega)
    rw [show nI 3 - 1 = 2 from rfl] at i1
    show f_X12_after M1 255 a1 a2 a3 = _
    rw [mh M1 M2 M3 hS1 e3 hS2 e4, i1, bb_some, if_pos rfl]
  · rcases (show j = 0 ∨ j = 1 ∨ j = 2 by omega) with rfl | rfl | rfl
    · refine ⟨if mxh R.2.2 = 0 then -1 else nI (mih (a 0) R.2.2), M1, ?_, sfg_q fl68 hg, fun M2 M3 e3 hS2 e4 hM hMD => ?_⟩
      · rw [ch, nI_0, if_pos rfl, c_chief hO hF ok1 (by omega), bb_some]
      · obtain ⟨B, eB, hB, fB⟩ := rn M3 hM hMD
        have i1 := ii_in M3 (n := 3) (d := 0) (by omega) (by omega)
        rw [show nI 3 - 1 = 2 from rfl] at i1
        have mm := mxh_mih hO ok1
        have g1 := (mih_ok (a 0) R.2.2).1
        have h8 := hO.1.1
        have hb := (ok1.2.1 (mih (a 0) R.2.2) (by omega)).1
        have ee : nI (mxh R.2.2) = 0 ↔ mxh R.2.2 = 0 := nI_eq (b := 0) (by omega) (by omega)
        refine ⟨B, ?_, sb_q fB⟩
        show f_X12_after M1 255 a1 a2 (nI 0) = _
        rw [mh M1 M2 M3 hS1 e3 hS2 e4, i1, bb_some, if_neg (by decide), if_neg (show ¬ nI 0 = 1 by decide), mo_ob hM, bb_some, eB, bb_some, mo_unread hB hO ok1 (by omega), bb_some, if_neg (show ¬ nI 0 = 2 by decide), m_r14 hB.1.1.1, bb_some, mo_ob hB.1.1, bb_some, mo_most hB hO ok1 (by omega), bb_some, mf_h8 hB (by omega), bb_some, mm, bb_some, bb_some]
        by_cases h0 : mxh R.2.2 = 0
        · rw [if_pos (ee.mpr h0), if_pos h0]
        · rw [if_neg (fun h => h0 (ee.mp h)), if_neg h0]
    · have hgot : M1.1 68 1 = nI (got a dy (dy 0)) := by
        rw [hF.2.1 1 (by omega) (by omega)]
        unfold got
        rw [Nat.min_self, hR]
      obtain ⟨h, N, eN, hN, fN⟩ := c_half hCg hO hDg hDy fl68 hgot
      refine ⟨nI h, N, ?_, qf_trans (sfg_q fl68 hg) (sfg_q fl68 fN), fun M2 M3 e3 hS2 e4 hM hMD => ?_⟩
      · rw [ch, if_neg (show ¬ nI 1 = 0 by decide), if_pos (show nI 1 = 1 from rfl), eN, bb_some]
      · have hSN := fN.1 hS1
        obtain ⟨h', B, eB, hB, fB⟩ := mo_half hM hO hMD hDy
        have := hlf_un hN hB
        subst this
        have i1 := ii_in M3 (n := 3) (d := 1) (by omega) (by omega)
        rw [show nI 3 - 1 = 2 from rfl] at i1
        refine ⟨B, ?_, sb_q fB⟩
        show f_X12_after N 255 a1 a2 (nI 1) = _
        rw [mh N M2 M3 hSN e3 hS2 e4, i1, bb_some, if_neg (by decide), if_pos (show nI 1 = 1 from rfl), mo_ob hM, bb_some, eB, bb_some]
    · refine ⟨nI (unr (a 0) R.2.2), M1, ?_, sfg_q fl68 hg, fun M2 M3 e3 hS2 e4 hM hMD => ?_⟩
      · rw [ch, if_neg (show ¬ nI 2 = 0 by decide), if_neg (show ¬ nI 2 = 1 by decide), if_pos (show nI 2 = 2 from rfl), c_unread hF ok1 (by omega), bb_some, unr_8 hO ok1]
      · obtain ⟨B, eB, hB, fB⟩ := rn M3 hM hMD
        have i1 := ii_in M3 (n := 3) (d := 2) (by omega) (by omega)
        rw [show nI 3 - 1 = 2 from rfl] at i1
        refine ⟨B, ?_, sb_q fB⟩
        show f_X12_after M1 255 a1 a2 (nI 2) = _
        rw [mh M1 M2 M3 hS1 e3 hS2 e4, i1, bb_some, if_neg (by decide), if_neg (show ¬ nI 2 = 1 by decide), mo_ob hM, bb_some, eB, bb_some, mo_unread hB hO ok1 (by omega), bb_some, if_pos (show nI 2 = 2 from rfl)]
