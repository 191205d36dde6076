/-! whom it takes; lunch -/
theorem p_shp {M : Mem} (hS : Sk M) : shp M 107 = some (.inl 6) := sk_shp hS (by omega) rfl
theorem p_r4 {M : Mem} (hS : Sk M) : gR M 6 107 4 = some 125 := by rw [gR_at (p_shp hS), hS.2 (107, 4, 125) (by decide)]
def Alf (a : Nat → Nat) (m : Nat) : Prop := ∀ d, d < a 0 → L0 a d m ≠ none
theorem c_all {M : Mem} {o m : Nat} {a : Nat → Nat} (hC : CO M o a) (hO : OkO a) (hm : m < 2 ^ a 0) : ∃ b M', f_X6_liftsAll M 107 o (nI m) = some (bI b, M') ∧ (b = true ↔ Alf a m) ∧ Fr (SL 125) M M' := by
  have h8 := hO.1.1
  have h125 : 125 ∈ liL := by decide
  obtain ⟨r, e, h⟩ := iter_rel (f := fun s : Int32 × Mem => f_X6_liftsAll_B2 s.2 107 o (nI m) s.1) (a 0) (fun i s => s.1 = nI i ∧ (∀ d, d < i → L0 a d m ≠ none) ∧ Fr (SL 125) M s.2) (fun r => (∃ M', r = .inl M' ∧ ¬ Alf a m ∧ Fr (SL 125) M M') ∨ (∃ M', r = .inr M' ∧ Alf a m ∧ Fr (SL 125) M M')) (fun i s hi ⟨hs1, hs2, hs3⟩ => by
    obtain ⟨s1, s2⟩ := s
    have hs1 : s1 = nI i := hs1
    subst hs1
    have hs3 : Fr (SL 125) M s2 := hs3
    have hC2 := sl_co h125 hC hs3
    obtain ⟨A, eA, lA, fA⟩ := c_toldL h125 hC2 hO hi hm
    have hSA := fr_sk fA hC2.1
    show (∃ s', f_X6_liftsAll_B2 s2 107 o (nI m) (nI i) = some (.inl s') ∧ _) ∨ (∃ r, f_X6_liftsAll_B2 s2 107 o (nI m) (nI i) = some (.inr r) ∧ _)
    unfold f_X6_liftsAll_B2
    rw [co_g0 hC2, bb_some, if_neg (nI_ge hi (by omega)), p_r4 hC2.1, bb_some, ob_at (li_shp hC2.1 h125), bb_some, eA, bb_some, p_r4 hSA, bb_some, gI_at (li_shp hSA h125), bb_some]
    cases el : L0 a i m with
    | none =>
      rw [el] at lA
      rw [lA.1, if_pos rfl]
      exact Or.inr ⟨_, rfl, Or.inl ⟨A, rfl, fun h => h i hi el, fr_trans hs3 fA⟩⟩
    | some l =>
      obtain ⟨w, r, t⟩ := l
      have lk := L0_ok hO (m := m) hi
      rw [el] at lA lk
      rw [lA.1, if_neg (nI_nm1 (by have := lk.1; omega))]
      refine Or.inl ⟨_, rfl, nI_1 i, fun d hd => ?_, fr_trans hs3 fA⟩
      rcases (show d < i ∨ d = i by omega) with h | rfl
      · exact hs2 d h
      · rw [el]; simp) (fun s ⟨hs1, hs2, hs3⟩ => by
    obtain ⟨s1, s2⟩ := s
    have hs1 : s1 = nI (a 0) := hs1
    subst hs1
    have hs3 : Fr (SL 125) M s2 := hs3
    exact ⟨.inr s2, by simp [f_X6_liftsAll_B2, co_g0 (sl_co h125 hC hs3)], Or.inr ⟨s2, rfl, hs2, hs3⟩⟩) 1048576 0 (0, M) (by omega) ⟨rfl, fun d hd => absurd hd (by omega), fr_refl⟩ (by omega)
  have e : f_X6_liftsAll_L2 M 107 o (nI m) 0 = some r := e
  rcases h with ⟨M', rfl, h1, h2⟩ | ⟨M', rfl, h1, h2⟩
  · exact ⟨false, M', by rw [f_X6_liftsAll, e, bb_some]; rfl, ⟨fun h => by simp at h, fun h => absurd h h1⟩, h2⟩
  · exact ⟨true, M', by rw [f_X6_liftsAll, e, bb_some]; rfl, ⟨fun _ => h1, fun _ => rfl⟩, h2⟩
theorem mo_all {M : Mem} {m : Nat} {a : Nat → Nat} (hM : MR M a (kdO a) (fun _ => 0)) (hO : OkO a) (hm : m < 2 ^ a 0) : ∃ b M', f_X12_areLifted M 255 (nI m) = some (bI b, M') ∧ (b = true ↔ Alf a m) ∧ Fr SM M M' := by
  have h8 := hO.1.1
  obtain ⟨r, e, h1, h2, h3⟩ := iter_rel (f := fun s : Int32 × Int32 × Mem => f_X12_areLifted_B4 s.2.2 255 (nI m) s.1 s.2.1) (a 0) (fun i s => s.2.1 = nI i ∧ (s.1 = 1 ∧ (∀ d, d < i → L0 a d m ≠ none) ∨ s.1 = 0 ∧ ¬ Alf a m) ∧ Fr SM M s.2.2) (fun r => (r.1 = 0 ∨ r.1 = 1) ∧ (r.1 = 1 ↔ Alf a m) ∧ Fr SM M r.2) (fun i s hi ⟨hs1, hs2, hs3⟩ => by
    obtain ⟨s1, s2, s3⟩ := s
    have hs1 : s2 = nI i := hs1
    subst hs1
    have hs3 : Fr SM M s3 := hs3
    have hM2 := sm_mr hM hs3
    obtain ⟨A, eA, lA, fA⟩ := mo_rings hM2 hO hi hm
    have lA : LM A (L0 a i m) := lA
    have hSA := fr_sk fA hM2.1.1
    show (∃ s', f_X12_areLifted_B4 s3 255 (nI m) s1 (nI i) = some (.inl s') ∧ _) ∨ (∃ r, f_X12_areLifted_B4 s3 255 (nI m) s1 (nI i) = some (.inr r) ∧ _)
    unfold f_X12_areLifted_B4
    rw [mo_g12 hM2.1, bb_some, if_neg (nI_ge hi (by omega))]
    rcases hs2 with ⟨e1, hs2⟩ | ⟨e1, hs2⟩
    · have e1 : s1 = 1 := e1
      subst e1
      rw [if_neg (by decide), mo_ob hM2.1, bb_some, eA, bb_some, gI_at (m_shp hSA), bb_some]
      cases el : L0 a i m with
      | none =>
        rw [el] at lA
        rw [lA.1, if_pos rfl]
        exact Or.inl ⟨_, rfl, nI_1 i, Or.inr ⟨rfl, fun h => h i hi el⟩, fr_trans hs3 fA⟩
      | some l =>
        obtain ⟨w, r, t⟩ := l
        have lk := L0_ok hO (m := m) hi
        rw [el] at lA lk
        rw [lA.1, if_neg (nI_nm1 (by have := lk.1; omega))]
        refine Or.inl ⟨_, rfl, nI_1 i, Or.inl ⟨rfl, fun d hd => ?_⟩, fr_trans hs3 fA⟩
        rcases (show d < i ∨ d = i by omega) with h | rfl
        · exact hs2 d h
        · rw [el]; simp
    · have e1 : s1 = 0 := e1
      subst e1
      rw [if_pos rfl]
      exact Or.inr ⟨_, rfl, Or.inl rfl, ⟨fun h => absurd h (show ¬ (0 : Int32) = 1 by decide), fun h => absurd h hs2⟩, hs3⟩) (fun s ⟨hs1, hs2, hs3⟩ => by
    obtain ⟨s1, s2, s3⟩ := s
    have hs1 : s2 = nI (a 0) := hs1
    subst hs1
    have hs3 : Fr SM M s3 := hs3
    refine ⟨(s1, s3), by simp [f_X12_areLifted_B4, mo_g12 (sm_mr hM hs3).1], ?_, ?_, hs3⟩
    · rcases hs2 with ⟨e1, hs2⟩ | ⟨e1, hs2⟩
      · exact Or.inr e1
      · exact Or.inl e1
    · rcases hs2 with ⟨e1, hs2⟩ | ⟨e1, hs2⟩
      · exact ⟨fun _ => hs2, fun _ => e1⟩
      · have e1 : s1 = 0 := e1
        subst e1
        exact ⟨fun h => absurd h (show ¬ (0 : Int32) = 1 by decide), fun h => absurd h hs2⟩) 1048576 0 (1, 0, M) (by omega) ⟨rfl, Or.inl ⟨rfl, fun d hd => absurd hd (by omega)⟩, fr_refl⟩ (by omega)
  obtain ⟨r1, r2⟩ := r
  have e : f_X12_areLifted_L4 M 255 (nI m) 1 0 = some (r1, r2) := e
  rcases h1 with h1 | h1
  · have h1 : r1 = 0 := h1
    subst h1
    exact ⟨false, r2, by rw [f_X12_areLifted, e, bb_some]; rfl, ⟨fun h => by simp at h, fun h => absurd (h2.mpr h) (show ¬ (0 : Int32) = 1 by decide)⟩, h3⟩
  · have h1 : r1 = 1 := h1
    subst h1
    exact ⟨true, r2, by rw [f_X12_areLifted, e, bb_some]; rfl, ⟨fun _ => h2.mp rfl, fun _ => rfl⟩, h3⟩
/-- b is the best of those in S -/
def Bst (a : Nat → Nat) (S : Nat → Prop) (b : Nat) : Prop := (b < 2 ^ a 0 ∧ Alf a b) ∧ ∀ x, S x → x < 2 ^ a 0 → Alf a x → pc b < pc x ∨ (pc b = pc x ∧ b ≤ x)
theorem c_fB {M : Mem} {o i : Nat} {a : Nat → Nat} {x2 : Int32} (hC : CO M o a) (hO : OkO a) (hi : i < 2 ^ a 0) (hb : (x2 = -1 ∧ ∀ x, x < i → ¬ Alf a x) ∨ ∃ b, x2 = nI b ∧ b < i ∧ Bst a (fun x => x < i) b) : ∃ y M', f_X6_fewestThere_B4 M 107 o x2 (nI i) = some (.inl (y, nI (i + 1), M')) ∧ ((y = -1 ∧ ∀ x, x < i + 1 → ¬ Alf a x) ∨ ∃ b, y = nI b ∧ b < i + 1 ∧ Bst a (fun x => x < i + 1) b) ∧ Fr (SL 125) M M' := by
  have h8 := hO.1.1
  have p8 := pw8 h8
  have hS := hC.1
  obtain ⟨b, M', eA, hA, fA⟩ := c_all hC hO hi
  have n1 : ¬ nI (2 ^ a 0 - 1) < nI i := nI_nlt (by omega) (by omega)
  have w1 := ld_pc M (show i < 1024 by omega)
  have hp1 := pc_10 i
  have J1 : f_X6_fewestThere_J33 M 107 o x2 (nI i) 1 = some (.inl (if b = true then nI i else x2, nI (i + 1), M')) := by
    unfold f_X6_fewestThere_J33
    rw [if_neg (by decide), ob_at (p_shp hS), bb_some, eA, bb_some, nI_1]
    cases b <;> rfl
  have J0 : f_X6_fewestThere_J33 M 107 o x2 (nI i) 0 = some (.inl (x2, nI (i + 1), M)) := by
    unfold f_X6_fewestThere_J33
    rw [if_pos rfl, nI_1]
  unfold f_X6_fewestThere_B4
  rw [ob_at (co_shp hC), bb_some, c_every hC hO, bb_some, if_neg n1]
  rcases hb with ⟨rfl, hn⟩ | ⟨b0, rfl, hb0, ⟨hb1, hb2⟩, hb3⟩
  · rw [if_pos rfl, J1]
    refine ⟨_, M', rfl, ?_, fA⟩
    cases b with
    | true =>
      right
      refine ⟨i, rfl, by omega, ⟨hi, hA.mp rfl⟩, fun x hx _ hxa => ?_⟩
      rcases (show x < i ∨ x = i by omega) with h | rfl
      · exact absurd hxa (hn x h)
      · exact Or.inr ⟨rfl, Nat.le_refl _⟩
    | false =>
      left
      refine ⟨rfl, fun x hx hxa => ?_⟩
      rcases (show x < i ∨ x = i by omega) with h | rfl
      · exact hn x h hxa
      · exact absurd (hA.mpr hxa) (by decide)
  · have w2 := ld_pc M (show b0 < 1024 by omega)
    have hp2 := pc_10 b0
    rw [if_neg (nI_nm1 (by omega)), w1, bb_some, w2, bb_some]
    by_cases hle : pc b0 ≤ pc i
    · rw [if_pos (nI_le hle (by omega)), J0]
      refine ⟨_, M, rfl, Or.inr ⟨b0, rfl, by omega, ⟨hb1, hb2⟩, fun x hx hx2 hxa => ?_⟩, fr_refl⟩
      by_cases h : x < i
      · exact hb3 x h hx2 hxa
      · have hx : x < i + 1 := hx
        have : x = i := by omega
        subst this
        rcases Nat.lt_or_ge (pc b0) (pc x) with h' | h'
        · exact Or.inl h'
        · exact Or.inr ⟨by omega, by omega⟩
    · rw [if_neg (nI_ge (by omega) (by omega)), J1]
      refine ⟨_, M', rfl, Or.inr ?_, fA⟩
      cases b with
      | true =>
        refine ⟨i, rfl, by omega, ⟨hi, hA.mp rfl⟩, fun x hx hx2 hxa => ?_⟩
        rcases (show x < i ∨ x = i by have hx : x < i + 1 := hx; omega) with h | rfl
        · have := hb3 x h hx2 hxa; omega
        · exact Or.inr ⟨rfl, Nat.le_refl _⟩
      | false =>
        refine ⟨b0, rfl, by omega, ⟨hb1, hb2⟩, fun x hx hx2 hxa => ?_⟩
        rcases (show x < i ∨ x = i by have hx : x < i + 1 := hx; omega) with h | rfl
        · exact hb3 x h hx2 hxa
        · exact absurd (hA.mpr hxa) (by decide)
theorem alf_all {a : Nat → Nat} : Alf a (2 ^ a 0 - 1) := fun d hd => by
  unfold L0 lft
  rw [if_pos (by rw [all_bit]; simp [hd])]
  simp
theorem bst_un {a : Nat → Nat} {b c : Nat} (h : Bst a (fun _ => True) b) (h' : Bst a (fun _ => True) c) : b = c := by
  have h1 := h.2 c trivial h'.1.1 h'.1.2
  have h2 := h'.2 b trivial h.1.1 h.1.2
  omega
theorem c_few {M : Mem} {o : Nat} {a : Nat → Nat} (hC : CO M o a) (hO : OkO a) : ∃ b M', f_X6_fewestThere M 107 o = some (nI b, M') ∧ Bst a (fun _ => True) b ∧ Fr (SL 125) M M' := by
  have h8 := hO.1.1
  have p8 := pw8 h8
  have pp := Nat.two_pow_pos (a 0)
  have h125 : 125 ∈ liL := by decide
  obtain ⟨r, e, h1, h2⟩ := iter_rel (f := fun s : Int32 × Int32 × Mem => f_X6_fewestThere_B4 s.2.2 107 o s.1 s.2.1) (2 ^ a 0) (fun i s => s.2.1 = nI i ∧ ((s.1 = -1 ∧ ∀ x, x < i → ¬ Alf a x) ∨ ∃ b, s.1 = nI b ∧ b < i ∧ Bst a (fun x => x < i) b) ∧ Fr (SL 125) M s.2.2) (fun r => (∃ b, r.1 = nI b ∧ Bst a (fun _ => True) b) ∧ Fr (SL 125) M r.2) (fun i s hi ⟨hs1, hs2, hs3⟩ => by
    obtain ⟨s1, s2, s3⟩ := s
    have hs1 : s2 = nI i := hs1
    subst hs1
    have hs3 : Fr (SL 125) M s3 := hs3
    obtain ⟨y, M', e, h1, h2⟩ := c_fB (sl_co h125 hC hs3) hO hi hs2
    exact Or.inl ⟨_, e, rfl, h1, fr_trans hs3 h2⟩) (fun s ⟨hs1, hs2, hs3⟩ => by
    obtain ⟨s1, s2, s3⟩ := s
    have hs1 : s2 = nI (2 ^ a 0) := hs1
    subst hs1
    have hs3 : Fr (SL 125) M s3 := hs3
    have hC2 := sl_co h125 hC hs3
    refine ⟨(s1, s3), ?_, ?_, hs3⟩
    · show f_X6_fewestThere_B4 s3 107 o s1 (nI (2 ^ a 0)) = _
      unfold f_X6_fewestThere_B4
      rw [ob_at (co_shp hC2), bb_some, c_every hC2 hO, bb_some, if_pos (nI_lt (by omega) (by omega))]
    · rcases hs2 with ⟨e1, h⟩ | ⟨b, e1, _, h, h'⟩
      · exact absurd alf_all (h _ (by omega))
      · exact ⟨b, e1, h, fun x _ hx => h' x hx hx⟩) 1048576 0 (-1, 0, M) (Nat.zero_le _) ⟨rfl, Or.inl ⟨rfl, fun x hx => absurd hx (by omega)⟩, fr_refl⟩ (by omega)
  obtain ⟨r1, r2⟩ := r
  obtain ⟨b, hb1, hb2⟩ := h1
  have hb1 : r1 = nI b := hb1
  subst hb1
  have e : f_X6_fewestThere_L4 M 107 o (-1) 0 = some (nI b, r2) := e
  exact ⟨b, r2, by rw [f_X6_fewestThere, e, bb_some], hb2, h2⟩
theorem mo_eB {M : Mem} {k b : Nat} {a : Nat → Nat} (hM : MR M a (kdO a) (fun _ => 0)) (hO : OkO a) (hk : k < 2 ^ a 0) (hb : Bst a (fun x => k < x) b) : ∃ b' M', f_X12_enough_B25 M 255 (nI b) (nI k) = some (.inl (nI b', nI k + Int32.ofInt (-1), M')) ∧ Bst a (fun x => k ≤ x) b' ∧ Fr SM M M' := by
  have h8 := hO.1.1
  have p8 := pw8 h8
  obtain ⟨c, M', eA, hA, fA⟩ := mo_all hM hO hk
  obtain ⟨⟨hb1, hb2⟩, hb3⟩ := hb
  have w1 := bits_at M k (by omega)
  have w2 := bits_at M b (by omega)
  have hp1 := pc_10 k
  have hp2 := pc_10 b
  unfold f_X12_enough_B25
  rw [if_neg (nI_pos (by omega)), w1, bb_some, w2, bb_some]
  by_cases hlt : pc b < pc k
  · rw [if_pos (nI_lt hlt (by omega))]
    refine ⟨b, M, rfl, ⟨⟨hb1, hb2⟩, fun x hx hx2 hxa => ?_⟩, fr_refl⟩
    rcases (show k < x ∨ x = k by have hx : k ≤ x := hx; omega) with h | rfl
    · exact hb3 x h hx2 hxa
    · exact Or.inl hlt
  · rw [if_neg (nI_nlt (by omega) (by omega)), mo_ob hM.1, bb_some, eA, bb_some]
    cases c with
    | true =>
      refine ⟨k, M', rfl, ⟨⟨hk, hA.mp rfl⟩, fun x hx hx2 hxa => ?_⟩, fA⟩
      rcases (show k < x ∨ x = k by have hx : k ≤ x := hx; omega) with h | rfl
      · have := hb3 x h hx2 hxa; omega
      · exact Or.inr ⟨rfl, Nat.le_refl _⟩
    | false =>
      refine ⟨b, M', rfl, ⟨⟨hb1, hb2⟩, fun x hx hx2 hxa => ?_⟩, fA⟩
      rcases (show k < x ∨ x = k by have hx : k ≤ x := hx; omega) with h | rfl
      · exact hb3 x h hx2 hxa
      · exact absurd (hA.mpr hxa) (by decide)
theorem mo_few {M : Mem} {a : Nat → Nat} (hM : MR M a (kdO a) (fun _ => 0)) (hO : OkO a) : ∃ b M', f_X12_enough_L25 M 255 (nI (2 ^ a 0 - 1)) (nI (2 ^ a 0 - 1)) = some (nI b, M') ∧ Bst a (fun _ => True) b ∧ Fr SM M M' := by
  have h8 := hO.1.1
  have p8 := pw8 h8
  have pp := Nat.two_pow_pos (a 0)
  obtain ⟨r, e, h1, h2⟩ := iter_rel (f := fun s : Int32 × Int32 × Mem => f_X12_enough_B25 s.2.2 255 s.1 s.2.1) (2 ^ a 0) (fun i s => s.2.1 = nI (2 ^ a 0 - i) + Int32.ofInt (-1) ∧ (∃ b, s.1 = nI b ∧ Bst a (fun x => 2 ^ a 0 - i ≤ x) b) ∧ Fr SM M s.2.2) (fun r => (∃ b, r.1 = nI b ∧ Bst a (fun _ => True) b) ∧ Fr SM M r.2) (fun i s hi ⟨hs1, ⟨b, hs2, hs4⟩, hs3⟩ => by
    obtain ⟨s1, s2, s3⟩ := s
    obtain ⟨k, hk⟩ : ∃ k, 2 ^ a 0 - i = k + 1 := ⟨2 ^ a 0 - i - 1, by omega⟩
    rw [hk] at hs4
    have hs1 : s2 = nI (2 ^ a 0 - i) + Int32.ofInt (-1) := hs1
    rw [hk] at hs1
    have hs1 : s2 = nI k := hs1.trans (pk_m1 k)
    have hs2 : s1 = nI b := hs2
    subst hs1 hs2
    have hs3 : Fr SM M s3 := hs3
    obtain ⟨b', M', e, h1, h2⟩ := mo_eB (sm_mr hM hs3) hO (show k < 2 ^ a 0 by omega) (b := b) ⟨hs4.1, fun x hx => hs4.2 x (by show k + 1 ≤ x; exact hx)⟩
    refine Or.inl ⟨_, e, ?_, ⟨b', rfl, ?_⟩, fr_trans hs3 h2⟩
    · show nI k + Int32.ofInt (-1) = nI (2 ^ a 0 - (i + 1)) + Int32.ofInt (-1)
      rw [show 2 ^ a 0 - (i + 1) = k by omega]
    · rw [show 2 ^ a 0 - (i + 1) = k by omega]; exact h1) (fun s ⟨hs1, ⟨b, hs2, hs4⟩, hs3⟩ => by
    obtain ⟨s1, s2, s3⟩ := s
    have hs1 : s2 = nI (2 ^ a 0 - 2 ^ a 0) + Int32.ofInt (-1) := hs1
    rw [Nat.sub_self] at hs1
    have hs2 : s1 = nI b := hs2
    subst hs1 hs2
    have hs3 : Fr SM M s3 := hs3
    refine ⟨(nI b, s3), ?_, ⟨b, rfl, hs4.1, fun x _ => hs4.2 x (by show 2 ^ a 0 - 2 ^ a 0 ≤ x; omega)⟩, hs3⟩
    show f_X12_enough_B25 s3 255 (nI b) (nI 0 + Int32.ofInt (-1)) = _
    unfold f_X12_enough_B25
    rw [if_pos (by decide)]) 1048576 0 (nI (2 ^ a 0 - 1), nI (2 ^ a 0 - 1), M) (Nat.zero_le _) ⟨by
      show nI (2 ^ a 0 - 1) = nI (2 ^ a 0 - 0) + Int32.ofInt (-1)
      obtain ⟨k, hk⟩ : ∃ k, 2 ^ a 0 = k + 1 := ⟨2 ^ a 0 - 1, by omega⟩
      rw [hk]
      exact (pk_m1 k).symm, ⟨2 ^ a 0 - 1, rfl, ⟨by omega, alf_all⟩, fun x hx hx2 => by have hx : 2 ^ a 0 - 0 ≤ x := hx; omega⟩, fr_refl⟩ (by omega)
  obtain ⟨r1, r2⟩ := r
  obtain ⟨b, hb1, hb2⟩ := h1
  have hb1 : r1 = nI b := hb1
  subst hb1
  have e : f_X12_enough_L25 M 255 (nI (2 ^ a 0 - 1)) (nI (2 ^ a 0 - 1)) = some (nI b, r2) := e
  exact ⟨b, r2, e, hb2, h2⟩
theorem sl125_q {M M' : Mem} (h : Fr (SL 125) M M') : Qf M M' := sl_q (by decide) h
theorem call_enough {M : Mem} (hI : Inv M) (a1 : Int32)  : ∃ (r : Int32) (M1 M2 : Mem), f_X11_enough M 1 a1 = some (r, M1) ∧ shp M1 255 = some (.inl 12) ∧ f_X12_enough M1 255 a1 = some (r, M2) ∧ Inv M2 := by
  have hS := hI.1
  exact qm hI a1 (fC := f_X11_enough M 1 a1) (fM := fun M => f_X12_enough M 255 a1) (bad := -1) (fun e1 e2 => ⟨by simp [f_X11_enough, d_r0 hS, t_ob hS, e1], by simp [f_X12_enough, ob_at (m_shp hS), e2]⟩) (fun o a ho hO e1 hC => by
    have h8 := hO.1.1
    obtain ⟨b, M1, e, hb, fr1⟩ := c_few hC hO
    have hS1 := fr_sk fr1 hS
    refine ⟨nI b, M1, ?_, sl125_q fr1, fun M2 e3 hM hq => ?_⟩
    · unfold f_X11_enough
      rw [d_r0 hS, bb_some, t_ob hS, bb_some, e1, bb_some, if_neg ho, d_r9 hS, bb_some, ob_at (p_shp hS), bb_some, e, bb_some]
    · obtain ⟨A, eA, hA, fA⟩ := mo_told hM hO
      obtain ⟨c, B, eB, hc, fB⟩ := mo_few hA hO
      have := bst_un hb hc
      subst this
      refine ⟨B, ?_, qf_trans (st_q fA) (sm_q fB)⟩
      show f_X12_enough M1 255 a1 = _
      unfold f_X12_enough
      rw [ob_at (m_shp hS1), bb_some, e3, bb_some]
      show (if (1 : Int32) = 0 then _ else _) = _
      rw [if_neg (by decide), mo_ob hM, bb_some, eA, bb_some, mo_g12 hA.1, bb_some, all_sl (by omega), eB, bb_some])
/-- lunch: what is got without those of x -/
def gls (a : Nat → Nat) (m c v : Nat) : Nat := v + gtN a c (rr (L0 a (a (45 + 3 * c)) m))
def glu (a : Nat → Nat) (x : Nat) : Nat := fo (gls a (dif (2 ^ a 0 - 1) x)) (a 1) 0
theorem dif_lt {n x : Nat} : dif (2 ^ n - 1) x < 2 ^ n := by
  have := dif_le (2 ^ n - 1) x
  have := Nat.two_pow_pos n
  omega
theorem c_glu {M : Mem} {o x : Nat} {a : Nat → Nat} (hC : CO M o a) (hO : OkO a) : ∃ M', f_X6_gotWithout M 107 o (nI x) = some (nI (glu a x), M') ∧ Fr (SL 125) M M' := by
  have h8 := hO.1.1
  have h10 := hO.1.2.1
  have h125 : 125 ∈ liL := by decide
  obtain ⟨r, e, h1, h2⟩ := iter_rel (f := fun s : Int32 × Int32 × Mem => f_X6_gotWithout_B5 s.2.2 107 o (nI x) s.1 s.2.1) (a 1) (fun i s => s.1 = nI (fo (gls a (dif (2 ^ a 0 - 1) x)) i 0) ∧ s.2.1 = nI i ∧ Fr (SL 125) M s.2.2) (fun r => r.1 = nI (glu a x) ∧ Fr (SL 125) M r.2) (fun i s hi ⟨hs1, hs2, hs3⟩ => by
    obtain ⟨s1, s2, s3⟩ := s
    have hs1 : s1 = nI (fo (gls a (dif (2 ^ a 0 - 1) x)) i 0) := hs1
    have hs2 : s2 = nI i := hs2
    subst hs1 hs2
    have hs3 : Fr (SL 125) M s3 := hs3
    have hC2 := sl_co h125 hC hs3
    obtain ⟨g1, g2, g3, g4⟩ := okc hO hi
    obtain ⟨A, eA, lA, fA⟩ := c_toldL h125 hC2 hO g1 (m := dif (2 ^ a 0 - 1) x) dif_lt
    have hCA := sl_co h125 hC2 fA
    have hrr := rr_lt (L0_ok hO (m := dif (2 ^ a 0 - 1) x) g1)
    have gA : gI A 3 125 1 = some (nI (rr (L0 a (a (45 + 3 * i)) (dif (2 ^ a 0 - 1) x)))) := by rw [gI_at (li_shp hCA.1 h125), lc_rr lA]
    refine Or.inl ⟨(nI (fo (gls a (dif (2 ^ a 0 - 1) x)) (i + 1) 0), nI (i + 1), A), ?_, rfl, rfl, fr_trans hs3 fA⟩
    show f_X6_gotWithout_B5 s3 107 o (nI x) (nI (fo (gls a (dif (2 ^ a 0 - 1) x)) i 0)) (nI i) = _
    unfold f_X6_gotWithout_B5
    rw [co_g1 hC2, bb_some, if_neg (nI_ge hi (by omega)), p_r4 hC2.1, bb_some, co_r10 hC2, bb_some, co_cdesk hC2 hO hi, bb_some, ob_at (co_shp hC2), bb_some, c_every hC2 hO, bb_some, ob_at (li_shp hC2.1 h125), bb_some, dif_at, eA, bb_some, p_r4 hCA.1, bb_some, gA, bb_some, ob_at (co_shp hCA), bb_some, c_gotAt hCA hO hi hrr, bb_some, nI_add, nI_1]
    rfl) (fun s ⟨hs1, hs2, hs3⟩ => by
    obtain ⟨s1, s2, s3⟩ := s
    have hs2 : s2 = nI (a 1) := hs2
    subst hs2
    have hs3 : Fr (SL 125) M s3 := hs3
    exact ⟨(s1, s3), by simp [f_X6_gotWithout_B5, co_g1 (sl_co h125 hC hs3)], hs1, hs3⟩) 1048576 0 (0, 0, M) (Nat.zero_le _) ⟨rfl, rfl, fr_refl⟩ (by omega)
  obtain ⟨r1, r2⟩ := r
  have h1 : r1 = nI (glu a x) := h1
  subst h1
  have e : f_X6_gotWithout_L5 M 107 o (nI x) 0 0 = some (nI (glu a x), r2) := e
  exact ⟨r2, by rw [f_X6_gotWithout, e, bb_some], h2⟩
theorem mo_gotOf {M : Mem} {c m : Nat} {a : Nat → Nat} (hM : MR M a (kdO a) (fun _ => 0)) (hO : OkO a) (hc : c < a 1) (hm : m < 2 ^ a 0) : ∃ M', f_X12_gotOf M 255 (nI c) (nI m) = some (nI (gtN a c (rr (L0 a (a (45 + 3 * c)) m))), M') ∧ Fr SM M M' := by
  have h8 := hO.1.1
  have h10 := hO.1.2.1
  obtain ⟨g1, g2, g3, g4⟩ := okc hO hc
  obtain ⟨A, eA, lA, fA⟩ := mo_rings hM hO g1 hm
  have hA := sm_mr hM fA
  have lA : LM A (L0 a (a (45 + 3 * c)) m) := lA
  have hrr := rr_lt (L0_ok hO (m := m) g1)
  refine ⟨A, ?_, fA⟩
  unfold f_X12_gotOf
  rw [mo_ob hM.1, bb_some, mo_oc0 hM.1 (by omega), bb_some, bb_some, eA, bb_some, mo_ob hA.1, bb_some, mo_isLifted hA.1 hO hc lA (L0_ok hO g1), bb_some]
  cases hi : iT a c (rr (L0 a (a (45 + 3 * c)) m)) with
  | false =>
    show some ((0 : Int32), A) = _
    rw [gtN, hi]; rfl
  | true =>
    have e17 : gI A 12 255 17 = some (nI (rr (L0 a (a (45 + 3 * c)) m))) := by
      rw [gI_at (m_shp hA.1.1)]
      have h0 := (of_decide_eq_true hi).1
      cases el : L0 a (a (45 + 3 * c)) m with
      | none => rw [el] at h0; exact absurd rfl h0
      | some l => obtain ⟨w, r, t⟩ := l; rw [el] at lA; rw [lA.2.1]; rfl
    show ((some ()).bind fun _ => (f_X12_ofCall A 255 (nI c) 1).bind fun v5 => (gI A 12 255 17).bind fun v6 => (some ()).bind fun _ => (f_X12_gotBy A 255 v5 v6).bind fun v7 => some (v7, A)) = _
    rw [bb_some, mo_oc1 hA.1 (by omega), bb_some, e17, bb_some, bb_some, mo_got hA.1 hO hc hrr hi, bb_some]
theorem mo_glu {M : Mem} {x : Nat} {a : Nat → Nat} (hM : MR M a (kdO a) (fun _ => 0)) (hO : OkO a) (x2 x3 x4 x5 : Int32) : ∃ M', f_X12_lunch_L64 M 255 x2 x3 x4 x5 (nI x) 0 0 = some (nI (glu a x), M') ∧ Fr SM M M' := by
  have h8 := hO.1.1
  have h10 := hO.1.2.1
  obtain ⟨r, e, h1, h2⟩ := iter_rel (f := fun s : Int32 × Int32 × Mem => f_X12_lunch_B64 s.2.2 255 x2 x3 x4 x5 (nI x) s.1 s.2.1) (a 1) (fun i s => s.1 = nI (fo (gls a (dif (2 ^ a 0 - 1) x)) i 0) ∧ s.2.1 = nI i ∧ Fr SM M s.2.2) (fun r => r.1 = nI (glu a x) ∧ Fr SM M r.2) (fun i s hi ⟨hs1, hs2, hs3⟩ => by
    obtain ⟨s1, s2, s3⟩ := s
    have hs1 : s1 = nI (fo (gls a (dif (2 ^ a 0 - 1) x)) i 0) := hs1
    have hs2 : s2 = nI i := hs2
    subst hs1 hs2
    have hs3 : Fr SM M s3 := hs3
    have hM2 := sm_mr hM hs3
    obtain ⟨A, eA, fA⟩ := mo_gotOf hM2 hO hi (m := dif (2 ^ a 0 - 1) x) dif_lt
    refine Or.inl ⟨(nI (fo (gls a (dif (2 ^ a 0 - 1) x)) (i + 1) 0), nI (i + 1), A), ?_, rfl, rfl, fr_trans hs3 fA⟩
    show f_X12_lunch_B64 s3 255 x2 x3 x4 x5 (nI x) (nI (fo (gls a (dif (2 ^ a 0 - 1) x)) i 0)) (nI i) = _
    unfold f_X12_lunch_B64
    rw [mo_g13 hM2.1, bb_some, if_neg (nI_ge hi (by omega)), mo_g12 hM2.1, bb_some, mo_ob hM2.1, bb_some, all_sl (by omega), dif_at, eA, bb_some]
    show some (Sum.inl (nI _ + nI _, nI i + 1, A)) = _
    rw [nI_add, nI_1]
    rfl) (fun s ⟨hs1, hs2, hs3⟩ => by
    obtain ⟨s1, s2, s3⟩ := s
    have hs2 : s2 = nI (a 1) := hs2
    subst hs2
    have hs3 : Fr SM M s3 := hs3
    exact ⟨(s1, s3), by simp [f_X12_lunch_B64, mo_g13 (sm_mr hM hs3).1], hs1, hs3⟩) 1048576 0 (0, 0, M) (Nat.zero_le _) ⟨rfl, rfl, fr_refl⟩ (by omega)
  obtain ⟨r1, r2⟩ := r
  have h1 : r1 = nI (glu a x) := h1
  subst h1
  exact ⟨r2, e, h2⟩
def lfo (a : Nat → Nat) (k x : Nat) (p : Int32 × Int32) : Int32 × Int32 := if pc x = k then (if nI (glu a x) ≤ p.1 then p else (nI (glu a x), nI x)) else p
def SP : Nat → Nat → Prop := fun q k => (q = 107 ∧ k < 2) ∨ (q = 125 ∧ k < 3)
theorem sp_co {M M' : Mem} {o : Nat} {a : Nat → Nat} (hC : CO M o a) (hF : Fr SP M M') : CO M' o a := co_fr hC hF (fun q k h => by
  have := hC.2.1; unfold SP at h; omega)
theorem sp_q {M M' : Mem} (h : Fr SP M M') : Qf M M' := fr_q h (fun q k hh => by unfold SP at hh; unfold zT; omega)
theorem c_lB {M : Mem} {o k x : Nat} {a : Nat → Nat} {p : Int32 × Int32} (hC : CO M o a) (hO : OkO a) (hk : k ≤ 8) (hx : x < 2 ^ a 0) (h0 : M.1 107 0 = p.1) (h1 : M.1 107 1 = p.2) : ∃ M', f_X6_planLunch_B12 M 107 o (nI k) (nI x) = some (.inl (nI (x + 1), M')) ∧ M'.1 107 0 = (lfo a k x p).1 ∧ M'.1 107 1 = (lfo a k x p).2 ∧ Fr SP M M' := by
  have h8 := hO.1.1
  have p8 := pw8 h8
  have hS := hC.1
  have ee := c_every hC hO
  obtain ⟨A, eA, fA⟩ := c_glu (x := x) hC hO
  have hSA := fr_sk fA hS
  have a0 : A.1 107 0 = p.1 := by rw [fA.2 107 0 (by unfold SL; omega), h0]
  have a1 : A.1 107 1 = p.2 := by rw [fA.2 107 1 (by unfold SL; omega), h1]
  have fA' : Fr SP M A := fr_mono fA (fun n k h => Or.inr h)
  have w1 := ld_pc M (show x < 1024 by omega)
  have hp := pc_10 x
  have n1 : ¬ nI (2 ^ a 0 - 1) < nI x := nI_nlt (by omega) (by omega)
  unfold f_X6_planLunch_B12 lfo
  generalize pc x = q at w1 hp ⊢
  rw [ob_at (co_shp hC), bb_some, ee, bb_some, if_neg n1, w1, bb_some]
  by_cases h : q = k
  · rw [if_pos ((nI_eq (by omega) (by omega)).mpr h), if_pos h, ob_at (p_shp hS), bb_some, eA, bb_some]
    show ∃ M', ((gI A 6 107 0).bind fun v6 => if nI (glu a x) ≤ v6 then some (Sum.inl (nI x + 1, A)) else (pI A 6 107 0 (nI (glu a x))).bind fun M8 => (pI M8 6 107 1 (nI x)).bind fun M9 => some (Sum.inl (nI x + 1, M9))) = _ ∧ _
    rw [gI_at (p_shp hSA), bb_some, a0, nI_1]
    by_cases hl : nI (glu a x) ≤ p.1
    · rw [if_pos hl, if_pos hl]
      exact ⟨A, rfl, a0, a1, fA'⟩
    · rw [if_neg hl, if_neg hl, pI_at (p_shp hSA), bb_some, pI_at (p_shp (M := wI A 107 0 (nI (glu a x))) hSA), bb_some]
      exact ⟨_, rfl, by rw [wI_rd, if_neg (by omega)]; exact wI_same _ _ _ _, wI_same _ _ _ _, fr_put (fr_put fA' (Or.inl ⟨rfl, by omega⟩)) (Or.inl ⟨rfl, by omega⟩)⟩
  · rw [if_neg (fun hh => h ((nI_eq (by omega) (by omega)).mp hh)), if_neg h, nI_1]
    exact ⟨M, rfl, h0, h1, fr_refl⟩
theorem c_lunch {M : Mem} {o k : Nat} {a : Nat → Nat} (hC : CO M o a) (hO : OkO a) (hk : k ≤ 8) : ∃ M', f_X6_planLunch M 107 o (nI k) = some M' ∧ (M'.1 107 0 = (fo (lfo a k) (2 ^ a 0) (-1, 0)).1 ∧ M'.1 107 1 = (fo (lfo a k) (2 ^ a 0) (-1, 0)).2) ∧ Fr SP M M' := by
  have h8 := hO.1.1
  have p8 := pw8 h8
  have hS := hC.1
  have pp := Nat.two_pow_pos (a 0)
  have f0 : Fr SP M (wI (wI M 107 0 (-1)) 107 1 0) := fr_put (fr_wI (Or.inl ⟨rfl, by omega⟩)) (Or.inl ⟨rfl, by omega⟩)
  obtain ⟨B, eB, h1, h2⟩ := iter_rel (f := fun s : Int32 × Mem => f_X6_planLunch_B12 s.2 107 o (nI k) s.1) (2 ^ a 0) (fun i s => s.1 = nI i ∧ (s.2.1 107 0 = (fo (lfo a k) i (-1, 0)).1 ∧ s.2.1 107 1 = (fo (lfo a k) i (-1, 0)).2) ∧ Fr SP M s.2) (fun r => (r.1 107 0 = (fo (lfo a k) (2 ^ a 0) (-1, 0)).1 ∧ r.1 107 1 = (fo (lfo a k) (2 ^ a 0) (-1, 0)).2) ∧ Fr SP M r) (fun i s hi ⟨hs1, hs2, hs3⟩ => by
    obtain ⟨s1, s2⟩ := s
    have hs1 : s1 = nI i := hs1
    subst hs1
    have hs3 : Fr SP M s2 := hs3
    obtain ⟨A, e, v0, v1, fA⟩ := c_lB (sp_co hC hs3) hO hk hi hs2.1 hs2.2
    exact Or.inl ⟨_, e, rfl, ⟨v0, v1⟩, fr_trans hs3 fA⟩) (fun s ⟨hs1, hs2, hs3⟩ => by
    obtain ⟨s1, s2⟩ := s
    have hs1 : s1 = nI (2 ^ a 0) := hs1
    subst hs1
    have hs3 : Fr SP M s2 := hs3
    have hC2 := sp_co hC hs3
    refine ⟨s2, ?_, hs2, hs3⟩
    show f_X6_planLunch_B12 s2 107 o (nI k) (nI (2 ^ a 0)) = _
    unfold f_X6_planLunch_B12
    rw [ob_at (co_shp hC2), bb_some, c_every hC2 hO, bb_some, if_pos (nI_lt (by omega) (by omega))]) 1048576 0 (0, wI (wI M 107 0 (-1)) 107 1 0) (Nat.zero_le _) ⟨rfl, ⟨by simp [wI, fo], by simp [wI, fo]⟩, f0⟩ (by omega)
  have eB : f_X6_planLunch_L12 (wI (wI M 107 0 (-1)) 107 1 0) 107 o (nI k) 0 = some B := eB
  refine ⟨B, ?_, h1, h2⟩
  unfold f_X6_planLunch
  rw [pI_at (p_shp hS), bb_some, pI_at (p_shp (M := wI M 107 0 (-1)) hS), bb_some, eB, bb_some]
theorem le_lt {α : Type} (x y : Int32) (u v : α) : (if x ≤ y then u else v) = (if y < x then v else u) := by
  by_cases h : x ≤ y
  · rw [if_pos h, if_neg (by rw [Int32.le_iff_toInt_le] at h; rw [Int32.lt_iff_toInt_lt]; omega)]
  · rw [if_neg h, if_pos (by rw [Int32.le_iff_toInt_le] at h; rw [Int32.lt_iff_toInt_lt]; omega)]
theorem mo_lunch {M : Mem} {k : Nat} {a : Nat → Nat} (hM : MR M a (kdO a) (fun _ => 0)) (hO : OkO a) (hk : k ≤ 8) (x3 : Int32) : ∃ M', f_X12_lunch_L35 M 255 (nI k) x3 (-1) 0 0 = some ((fo (lfo a k) (2 ^ a 0) (-1, 0)).1, (fo (lfo a k) (2 ^ a 0) (-1, 0)).2, M') ∧ Fr SM M M' := by
  have h8 := hO.1.1
  have p8 := pw8 h8
  obtain ⟨r, e, h1, h2⟩ := iter_rel (f := fun s : Int32 × Int32 × Int32 × Mem => f_X12_lunch_B35 s.2.2.2 255 (nI k) x3 s.1 s.2.1 s.2.2.1) (2 ^ a 0) (fun i s => (s.1, s.2.1) = fo (lfo a k) i (-1, 0) ∧ s.2.2.1 = nI i ∧ Fr SM M s.2.2.2) (fun r => (r.1, r.2.1) = fo (lfo a k) (2 ^ a 0) (-1, 0) ∧ Fr SM M r.2.2) (fun i s hi ⟨hs1, hs2, hs3⟩ => by
    obtain ⟨s1, s2, s3, s4⟩ := s
    have hs2 : s3 = nI i := hs2
    subst hs2
    have hs1 : (s1, s2) = fo (lfo a k) i (-1, 0) := hs1
    have hs3 : Fr SM M s4 := hs3
    have hM2 := sm_mr hM hs3
    have w1 := bits_at s4 i (by omega)
    have hp := pc_10 i
    have n1 : ¬ nI (2 ^ a 0) ≤ nI i := nI_ge hi (by omega)
    obtain ⟨A, eA, fA⟩ := mo_glu (x := i) hM2 hO (nI k) x3 s1 s2
    show (∃ s', f_X12_lunch_B35 s4 255 (nI k) x3 s1 s2 (nI i) = some (.inl s') ∧ (s'.1, s'.2.1) = lfo a k i (fo (lfo a k) i (-1, 0)) ∧ _) ∨ _
    rw [← hs1]
    unfold f_X12_lunch_B35 lfo
    rw [mo_g12 hM2.1, bb_some, one_sl (by omega), if_neg n1, w1, bb_some]
    by_cases h : pc i = k
    · rw [if_pos ((nI_eq (by omega) (by omega)).mpr h), if_pos h, eA, bb_some]
      show (∃ s', (if s1 < nI (glu a i) then some (Sum.inl (nI (glu a i), nI i, nI i + 1, A)) else some (Sum.inl (s1, s2, nI i + 1, A))) = some (Sum.inl s') ∧ (s'.1, s'.2.1) = (if nI (glu a i) ≤ s1 then (s1, s2) else (nI (glu a i), nI i)) ∧ _) ∨ _
      rw [le_lt]
      by_cases hl : s1 < nI (glu a i)
      · rw [if_pos hl, if_pos hl]
        exact Or.inl ⟨_, rfl, rfl, nI_1 i, fr_trans hs3 fA⟩
      · rw [if_neg hl, if_neg hl]
        exact Or.inl ⟨_, rfl, rfl, nI_1 i, fr_trans hs3 fA⟩
    · rw [if_neg (fun hh => h ((nI_eq (by omega) (by omega)).mp hh)), if_neg h]
      exact Or.inl ⟨_, rfl, rfl, nI_1 i, hs3⟩) (fun s ⟨hs1, hs2, hs3⟩ => by
    obtain ⟨s1, s2, s3, s4⟩ := s
    have hs2 : s3 = nI (2 ^ a 0) := hs2
    subst hs2
    have hs3 : Fr SM M s4 := hs3
    refine ⟨(s1, s2, s4), ?_, hs1, hs3⟩
    show f_X12_lunch_B35 s4 255 (nI k) x3 s1 s2 (nI (2 ^ a 0)) = _
    unfold f_X12_lunch_B35
    rw [mo_g12 (sm_mr hM hs3).1, bb_some, one_sl (by omega), if_pos (nI_le (Nat.le_refl _) (by omega))]) 1048576 0 (-1, 0, 0, M) (Nat.zero_le _) ⟨rfl, rfl, fr_refl⟩ (by omega)
  obtain ⟨r1, r2, r3⟩ := r
  have h1 : (r1, r2) = fo (lfo a k) (2 ^ a 0) (-1, 0) := h1
  have e : f_X12_lunch_L35 M 255 (nI k) x3 (-1) 0 0 = some (r1, r2, r3) := e
  exact ⟨r3, by rw [← h1]; exact e, h2⟩
theorem call_lunch {M : Mem} (hI : Inv M) (a1 a2 a3 : Int32) (h3 : a3 = 0 ∨ a3 = 1) : ∃ (r : Int32) (M1 M2 : Mem), f_X11_lunch M 1 a1 a2 a3 = some (r, M1) ∧ shp M1 255 = some (.inl 12) ∧ f_X12_lunch M1 255 a1 a2 a3 = some (r, M2) ∧ Inv M2 := by
  have hS := hI.1
  exact qm hI a1 (fC := f_X11_lunch M 1 a1 a2 a3) (fM := fun M => f_X12_lunch M 255 a1 a2 a3) (bad := -1) (fun e1 e2 => ⟨by simp [f_X11_lunch, d_r0 hS, t_ob hS, e1], by simp [f_X12_lunch, ob_at (m_shp hS), e2]⟩) (fun o a ho hO e1 hC => by
    have h8 := hO.1.1
    by_cases hneg : a2 < 0
    · exact ⟨-1, M, by simp [f_X11_lunch, d_r0 hS, t_ob hS, e1, ho, hneg], qf_refl, fun M2 e3 hM hq => ⟨M2, by simp [f_X12_lunch, ob_at (m_shp hS), e3, mo_g12 hM, ii_neg M2 hneg (L := 0) (by decide)], qf_refl⟩⟩
    by_cases hle : a2 ≤ nI (a 0)
    · obtain ⟨k, hk31, rfl⟩ := nI_of hneg
      have hk : k ≤ a 0 := (nI_leI hk31 (by omega)).mp hle
      obtain ⟨M1, e, ⟨v0, v1⟩, fr1⟩ := c_lunch hC hO (show k ≤ 8 by omega)
      have hS1 := fr_sk fr1 hS
      refine ⟨if a3 = 0 then M1.1 107 0 else M1.1 107 1, M1, ?_, sp_q fr1, fun M2 e3 hM hq => ?_⟩
      · unfold f_X11_lunch
        rw [d_r0 hS, bb_some, t_ob hS, bb_some, e1, bb_some, if_neg ho, if_neg hneg, co_g0 hC, bb_some, if_pos hle, d_r9 hS, bb_some, ob_at (p_shp hS), bb_some, e, bb_some, d_r9 hS1, bb_some, bb_some, gI_at (p_shp hS1), gI_at (p_shp hS1), bb_some, bb_some]
        split <;> rfl
      · obtain ⟨A, eA, hA, fA⟩ := mo_told hM hO
        obtain ⟨B, eB, fB⟩ := mo_lunch hA hO (show k ≤ 8 by omega) a3
        refine ⟨B, ?_, qf_trans (st_q fA) (sm_q fB)⟩
        have i1 : f_X12_isIn M2 (nI k) 0 (nI (a 0)) = some 1 := ii_lt M2 hk (by omega)
        show f_X12_lunch M1 255 a1 (nI k) a3 = _
        unfold f_X12_lunch
        rw [ob_at (m_shp hS1), bb_some, e3, bb_some]
        show (if (1 : Int32) = 0 then _ else _) = _
        rw [if_neg (by decide), mo_g12 hM, bb_some, i1, bb_some, if_neg (by decide), mo_ob hM, bb_some, eA, bb_some, eB, bb_some, v0, v1]
        split <;> rfl
    · exact ⟨-1, M, by simp [f_X11_lunch, d_r0 hS, t_ob hS, e1, ho, hneg, co_g0 hC, hle], qf_refl, fun M2 e3 hM hq => ⟨M2, by simp [f_X12_lunch, ob_at (m_shp hS), e3, mo_g12 hM, iin_le M2 (show a 0 < 2 ^ 30 by omega) hneg hle], qf_refl⟩⟩)
