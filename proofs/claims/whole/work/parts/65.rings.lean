/-! who lifts, of the model -/
def SM : Nat → Nat → Prop := fun n k => n = 255 ∧ 16 ≤ k ∧ k ≤ 18
theorem sm_mr {M M' : Mem} {a kd h : Nat → Nat} (hM : MR M a kd h) (hF : Fr SM M M') : MR M' a kd h := mr_fr hM hF (fun n k h => by have := h.1; have := h.2; omega)
theorem two_bits {t s w x : Nat} (ht : t < 2 ^ s) (hw : w < s) (hb : t.testBit w = true) : ¬ t ||| 2 ^ s = 2 ^ x := fun e => by
  have h1 : (2 ^ x).testBit w = true := by rw [← e, Nat.testBit_or, hb]; rfl
  have h2 : (2 ^ x).testBit s = true := by rw [← e, Nat.testBit_or, tw, Bool.or_true]
  rw [Nat.testBit_two_pow] at h1 h2
  have h1 : x = w := by simpa using h1
  have h2 : x = s := by simpa using h2
  omega
theorem mo_J155 {M : Mem} (hS : Sk M) (x1 x2 : Int32) {s r : Nat} (h18 : M.1 255 18 = 0) : ∃ M', f_X12_rings_J155 M 255 x1 x2 (nI s) (nI r) = some (.inl (nI s + 1, M')) ∧ LM M' (some (s, r, 2 ^ s)) ∧ Fr SM M M' := by
  refine ⟨wI (wI M 255 16 (nI s)) 255 17 (nI r), ?_, ⟨by simp [wI], by simp [wI], ?_⟩, fr_put (fr_wI ⟨rfl, by omega, by omega⟩) ⟨rfl, by omega, by omega⟩⟩
  · unfold f_X12_rings_J155
    rw [pI_at (m_shp hS), bb_some, pI_at (m_shp (M := wI M 255 16 (nI s)) hS), bb_some]
  · rw [if_pos rfl, wI_rd, if_neg (by omega), wI_rd, if_neg (by omega)]; exact h18
theorem mo_J121 {M : Mem} (hS : Sk M) (x1 x2 : Int32) {s r : Nat} : ∃ M', f_X12_rings_J121 M 255 x1 x2 (nI s) (nI r) 0 = some (.inl (nI s + 1, M')) ∧ LM M' (some (s, r, 2 ^ s)) ∧ Fr SM M M' := by
  have hF : Fr SM M (wI M 255 18 0) := fr_wI ⟨rfl, by omega, by omega⟩
  obtain ⟨M', e, h1, h2⟩ := mo_J155 (M := wI M 255 18 0) hS x1 x2 (s := s) (r := r) (wI_same _ _ _ _)
  refine ⟨M', ?_, h1, fr_trans hF h2⟩
  unfold f_X12_rings_J121
  rw [pZ_at (m_shp hS) _ (Or.inl rfl), bb_some, if_pos rfl, e]
theorem mo_J72 {M : Mem} {d s r : Nat} {a : Nat → Nat} {l : Option (Nat × Nat × Nat)} (hM : MO M a) (hO : OkO a) (hd : d < a 0) (hs : s < a 0) (hr : r < 2000) (hl : LM M l) (hk : LOk s l) (x2 : Int32) : ∃ M', f_X12_rings_J72 M 255 (nI d) x2 (nI s) (nI r) = some (.inl (nI s + 1, M')) ∧ LM M' (ofr a d s r l) ∧ Fr SM M M' := by
  have h8 := hO.1.1
  have hS := hM.1
  have sh := m_shp hS
  by_cases h0 : r = 0
  · subst h0
    refine ⟨M, by simp [f_X12_rings_J72, nI_0], ?_, fr_refl⟩
    cases l with
    | none => exact hl
    | some l => obtain ⟨w, q, t⟩ := l; exact hl
  have z0 : ¬ nI r = 0 := nI_ne0 (by omega) (by omega)
  cases l with
  | none =>
    have g0 : gI M 12 255 16 = some (-1) := by rw [gI_at sh, hl.1]
    obtain ⟨M', e, h1, h2⟩ := mo_J121 hS (nI d) x2 (s := s) (r := r)
    refine ⟨M', ?_, ?_, h2⟩
    · unfold f_X12_rings_J72 f_X12_rings_J99
      rw [if_neg z0, g0, bb_some, if_pos rfl, bb_some, if_pos rfl, e]
    · show LM M' (if r = 0 then none else some (s, r, 2 ^ s))
      rw [if_neg h0]; exact h1
  | some l =>
    obtain ⟨w, q, t⟩ := l
    obtain ⟨l1, l2, l3⟩ := hl
    obtain ⟨k1, k2, k3, k4⟩ := hk
    have g0 : gI M 12 255 16 = some (nI w) := by rw [gI_at sh, l1]
    have g1 : gI M 12 255 17 = some (nI q) := by rw [gI_at sh, l2]
    have z1 : ¬ nI w = -1 := nI_nm1 (by omega)
    have le : nI r ≤ nI q ↔ r ≤ q := nI_leI (by omega) (by omega)
    have ee : nI r = nI q ↔ r = q := nI_eq (by omega) (by omega)
    show ∃ M', _ ∧ LM M' (if r = 0 then some (w, q, t) else if q < r then some (w, q, t) else if r = q then some (if gp a w d ≤ gp a s d then w else s, q, t ||| 2 ^ s) else some (s, r, 2 ^ s)) ∧ _
    rw [if_neg h0]
    unfold f_X12_rings_J72 f_X12_rings_J99
    rw [if_neg z0, g0, bb_some, if_neg z1, g1, bb_some]
    by_cases hlt : q < r
    · rw [if_neg (fun h => by have := le.mp h; omega), if_pos hlt]
      exact ⟨M, rfl, ⟨l1, l2, l3⟩, fr_refl⟩
    · rw [if_pos (le.mpr (by omega)), if_neg hlt, bb_some, if_neg z1, bb_some]
      by_cases heq : r = q
      · rw [if_pos (ee.mpr heq), if_pos heq]
        have hF : Fr SM M (wI M 255 18 1) := fr_wI ⟨rfl, by omega, by omega⟩
        have hM9 : MO (wI M 255 18 1) a := mo_fr hM hF (fun n k h => by have := h.1; have := h.2; omega)
        have g09 : gI (wI M 255 18 1) 12 255 16 = some (nI w) := by rw [gI_at (m_shp hM9.1), wI_rd, if_neg (by omega), l1]
        have tb := two_bits (x := if gp a w d ≤ gp a s d then w else s) k3 k1 k4
        unfold f_X12_rings_J121
        rw [pZ_at sh _ (Or.inr rfl), bb_some, if_neg (by decide), mo_ob hM9, bb_some, mo_off hM9 hO hs hd, bb_some, g09, bb_some, bb_some, mo_off hM9 hO (show w < a 0 by omega) hd, bb_some]
        have gg : nI (gp a s d) < nI (gp a w d) ↔ gp a s d < gp a w d := by
          have := gp_30 hO hd hs; have := gp_30 hO hd (show w < a 0 by omega)
          exact nI_ltI (by omega) (by omega)
        by_cases hg : gp a w d ≤ gp a s d
        · rw [if_neg (fun h => by have := gg.mp h; omega)]
          rw [if_pos hg] at tb ⊢
          exact ⟨_, rfl, ⟨by rw [wI_rd, if_neg (by omega)]; exact l1, by rw [wI_rd, if_neg (by omega)]; exact l2, by rw [if_neg tb]; exact wI_same _ _ _ _⟩, hF⟩
        · rw [if_pos (gg.mpr (by omega))]
          rw [if_neg hg] at tb ⊢
          unfold f_X12_rings_J155
          rw [pI_at (m_shp hM9.1), bb_some, pI_at (m_shp (M := wI (wI M 255 18 1) 255 16 (nI s)) hM9.1), bb_some]
          exact ⟨_, rfl, ⟨by rw [wI_rd, if_neg (by omega)]; exact wI_same _ _ _ _, by rw [wI_same, heq], by rw [if_neg tb, wI_rd, if_neg (by omega), wI_rd, if_neg (by omega)]; exact wI_same _ _ _ _⟩, fr_put (fr_put hF ⟨rfl, by omega, by omega⟩) ⟨rfl, by omega, by omega⟩⟩
      · rw [if_neg (fun h => heq (ee.mp h)), if_neg heq]
        exact mo_J121 hS (nI d) x2
theorem mo_rings {M : Mem} {d m : Nat} {a kd h : Nat → Nat} (hM : MR M a kd h) (hO : OkO a) (hd : d < a 0) (hm : m < 2 ^ a 0) : ∃ M', f_X12_rings M 255 (nI d) (nI m) = some M' ∧ LM M' (lft a kd h d m) ∧ Fr SM M M' := by
  have h8 := hO.1.1
  have p8 := pw8 h8
  have hS := hM.1.1
  have hh : ∀ s, s < a 0 → h s < 1000 := fun s hs => (hM.2 s hs).2.2
  let A := wI (wI (wI M 255 16 (-1)) 255 17 (-1)) 255 18 0
  have fA : Fr SM M A := fr_put (fr_put (fr_wI ⟨rfl, by omega, by omega⟩) ⟨rfl, by omega, by omega⟩) ⟨rfl, by omega, by omega⟩
  have lA : LM A none := ⟨by simp [A, wI], by simp [A, wI], by simp [A, wI]⟩
  have eA : f_X12_rings M 255 (nI d) (nI m) = (f_X12_holds A (nI m) (nI d)).bind fun v4 => (if v4 = 0 then (f_X12_rings_L36 A 255 (nI d) (nI m) 0).bind fun r6 => some r6 else (pI A 12 255 16 (nI d)).bind fun M7 => (pI M7 12 255 17 1).bind fun M8 => some M8) := by
    unfold f_X12_rings
    rw [pI_at (m_shp hS), bb_some, pI_at (m_shp (M := wI M 255 16 (-1)) hS), bb_some, pZ_at (m_shp (M := wI (wI M 255 16 (-1)) 255 17 (-1)) hS) _ (Or.inl rfl), bb_some]
  rw [eA, m_holds A (show m < 2 ^ 31 by omega) (show d < 32 by omega), bb_some]
  unfold lft
  by_cases hbd : m.testBit d = true
  · rw [if_pos hbd, if_neg (by decide), if_pos hbd, pI_at (m_shp (M := A) hS), bb_some, pI_at (m_shp (M := wI A 255 16 (nI d)) hS), bb_some]
    exact ⟨_, rfl, ⟨by rw [wI_rd, if_neg (by omega)]; exact wI_same _ _ _ _, wI_same _ _ _ _, by rw [if_pos rfl, wI_rd, if_neg (by omega), wI_rd, if_neg (by omega)]; exact wI_same _ _ _ _⟩, fr_put (fr_put fA ⟨rfl, by omega, by omega⟩) ⟨rfl, by omega, by omega⟩⟩
  · rw [if_neg hbd, if_pos rfl, if_neg hbd]
    obtain ⟨B, eB, lB, fB⟩ := iter_rel (f := fun s : Int32 × Mem => f_X12_rings_B36 s.2 255 (nI d) (nI m) s.1) (a 0) (fun i s => s.1 = nI i ∧ LM s.2 (fo (lst a kd h d m) i none) ∧ Fr SM M s.2) (fun r => LM r (fo (lst a kd h d m) (a 0) none) ∧ Fr SM M r) (fun i s hi ⟨hs1, hs2, hs3⟩ => by
      obtain ⟨s1, s2⟩ := s
      have hs1 : s1 = nI i := hs1
      subst hs1
      have hs2 : LM s2 (fo (lst a kd h d m) i none) := hs2
      have hs3 : Fr SM M s2 := hs3
      have hM2 := sm_mr hM hs3
      have lk := lok_fo (kd := kd) (d := d) (m := m) hO hh i (by omega)
      show (∃ s', f_X12_rings_B36 s2 255 (nI d) (nI m) (nI i) = some (.inl s') ∧ s'.1 = nI (i + 1) ∧ LM s'.2 (lst a kd h d m i (fo (lst a kd h d m) i none)) ∧ _) ∨ _
      unfold f_X12_rings_B36 lst
      rw [mo_g12 hM2.1, bb_some, if_neg (nI_ge hi (by omega)), m_holds s2 (show m < 2 ^ 31 by omega) (show i < 32 by omega), bb_some]
      have skip : f_X12_rings_J72 s2 255 (nI d) (nI m) (nI i) 0 = some (.inl (nI i + 1, s2)) := by simp [f_X12_rings_J72]
      by_cases h1 : m.testBit i = true
      · rw [if_pos h1, if_neg (by decide), mo_ob hM2.1, bb_some, mo_hears hM2.1 hO hi hd, bb_some]
        by_cases h2 : hr a i d = true
        · rw [if_pos h2, if_neg (by decide), if_pos ⟨h1, h2⟩, bb_some, mo_ring hM2 hO hd hi hm, bb_some]
          obtain ⟨D, eD, lD, fD⟩ := mo_J72 hM2.1 hO hd hi (rg_lt (kd := kd) (d := d) (m := m) hO hi (hh i hi)) hs2 lk (nI m)
          rw [eD]
          exact Or.inl ⟨_, rfl, nI_1 i, lD, fr_trans hs3 fD⟩
        · rw [if_neg h2, if_pos rfl, if_neg (fun h => h2 h.2), skip]
          exact Or.inl ⟨_, rfl, nI_1 i, hs2, hs3⟩
      · rw [if_neg h1, if_pos rfl, if_neg (fun h => h1 h.1), skip]
        exact Or.inl ⟨_, rfl, nI_1 i, hs2, hs3⟩) (fun s ⟨hs1, hs2, hs3⟩ => by
      obtain ⟨s1, s2⟩ := s
      have hs1 : s1 = nI (a 0) := hs1
      subst hs1
      have hs3 : Fr SM M s2 := hs3
      exact ⟨s2, by simp [f_X12_rings_B36, mo_g12 (sm_mr hM hs3).1], hs2, hs3⟩) 1048576 0 (0, A) (by omega) ⟨rfl, lA, fA⟩ (by omega)
    have eB : f_X12_rings_L36 A 255 (nI d) (nI m) 0 = some B := eB
    rw [eB, bb_some]
    exact ⟨B, rfl, lB, fB⟩
/-- as the office is told -/
def ST : Nat → Nat → Prop := fun n _ => n = 259 ∨ n = 260
theorem mo_told {M : Mem} {a : Nat → Nat} (hM : MO M a) (hO : OkO a) : ∃ M', f_X12_asTold M 255 = some M' ∧ MR M' a (kdO a) (fun _ => 0) ∧ Fr ST M M' := by
  have h8 := hO.1.1
  have hS := hM.1
  obtain ⟨B, eB, lB, fB⟩ := iter_rel (f := fun s : Int32 × Mem => f_X12_asTold_B2 s.2 255 s.1) 8 (fun i s => s.1 = nI i ∧ (∀ j, j < i → j < a 0 → s.2.1 260 j = nI (kdO a j) ∧ s.2.1 259 j = 0) ∧ Fr ST M s.2) (fun r => (∀ j, j < a 0 → r.1 260 j = nI (kdO a j) ∧ r.1 259 j = 0) ∧ Fr ST M r) (fun i s hi ⟨hs1, hs2, hs3⟩ => by
    obtain ⟨s1, s2⟩ := s
    have hs1 : s1 = nI i := hs1
    subst hs1
    have hs3 : Fr ST M s2 := hs3
    have hs2 : ∀ j, j < i → j < a 0 → s2.1 260 j = nI (kdO a j) ∧ s2.1 259 j = 0 := hs2
    have hS2 := fr_sk hs3 hS
    let A := wI s2 259 i 0
    have fA : Fr ST M A := fr_put hs3 (Or.inl rfl)
    have hMA : MO A a := mo_fr hM fA (fun n k h => by unfold ST at h; omega)
    have eA : sI s2 0 259 (nI i) 0 = some A := by rw [sI_at (m_s259 hS2) hi (by omega), nar0]
    have eJ : ∀ v, f_X12_asTold_J38 A 255 (nI i) 260 (nI i) v = some (.inl (nI i + 1, wI A 260 i v)) := fun v => by
      unfold f_X12_asTold_J38
      rw [sI_at (m_s260 hMA.1) hi (by omega), nar0, bb_some]
    have n8 : ¬ 8 ≤ nI i := nI_ge (b := 8) hi (by omega)
    have key : ∀ v, (i < a 0 → v = nI (kdO a i)) → (∀ j, j < i + 1 → j < a 0 → (wI A 260 i v).1 260 j = nI (kdO a j) ∧ (wI A 260 i v).1 259 j = 0) ∧ Fr ST M (wI A 260 i v) := fun v hv => by
      refine ⟨fun j hj hj' => ⟨?_, ?_⟩, fr_put fA (Or.inr rfl)⟩
      · rw [wI_rd]
        by_cases e : j = i
        · subst e; rw [if_pos ⟨rfl, rfl⟩, hv hj']
        · rw [if_neg (by omega), wI_rd, if_neg (by omega)]; exact (hs2 j (by omega) hj').1
      · rw [wI_rd, if_neg (by omega), wI_rd]
        by_cases e : j = i
        · subst e; rw [if_pos ⟨rfl, rfl⟩]
        · rw [if_neg (by omega)]; exact (hs2 j (by omega) hj').2
    show (∃ s', f_X12_asTold_B2 s2 255 (nI i) = some (.inl s') ∧ _) ∨ _
    unfold f_X12_asTold_B2
    rw [if_neg n8, m_r14 hS2, bb_some, eA, bb_some, m_r15 hMA.1, bb_some, mo_g12 hMA, bb_some]
    by_cases hia : i < a 0
    · rw [if_neg (nI_ge hia (by omega)), mo_ob hMA, bb_some, mo_of0 hMA hi, bb_some, eJ]
      exact Or.inl ⟨_, rfl, nI_1 i, key _ (fun _ => rfl)⟩
    · rw [if_pos (nI_le (by omega) (by omega)), eJ]
      exact Or.inl ⟨_, rfl, nI_1 i, key _ (fun h => absurd h hia)⟩) (fun s ⟨hs1, hs2, hs3⟩ => by
    obtain ⟨s1, s2⟩ := s
    have hs1 : s1 = nI 8 := hs1
    subst hs1
    exact ⟨s2, by simp [f_X12_asTold_B2, show nI 8 = 8 from rfl], fun j hj => hs2 j (by omega) hj, hs3⟩) 1048576 0 (0, M) (by omega) ⟨rfl, fun j hj => absurd hj (by omega), fr_refl⟩ (by omega)
  have eB : f_X12_asTold_L2 M 255 0 = some B := eB
  refine ⟨B, by rw [f_X12_asTold, eB, bb_some], ⟨mo_fr hM fB (fun n k h => by unfold ST at h; omega), fun s hs => ⟨⟨(lB s hs).1, (lB s hs).2⟩, ?_, by show 0 < 1000; omega⟩⟩, fB⟩
  exact (hO.2.1 s hs).1
theorem sm_q {M M' : Mem} (h : Fr SM M M') : Qf M M' := fr_q h (fun n k hh => by have := hh.1; unfold zT; omega)
theorem st_q {M M' : Mem} (h : Fr ST M M') : Qf M M' := fr_q h (fun n k hh => by unfold ST at hh; unfold zT; omega)
theorem sl_q {M M' : Mem} {n : Nat} (hn : n ∈ liL) (h : Fr (SL n) M M') : Qf M M' := fr_q h (fun q k hh => by have := hh.1; have := li_num hn; unfold zT; omega)
/-- an office's call whose class side writes -/
theorem qm {α : Type} {M : Mem} (hI : Inv M) (a1 : Int32) {fC : Option (α × Mem)} {fM : Mem → Option (α × Mem)} {bad : α}
    (hn : f_X9_officeAt M 2 a1 = some 0 → f_X12_isOffice M 255 a1 = some (0, M) → fC = some (bad, M) ∧ fM M = some (bad, M))
    (hs : ∀ o a, o ≠ 0 → OkO a → f_X9_officeAt M 2 a1 = some o → CO M o a → ∃ r M1, fC = some (r, M1) ∧ Qf M M1 ∧ ∀ M2, f_X12_isOffice M1 255 a1 = some (1, M2) → MO M2 a → Qf M1 M2 → ∃ M3, fM M1 = some (r, M3) ∧ Qf M2 M3) :
    ∃ (r : α) (M1 M2 : Mem), fC = some (r, M1) ∧ shp M1 255 = some (.inl 12) ∧ fM M1 = some (r, M2) ∧ Inv M2 := by
  rcases ofs hI a1 with ⟨e1, e2⟩ | ⟨o, a, ho, hor, hO, e1, hC, e2⟩
  · obtain ⟨h1, h2⟩ := hn e1 (e2 M qf_refl)
    exact ⟨bad, M, M, h1, m_shp hI.1, h2, hI⟩
  · obtain ⟨r, M1, h1, hq, h2⟩ := hs o a ho hO e1 hC
    obtain ⟨M2, e3, hF, hM⟩ := e2 M1 hq
    obtain ⟨M3, h3, h4⟩ := h2 M2 e3 hM (iof_q hF)
    exact ⟨r, M1, M3, h1, m_shp (hq.1 hI.1), h3, inv_q hI (qf_trans hq (qf_trans (iof_q hF) h4))⟩
theorem a1000 (M : Mem) : ∀ i, i < 8 → aI M 0 1000 (nI i) = some (nI 0) := by
  have h : ∀ i, i < 8 → aI Mem0 0 1000 (nI i) = some (nI 0) := by decide
  exact h
theorem iin_le (M : Mem) {n : Nat} (hn : n < 2 ^ 30) {x : Int32} (h0 : ¬ x < 0) (h : ¬ x ≤ nI n) : f_X12_isIn M x 0 (nI n) = some 0 := by
  have h' : nI n < x := by rw [Int32.le_iff_toInt_le] at h; rw [Int32.lt_iff_toInt_lt]; omega
  rw [f_X12_isIn, if_neg h0, if_pos h']
theorem call_who {M : Mem} (hI : Inv M) (a1 a2 a3 a4 : Int32) (h4 : a4 = 0 ∨ a4 = 1) : ∃ (r : Int32) (M1 M2 : Mem), f_X11_who M 1 a1 a2 a3 a4 = some (r, M1) ∧ shp M1 255 = some (.inl 12) ∧ f_X12_who M1 255 a1 a2 a3 a4 = some (r, M2) ∧ Inv M2 := by
  have hS := hI.1
  exact qm hI a1 (fC := f_X11_who M 1 a1 a2 a3 a4) (fM := fun M => f_X12_who M 255 a1 a2 a3 a4) (bad := -1) (fun e1 e2 => ⟨by simp [f_X11_who, d_r0 hS, t_ob hS, e1], by simp [f_X12_who, ob_at (m_shp hS), e2]⟩) (fun o a ho hO e1 hC => by
    have h8 := hO.1.1
    have p8 := pw8 h8
    rcases io_cases a2 (n := a 0) (by omega) with hx | ⟨d, hd, rfl⟩
    · exact ⟨-1, M, by simp [f_X11_who, d_r0 hS, t_ob hS, e1, ho, ob_at (co_shp hC), c_noDesk hC hx], qf_refl, fun M2 e3 hM hq => ⟨M2, by simp [f_X12_who, ob_at (m_shp hS), e3, mo_ob hM, mo_noDesk hM hO hx], qf_refl⟩⟩
    have as : ∀ {n : Nat}, n < 31 → (1 : Int32) <<< (nI n &&& 31) - 1 = nI (2 ^ n - 1) := fun h => all_sl h
    by_cases hneg : a3 < 0
    · exact ⟨-1, M, by simp [f_X11_who, d_r0 hS, t_ob hS, e1, ho, ob_at (co_shp hC), c_hasDesk hC hO hd, hneg], qf_refl, fun M2 e3 hM hq => ⟨M2, by simp [f_X12_who, ob_at (m_shp hS), e3, mo_ob hM, mo_isDesk hM hO hd, mo_g12 hM, ii_neg M2 hneg (L := 0) (by decide)], qf_refl⟩⟩
    by_cases hle : a3 ≤ nI (2 ^ a 0 - 1)
    · obtain ⟨m, hm31, rfl⟩ := nI_of hneg
      have hm : m < 2 ^ a 0 := by
        have := (nI_leI hm31 (by omega)).mp hle
        have := Nat.two_pow_pos (a 0)
        omega
      have hn67 : 67 ∈ liL := by decide
      obtain ⟨M1, f1, l1, fr1⟩ := c_told (h := fun _ => 0) (q := 1000) hn67 hC hO hd hm (fun _ _ => by omega) (fun M' _ s hs => a1000 M' s (by omega))
      have hS1 := fr_sk fr1 hS
      have sh1 := li_shp hS1 hn67
      have ev : f_X5_everybody M o = some (nI (2 ^ a 0 - 1)) := c_every hC hO
      have base : f_X11_who M 1 a1 (nI d) (nI m) a4 = ((gI M1 3 67 0).bind fun v12 => if v12 = -1 then some (-1, M1) else if a4 = 0 then (gI M1 3 67 0).bind fun v16 => some (v16, M1) else (gI M1 3 67 1).bind fun v18 => some (v18, M1)) := by
        unfold f_X11_who
        rw [d_r0 hS, bb_some, t_ob hS, bb_some, e1, bb_some, if_neg ho, ob_at (co_shp hC), bb_some, c_hasDesk hC hO hd, bb_some, if_neg (by decide), if_neg hneg, bb_some, ev, bb_some, if_pos hle, d_r4 hS, bb_some, ob_at (li_shp hS hn67), bb_some, f1, bb_some, d_r4 hS1, bb_some]
        simp only [bb_some]
      have hmod : ∀ M2, f_X12_isOffice M1 255 a1 = some (1, M2) → MO M2 a → ∃ M3, f_X12_who M1 255 a1 (nI d) (nI m) a4 = (if a4 = 0 then (gI M3 12 255 16).bind fun v11 => some (v11, M3) else (gI M3 12 255 17).bind fun v12 => some (v12, M3)) ∧ LM M3 (lft a (kdO a) (fun _ => 0) d m) ∧ Sk M3 ∧ Qf M2 M3 := fun M2 e3 hM => by
        obtain ⟨A, eA, hA, fA⟩ := mo_told hM hO
        obtain ⟨B, eB, lB, fB⟩ := mo_rings hA hO hd hm
        refine ⟨B, ?_, lB, fr_sk fB hA.1.1, qf_trans (st_q fA) (sm_q fB)⟩
        have i1 : f_X12_isIn M2 (nI m) 0 (nI (2 ^ a 0 - 1)) = some 1 := ii_lt M2 (by omega) (by omega)
        unfold f_X12_who
        rw [ob_at (m_shp hS1), bb_some, e3, bb_some]
        show (if (1 : Int32) = 0 then _ else _) = _
        rw [if_neg (by decide), mo_ob hM, bb_some, mo_isDesk hM hO hd, bb_some, if_neg (by decide), mo_g12 hM, bb_some, all_sl (by omega), i1, bb_some, if_neg (by decide), bb_some, eA, bb_some, mo_ob hA.1, bb_some, eB, bb_some]
      have lk := lok_lft (kd := kdO a) (h := fun _ => 0) (m := m) hO hd (fun _ _ => by omega)
      cases el : lft a (kdO a) (fun _ => 0) d m with
      | none =>
        rw [el] at l1
        refine ⟨-1, M1, ?_, sl_q hn67 fr1, fun M2 e3 hM hq => ?_⟩
        · rw [base, gI_at sh1, bb_some, l1.1, if_pos rfl]
        · obtain ⟨M3, e4, l3, hS3, hq3⟩ := hmod M2 e3 hM
          rw [el] at l3
          refine ⟨M3, ?_, hq3⟩
          show f_X12_who M1 255 a1 (nI d) (nI m) a4 = _
          rw [e4, gI_at (m_shp hS3), gI_at (m_shp hS3), bb_some, bb_some, l3.1, l3.2.1]
          split <;> rfl
      | some l =>
        obtain ⟨w, r, t⟩ := l
        rw [el] at l1 lk
        have hw : ¬ nI w = -1 := nI_nm1 (by have := lk.1; omega)
        refine ⟨if a4 = 0 then nI w else nI r, M1, ?_, sl_q hn67 fr1, fun M2 e3 hM hq => ?_⟩
        · rw [base, gI_at sh1, gI_at sh1, bb_some, l1.1, if_neg hw, bb_some, bb_some, l1.2.1]
          split <;> rfl
        · obtain ⟨M3, e4, l3, hS3, hq3⟩ := hmod M2 e3 hM
          rw [el] at l3
          refine ⟨M3, ?_, hq3⟩
          show f_X12_who M1 255 a1 (nI d) (nI m) a4 = _
          rw [e4, gI_at (m_shp hS3), gI_at (m_shp hS3), bb_some, bb_some, l3.1, l3.2.1]
          split <;> rfl
    · exact ⟨-1, M, by simp [f_X11_who, d_r0 hS, t_ob hS, e1, ho, ob_at (co_shp hC), c_hasDesk hC hO hd, hneg, c_every hC hO, hle], qf_refl, fun M2 e3 hM hq => ⟨M2, by simp only [f_X12_who, ob_at (m_shp hS), e3, mo_ob hM, mo_isDesk hM hO hd, mo_g12 hM, bb_some, all_sl (show a 0 < 31 by omega), iin_le M2 (show 2 ^ a 0 - 1 < 2 ^ 30 by omega) hneg hle, if_true, if_neg (show ¬ (1 : Int32) = 0 by decide)], qf_refl⟩⟩)
/-- the tied ones are those of the least ring -/
def TSp (p : Nat → Bool) (f : Nat → Nat) (i : Nat) : Option (Nat × Nat × Nat) → Prop
  | none => ∀ s, s < i → p s = true → f s = 0
  | some (_, r, t) => 1 ≤ r ∧ (∀ s, t.testBit s = (decide (s < i) && p s && decide (f s = r))) ∧ ∀ s, s < i → p s = true → f s = 0 ∨ r ≤ f s
theorem tsp_fo {a kd h : Nat → Nat} {d m : Nat} : ∀ i, TSp (fun s => m.testBit s && hr a s d) (rg a kd h d m) i (fo (lst a kd h d m) i none) := by
  intro i
  induction i with
  | zero => exact fun s hs => absurd hs (by omega)
  | succ i ih =>
    show TSp _ _ (i + 1) (lst a kd h d m i (fo (lst a kd h d m) i none))
    generalize fo (lst a kd h d m) i none = l at ih ⊢
    unfold lst
    generalize rg a kd h d m = f at ih ⊢
    by_cases hc : m.testBit i = true ∧ hr a i d = true
    · rw [if_pos hc]
      have hp : (m.testBit i && hr a i d) = true := by rw [hc.1, hc.2]; rfl
      cases l with
      | none =>
        show TSp _ _ (i + 1) (if f i = 0 then none else some (i, f i, 2 ^ i))
        by_cases h0 : f i = 0
        · rw [if_pos h0]
          intro s hs hps
          rcases (show s < i ∨ s = i by omega) with h | rfl
          · exact ih s h hps
          · exact h0
        · rw [if_neg h0]
          refine ⟨by omega, fun s => ?_, fun s hs hps => ?_⟩
          · rw [Nat.testBit_two_pow]
            by_cases e : i = s
            · subst e; simp [hc.1, hc.2]
            · rw [decide_eq_false e]
              symm
              by_cases h1 : s < i
              · cases h2 : (m.testBit s && hr a s d) with
                | false =>
                  show (decide (s < i + 1) && (m.testBit s && hr a s d) && decide (f s = f i)) = false
                  rw [h2, Bool.and_false, Bool.false_and]
                | true =>
                  have := ih s h1 h2
                  rw [decide_eq_false (p := f s = f i) (by omega), Bool.and_false]
              · rw [decide_eq_false (p := s < i + 1) (by omega)]; rfl
          · rcases (show s < i ∨ s = i by omega) with h | rfl
            · exact Or.inl (ih s h hps)
            · exact Or.inr (Nat.le_refl _)
      | some l =>
        obtain ⟨w, q, t⟩ := l
        obtain ⟨g0, g1, g2⟩ := ih
        show TSp _ _ (i + 1) (if f i = 0 then some (w, q, t) else if q < f i then some (w, q, t) else if f i = q then some (if gp a w d ≤ gp a i d then w else i, q, t ||| 2 ^ i) else some (i, f i, 2 ^ i))
        have keep : f i ≠ q → (f i = 0 ∨ q ≤ f i) → TSp (fun s => m.testBit s && hr a s d) f (i + 1) (some (w, q, t)) := fun hne hor => by
          refine ⟨g0, fun s => ?_, fun s hs hps => ?_⟩
          · rw [g1 s]
            by_cases e : s = i
            · subst e
              rw [decide_eq_false (p := f s = q) hne, Bool.and_false, Bool.and_false]
            · by_cases h1 : s < i
              · rw [decide_eq_true h1, decide_eq_true (show s < i + 1 by omega)]
              · rw [decide_eq_false h1, decide_eq_false (show ¬ s < i + 1 by omega)]
          · rcases (show s < i ∨ s = i by omega) with h | rfl
            · exact g2 s h hps
            · exact hor
        by_cases h0 : f i = 0
        · rw [if_pos h0]; exact keep (by omega) (Or.inl h0)
        · rw [if_neg h0]
          by_cases h1 : q < f i
          · rw [if_pos h1]; exact keep (by omega) (Or.inr (by omega))
          · rw [if_neg h1]
            by_cases h2 : f i = q
            · rw [if_pos h2]
              refine ⟨g0, fun s => ?_, fun s hs hps => ?_⟩
              · rw [Nat.testBit_or, g1 s, Nat.testBit_two_pow]
                by_cases e : i = s
                · subst e; simp [hc.1, hc.2, h2]
                · rw [decide_eq_false e, Bool.or_false]
                  by_cases h3 : s < i
                  · rw [decide_eq_true h3, decide_eq_true (show s < i + 1 by omega)]
                  · rw [decide_eq_false h3, decide_eq_false (show ¬ s < i + 1 by omega)]
              · rcases (show s < i ∨ s = i by omega) with h | rfl
                · exact g2 s h hps
                · exact Or.inr (by omega)
            · rw [if_neg h2]
              refine ⟨by omega, fun s => ?_, fun s hs hps => ?_⟩
              · rw [Nat.testBit_two_pow]
                by_cases e : i = s
                · subst e; simp [hc.1, hc.2]
                · rw [decide_eq_false e]
                  symm
                  by_cases h3 : s < i
                  · cases h4 : (m.testBit s && hr a s d) with
                    | false =>
                      show (decide (s < i + 1) && (m.testBit s && hr a s d) && decide (f s = f i)) = false
                      rw [h4, Bool.and_false, Bool.false_and]
                    | true =>
                      have := g2 s h3 h4
                      rw [decide_eq_false (p := f s = f i) (by omega), Bool.and_false]
                  · rw [decide_eq_false (p := s < i + 1) (by omega)]; rfl
              · rcases (show s < i ∨ s = i by omega) with h | rfl
                · have := g2 s h hps
                  omega
                · exact Or.inr (Nat.le_refl _)
    · rw [if_neg hc]
      have hp : (m.testBit i && hr a i d) = false := by cases e1 : m.testBit i <;> cases e2 : hr a i d <;> simp_all
      cases l with
      | none =>
        intro s hs hps
        rcases (show s < i ∨ s = i by omega) with h | rfl
        · exact ih s h hps
        · have hps : (m.testBit s && hr a s d) = true := hps
          rw [hp] at hps; cases hps
      | some l =>
        obtain ⟨w, q, t⟩ := l
        obtain ⟨g0, g1, g2⟩ := ih
        refine ⟨g0, fun s => ?_, fun s hs hps => ?_⟩
        · rw [g1 s]
          by_cases e : s = i
          · subst e
            show (decide (s < s) && (m.testBit s && hr a s d) && decide (f s = q)) = (decide (s < s + 1) && (m.testBit s && hr a s d) && decide (f s = q))
            rw [hp, Bool.and_false, Bool.and_false]
          · by_cases h1 : s < i
            · rw [decide_eq_true h1, decide_eq_true (show s < i + 1 by omega)]
            · rw [decide_eq_false h1, decide_eq_false (show ¬ s < i + 1 by omega)]
        · rcases (show s < i ∨ s = i by omega) with h | rfl
          · exact g2 s h hps
          · have hps : (m.testBit s && hr a s d) = true := hps
            rw [hp] at hps; cases hps
theorem clr_lt {n d : Nat} : clr (2 ^ n - 1) d < 2 ^ n := by
  have := clr_le (2 ^ n - 1) d
  have := Nat.two_pow_pos n
  omega
theorem clr_self {m d : Nat} (hd : d < 32) : (clr m d).testBit d = false := by rw [clr_bit hd]; simp
/-- those tied, as the model counts them -/
theorem mo_tied {M : Mem} {a kd h : Nat → Nat} (hM : MR M a kd h) (hO : OkO a) {d m w r t : Nat} (hd : d < a 0) (hm : m < 2 ^ a 0) (hmd : m.testBit d = false) (hl : lft a kd h d m = some (w, r, t)) (l : LM M (some (w, r, t))) : f_X12_tied_L49 M 255 (nI d) (nI m) 0 0 = some (nI t) := by
  have h8 := hO.1.1
  have p8 := pw8 h8
  have hS := hM.1.1
  have lk := lok_lft (kd := kd) (h := h) (m := m) hO hd (fun s hs => (hM.2 s hs).2.2)
  rw [hl] at lk
  obtain ⟨k1, k2, k3, k4⟩ := lk
  have ts := tsp_fo (a := a) (kd := kd) (h := h) (d := d) (m := m) (a 0)
  unfold lft at hl
  rw [if_neg (by rw [hmd]; decide)] at hl
  rw [hl] at ts
  obtain ⟨t0, t1, t2⟩ := ts
  have e : f_X12_tied_L49 M 255 (nI d) (nI m) (nI 0) 0 = some (nI (fo (fun s acc => if (m.testBit s && hr a s d && decide (rg a kd h d m s = r)) = true then acc ||| 2 ^ s else acc) (a 0) 0)) := by
    refine lp (α := Nat) (a 0) _ nI nI 0 (fun i v hi => ?_) (fun v => by simp [f_X12_tied_B49, mo_g12 hM.1]) (by omega)
    have g0 : gI M 12 255 16 = some (nI w) := by rw [gI_at (m_shp hS), l.1]
    have g1 : gI M 12 255 17 = some (nI r) := by rw [gI_at (m_shp hS), l.2.1]
    have z1 : ¬ nI w = -1 := nI_nm1 (by omega)
    have hg := rg_lt (kd := kd) (d := d) (m := m) hO hi (hM.2 i hi).2.2
    have ee : nI (rg a kd h d m i) = nI r ↔ rg a kd h d m i = r := nI_eq (by omega) (by omega)
    have o0 : nI v ||| 0 = nI v := by rw [show (0 : Int32) = nI 0 from rfl, or_at, Nat.or_zero]
    show f_X12_tied_B49 M 255 (nI d) (nI m) (nI v) (nI i) = _
    unfold f_X12_tied_B49
    rw [mo_g12 hM.1, bb_some, if_neg (nI_ge hi (by omega)), g0, bb_some, if_neg z1, m_holds M (show m < 2 ^ 31 by omega) (show i < 32 by omega), bb_some, o0]
    by_cases h1 : m.testBit i = true
    · rw [if_pos h1, if_neg (by decide), mo_ob hM.1, bb_some, mo_hears hM.1 hO hi hd, bb_some]
      by_cases h2 : hr a i d = true
      · rw [if_pos h2, if_neg (by decide), bb_some, mo_ring hM hO hd hi hm, bb_some, g1, bb_some, one_sl (show i < 32 by omega), or_at]
        by_cases h3 : rg a kd h d m i = r
        · rw [if_pos (ee.mpr h3)]; simp [h1, h2, h3]
        · rw [if_neg (fun h => h3 (ee.mp h))]; simp [h3]
      · rw [if_neg h2, if_pos rfl]; simp [h2]
    · rw [if_neg h1, if_pos rfl]; simp [h1]
  rw [nI_0] at e
  rw [e]
  congr 2
  refine Nat.eq_of_testBit_eq (fun s => ?_)
  rw [fo_or (p := fun s => m.testBit s && hr a s d && decide (rg a kd h d m s = r)), t1 s, Nat.zero_testBit, Bool.false_or]
  show (decide (s < a 0) && (m.testBit s && hr a s d && decide (rg a kd h d m s = r))) = (decide (s < a 0) && (m.testBit s && hr a s d) && decide (rg a kd h d m s = r))
  simp only [Bool.and_assoc]
theorem mo_tied0 {M : Mem} {a kd h : Nat → Nat} (hM : MR M a kd h) (hO : OkO a) {d m : Nat} (l : LM M none) : f_X12_tied_L49 M 255 (nI d) (nI m) 0 0 = some 0 := by
  have h8 := hO.1.1
  have e : f_X12_tied_L49 M 255 (nI d) (nI m) (nI 0) 0 = some (nI (fo (fun s acc => acc) (a 0) 0)) := by
    refine lp (α := Nat) (a 0) _ nI nI 0 (fun i v hi => ?_) (fun v => by simp [f_X12_tied_B49, mo_g12 hM.1]) (by omega)
    have g0 : gI M 12 255 16 = some (-1) := by rw [gI_at (m_shp hM.1.1), l.1]
    have o0 : nI v ||| 0 = nI v := by rw [show (0 : Int32) = nI 0 from rfl, or_at, Nat.or_zero]
    show f_X12_tied_B49 M 255 (nI d) (nI m) (nI v) (nI i) = _
    unfold f_X12_tied_B49
    rw [mo_g12 hM.1, bb_some, if_neg (nI_ge hi (by omega)), g0, bb_some, if_pos rfl, o0]
  rw [show fo (fun (_ : Nat) (acc : Nat) => acc) (a 0) 0 = 0 from fo_inv (fun _ w => w = 0) rfl (fun _ w _ h => h), nI_0] at e
  exact e
theorem call_tied {M : Mem} (hI : Inv M) (a1 a2 : Int32)  : ∃ (r : Int32) (M1 M2 : Mem), f_X11_tied M 1 a1 a2 = some (r, M1) ∧ shp M1 255 = some (.inl 12) ∧ f_X12_tied M1 255 a1 a2 = some (r, M2) ∧ Inv M2 := by
  have hS := hI.1
  exact qm hI a1 (fC := f_X11_tied M 1 a1 a2) (fM := fun M => f_X12_tied M 255 a1 a2) (bad := -1) (fun e1 e2 => ⟨by simp [f_X11_tied, d_r0 hS, t_ob hS, e1], by simp [f_X12_tied, ob_at (m_shp hS), e2]⟩) (fun o a ho hO e1 hC => by
    have h8 := hO.1.1
    have p8 := pw8 h8
    rcases io_cases a2 (n := a 0) (by omega) with hx | ⟨d, hd, rfl⟩
    · exact ⟨-1, M, by simp [f_X11_tied, d_r0 hS, t_ob hS, e1, ho, ob_at (co_shp hC), c_noDesk hC hx], qf_refl, fun M2 e3 hM hq => ⟨M2, by simp [f_X12_tied, ob_at (m_shp hS), e3, mo_ob hM, mo_noDesk hM hO hx], qf_refl⟩⟩
    have hm : clr (2 ^ a 0 - 1) d < 2 ^ a 0 := clr_lt
    have hmd : (clr (2 ^ a 0 - 1) d).testBit d = false := clr_self (by omega)
    have cl : (((1 : Int32) <<< (nI (a 0) &&& 31)) - (1 : Int32)) &&& (((1 : Int32) <<< (nI d &&& 31)) ^^^ (-1 : Int32)) = nI (clr (2 ^ a 0 - 1) d) := by rw [all_sl (by omega), clr_at _ (by omega)]
    generalize clr (2 ^ a 0 - 1) d = m at hm hmd cl
    have hn67 : 67 ∈ liL := by decide
    obtain ⟨M1, f1, l1, fr1⟩ := c_told (h := fun _ => 0) (q := 1000) hn67 hC hO hd hm (fun _ _ => by omega) (fun M' _ s hs => a1000 M' s (by omega))
    have hS1 := fr_sk fr1 hS
    have sh1 := li_shp hS1 hn67
    have co : f_X5_othersThan M o (nI d) = some (nI m) := by rw [← cl]; rw [c_others hC hO hd, all_sl (by omega), clr_at _ (by omega)]
    have base : f_X11_tied M 1 a1 (nI d) = some (M1.1 67 2, M1) := by
      unfold f_X11_tied
      rw [d_r0 hS, bb_some, t_ob hS, bb_some, e1, bb_some, if_neg ho, ob_at (co_shp hC), bb_some, c_hasDesk hC hO hd, bb_some, if_neg (by decide), d_r4 hS, bb_some, bb_some, co, bb_some, ob_at (li_shp hS hn67), bb_some, f1, bb_some, d_r4 hS1, bb_some, gI_at sh1, bb_some]
    refine ⟨M1.1 67 2, M1, base, sl_q hn67 fr1, fun M2 e3 hM hq => ?_⟩
    obtain ⟨A, eA, hA, fA⟩ := mo_told hM hO
    obtain ⟨B, eB, lB, fB⟩ := mo_rings hA hO hd hm
    have hB := sm_mr hA fB
    have key : f_X12_tied_L49 B 255 (nI d) (nI m) 0 0 = some (M1.1 67 2) := by
      cases el : lft a (kdO a) (fun _ => 0) d m with
      | none =>
        rw [el] at l1 lB
        rw [mo_tied0 hB hO lB, l1.2.2]
      | some l =>
        obtain ⟨w, r, t⟩ := l
        rw [el] at l1 lB
        rw [mo_tied hB hO hd hm hmd el lB, l1.2.2]
    refine ⟨B, ?_, qf_trans (st_q fA) (sm_q fB)⟩
    show f_X12_tied M1 255 a1 (nI d) = _
    unfold f_X12_tied
    rw [ob_at (m_shp hS1), bb_some, e3, bb_some]
    show (if (1 : Int32) = 0 then _ else _) = _
    rw [if_neg (by decide), mo_ob hM, bb_some, mo_isDesk hM hO hd, bb_some, if_neg (by decide), bb_some, eA, bb_some, mo_g12 hA.1, bb_some, mo_ob hA.1, bb_some, cl, eB, bb_some, key, bb_some])
