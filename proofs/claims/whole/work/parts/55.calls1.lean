/-! the first calls -/
theorem lpI {α β ρ : Type} {f : β × Int32 → Option ((β × Int32) ⊕ ρ)} (k n : Nat) (g : Nat → α → α) (enc : α → β) (out : α → ρ) (I : Nat → α → Prop) (a : α) (h0 : I 0 a)
    (hs : ∀ i v, i < n → I i v → f (enc v, nI (k + i)) = some (.inl (enc (g i v), nI (k + i) + 1)) ∧ I (i + 1) (g i v))
    (hx : ∀ v, I n v → f (enc v, nI (k + n)) = some (.inr (out v))) (hn : n < 1048576) : iter f 1048576 (enc a, nI k) = some (out (fo g n a)) ∧ I n (fo g n a) := by
  have := iter_for (f := f) n g (fun i v => (enc v, nI (k + i))) out I (fun i v hi hv => by
    obtain ⟨h1, h2⟩ := hs i v hi hv
    exact ⟨by rw [h1, nI_1]; rfl, h2⟩) hx a h0 1048576 hn
  simpa using this
/-- from 0 on, with no need of an invariant -/
theorem lp {α β ρ : Type} {f : β × Int32 → Option ((β × Int32) ⊕ ρ)} (n : Nat) (g : Nat → α → α) (enc : α → β) (out : α → ρ) (a : α)
    (hs : ∀ i v, i < n → f (enc v, nI i) = some (.inl (enc (g i v), nI i + 1)))
    (hx : ∀ v, f (enc v, nI n) = some (.inr (out v))) (hn : n < 1048576) : iter f 1048576 (enc a, 0) = some (out (fo g n a)) := by
  have := (lpI (f := f) 0 n g enc out (fun _ _ => True) a trivial (fun i v hi _ => ⟨by rw [Nat.zero_add]; exact hs i v hi, trivial⟩) (fun v _ => by rw [Nat.zero_add]; exact hx v) hn).1
  rwa [nI_0] at this
theorem ii_n (M : Mem) {x l u : Nat} {L U : Int32} (hL : L = nI l) (hU : U = nI u) (hx : x < 2 ^ 31) (hl : l < 2 ^ 31) (hu : u < 2 ^ 31) : f_X12_isIn M (nI x) L U = some (if l ≤ x ∧ x ≤ u then 1 else 0) := by
  subst hL hU
  simp only [f_X12_isIn, nI_ltI hx hl, nI_ltI hu hx]
  by_cases h1 : x < l
  · rw [if_pos h1, if_neg (by omega)]
  · rw [if_neg h1]
    by_cases h2 : u < x
    · rw [if_pos h2, if_neg (by omega)]
    · rw [if_neg h2, if_pos (by omega)]
theorem ii_neg (M : Mem) {x L U : Int32} (h : x < 0) (hL : 0 ≤ L) : f_X12_isIn M x L U = some 0 := by
  have : x < L := by rw [Int32.lt_iff_toInt_lt] at *; rw [Int32.le_iff_toInt_le] at hL; omega
  rw [f_X12_isIn, if_pos this]
theorem sk_255 {M : Mem} (h : Sk M) : shp M 255 = some (.inl 12) := m_shp h
theorem call_fault {M : Mem} (hI : Inv M) (a1 : Int32)  : ∃ (r : Int32) (M1 M2 : Mem), (f_X11_fault M 1 a1 = some r ∧ M1 = M) ∧ shp M1 255 = some (.inl 12) ∧ (f_X12_fault M1 255 a1 = some r ∧ M2 = M1) ∧ Inv M2 := by
  have hS := hI.1
  have h5 := hI.2.1.2.2.1
  have h6 := hI.2.1.2.2.2.1
  have e5 : aI M 0 256 5 = some (M.1 256 5) := m_all hS (i := 5) (by omega)
  have e6 : aI M 0 256 6 = some (M.1 256 6) := m_all hS (i := 6) (by omega)
  have h5 : M.1 256 5 = M.1 2 2 := h5
  have h6 : M.1 256 6 = M.1 2 3 := h6
  by_cases h0 : a1 = 0
  · exact ⟨M.1 2 2, M, M, ⟨by simp [f_X11_fault, h0, d_r0 hS, gI_at (t_shp hS).2], rfl⟩, m_shp hS, ⟨by simp [f_X12_fault, h0, m_r0 hS, e5, h5], rfl⟩, hI⟩
  · by_cases h1 : a1 = 1
    · exact ⟨M.1 2 3, M, M, ⟨by simp [f_X11_fault, h1, d_r0 hS, gI_at (t_shp hS).2], rfl⟩, m_shp hS, ⟨by simp [f_X12_fault, h1, m_r0 hS, e6, h6], rfl⟩, hI⟩
    · exact ⟨-1, M, M, ⟨by simp [f_X11_fault, h0, h1], rfl⟩, m_shp hS, ⟨by simp [f_X12_fault, h0, h1], rfl⟩, hI⟩
theorem inv_cnt {M : Mem} (hI : Inv M) {s : Nat} (hs : s < 3) : ∃ n, cnt M s n := by
  obtain ⟨c, hc, -⟩ := hI.2.1.2.2.2.2
  have := hc s hs
  rw [Nat.zero_add] at this
  exact ⟨c s, this⟩
theorem call_count {M : Mem} (hI : Inv M) (a1 : Int32)  : ∃ (r : Int32) (M1 M2 : Mem), (f_X11_count M 1 a1 = some r ∧ M1 = M) ∧ shp M1 255 = some (.inl 12) ∧ (f_X12_count M1 255 a1 = some r ∧ M2 = M1) ∧ Inv M2 := by
  have hS := hI.1
  rcases io_cases a1 (n := 3) (by omega) with hx | ⟨k, hk, rfl⟩
  · refine ⟨-2, M, M, ⟨?_, rfl⟩, m_shp hS, ⟨?_, rfl⟩, hI⟩
    · unfold f_X11_count
      rcases hx with hx | hx
      · rw [if_pos hx]
      · rw [if_neg (show ¬ a1 < 3 by rw [Int32.lt_iff_toInt_lt]; rw [Int32.le_iff_toInt_le] at hx; have : (nI 3).toInt = (3 : Int32).toInt := rfl; omega)]
        split <;> rfl
    · have := ii_out M hx (by omega)
      rw [show nI 3 - 1 = 2 from rfl] at this
      simp [f_X12_count, this]
  · obtain ⟨n, hc⟩ := inv_cnt hI hk
    refine ⟨nI n, M, M, ⟨?_, rfl⟩, m_shp hS, ⟨?_, rfl⟩, hI⟩
    · have h1 : ¬ nI k < 0 := nI_pos (by omega)
      have h2 : nI k < 3 := nI_lt (b := 3) hk (by omega)
      simp [f_X11_count, h1, h2, d_r0 hS, t_r4 hS, t_cnt hS hk hc]
    · have e := ii_in M hk (n := 3) (by omega)
      rw [show nI 3 - 1 = 2 from rfl] at e
      simp [f_X12_count, e, m_r0 hS, m_cnt hS hk hc]
/-- the frame of a call that asks of an office -/
theorem iof_q {M M1 : Mem} (h : Fr (fun n k => n = 255 ∧ 11 ≤ k ∧ k ≤ 13) M M1) : Qf M M1 := fr_q h (by unfold zT; omega)
theorem call_curve {M : Mem} (hI : Inv M) (a1 a2 : Int32)  : ∃ (r : Int32) (M1 M2 : Mem), (f_X11_curve M 1 a1 a2 = some r ∧ M1 = M) ∧ shp M1 255 = some (.inl 12) ∧ f_X12_curve M1 255 a1 a2 = some (r, M2) ∧ Inv M2 := by
  have hS := hI.1
  rcases ofs hI a1 with ⟨e1, e2⟩ | ⟨o, a, ho, hor, hO, e1, hC, e2⟩
  · refine ⟨-1, M, M, ⟨?_, rfl⟩, m_shp hS, ?_, hI⟩
    · simp [f_X11_curve, d_r0 hS, t_ob hS, e1]
    · simp [f_X12_curve, ob_at (m_shp hS), e2 M qf_refl]
  · obtain ⟨M2, e3, hF, hM⟩ := e2 M qf_refl
    have h10 := hO.1.2.1
    have hI2 := inv_q hI (iof_q hF)
    by_cases h1 : a2 < 1
    · refine ⟨-1, M, M2, ⟨?_, rfl⟩, m_shp hS, ?_, hI2⟩
      · simp [f_X11_curve, d_r0 hS, t_ob hS, e1, ho, h1]
      · simp [f_X12_curve, ob_at (m_shp hS), e3, f_X12_isIn, h1]
    · by_cases h2 : a2 ≤ 12
      · have h2' : ¬ (12 : Int32) < a2 := by rw [Int32.lt_iff_toInt_lt]; rw [Int32.le_iff_toInt_le] at h2; omega
        refine ⟨fo (fun c v => v + imax 0 (nI (a (46 + 3 * c)) - nI (a 4) * (a2 - 1))) (a 1) 0, M, M2, ⟨?_, rfl⟩, m_shp hS, ?_, hI2⟩
        · have e : f_X11_curve_L32 M a2 o 0 0 = some (fo (fun c v => v + imax 0 (nI (a (46 + 3 * c)) - nI (a 4) * (a2 - 1))) (a 1) 0) := by
            refine lp (α := Int32) (a 1) _ id id 0 (fun i v hi => ?_) (fun v => ?_) (by omega)
            · simp [f_X11_curve_B32, co_g1 hC, nI_ge hi (show a 1 < 2 ^ 31 by omega), co_r11 hC, co_worth hC hO hi, ob_at (co_shp hC), c_faded hC]
            · simp [f_X11_curve_B32, co_g1 hC]
          simp [f_X11_curve, d_r0 hS, t_ob hS, e1, ho, h1, h2, e]
        · have e : f_X12_curve_L25 M2 255 a2 0 0 = some (fo (fun c v => v + imax 0 (nI (a (46 + 3 * c)) - nI (a 4) * (a2 - 1))) (a 1) 0) := by
            refine lp (α := Int32) (a 1) _ id id 0 (fun i v hi => ?_) (fun v => ?_) (by omega)
            · simp [f_X12_curve_B25, mo_g13 hM, nI_ge hi (show a 1 < 2 ^ 31 by omega), mo_ob hM, mo_oc1 hM (show i < 10 by omega), mo_gotBy hM]
            · simp [f_X12_curve_B25, mo_g13 hM]
          simp [f_X12_curve, ob_at (m_shp hS), e3, f_X12_isIn, h1, h2', e]
      · have h2' : (12 : Int32) < a2 := by rw [Int32.lt_iff_toInt_lt]; rw [Int32.le_iff_toInt_le] at h2; omega
        refine ⟨-1, M, M2, ⟨?_, rfl⟩, m_shp hS, ?_, hI2⟩
        · simp [f_X11_curve, d_r0 hS, t_ob hS, e1, ho, h1, h2]
        · simp [f_X12_curve, ob_at (m_shp hS), e3, f_X12_isIn, h1, h2']
