/-! loud -/
def ldf (a : Nat → Nat) (i b : Nat) : Nat := if nI (cb (fun s => hr a s (1 + i)) (a 0)) ≤ nI (cb (fun s => hr a s b) (a 0)) then b else 1 + i
def ldd (a : Nat → Nat) : Nat := fo (ldf a) (a 0 - 1) 0
theorem ldf_lt {a : Nat → Nat} {i b : Nat} (hi : i < a 0 - 1) (hb : b < a 0) : ldf a i b < a 0 := by unfold ldf; split <;> omega
theorem ld_w1 {M : Mem} {a : Nat → Nat} (hO : OkO a) (d : Nat) : f_J6_bitCount_0f7a4 M (nI (hb a d)) = some (nI (cb (fun s => hr a s d) (a 0))) := by
  rw [pc_at M _ (by have := hb_256 hO d; omega), pc_hb hO]
theorem ld_w2 {M2 : Mem} {a : Nat → Nat} (hM : MO M2 a) (hO : OkO a) {d : Nat} (hd : d < a 0) : f_X12_heardBy M2 255 (nI d) = some (nI (cb (fun s => hr a s d) (a 0))) := by
  have h8 := hO.1.1
  have e : f_X12_heardBy_L4 M2 255 (nI d) 0 0 = some (nI (cb (fun s => hr a s d) (a 0))) := by
    refine lp (α := Nat) (a 0) _ nI nI 0 (fun i v hi => ?_) (fun v => ?_) (by omega)
    · simp only [f_X12_heardBy_B4, mo_g12 hM, if_neg (nI_ge hi (show a 0 < 2 ^ 31 by omega)), mo_ob hM, mo_hears hM hO hi hd, bb_some]
      by_cases hh : hr a i d = true
      · simp [hh, nI_1]
      · simp [hh]
    · simp [f_X12_heardBy_B4, mo_g12 hM]
  simp [f_X12_heardBy, e]
theorem ld_b1 {M : Mem} {o : Nat} {a : Nat → Nat} (hC : CO M o a) (hO : OkO a) {i v : Nat} (hi : i < a 0 - 1) (hv : v < a 0) : f_X5_loudestDesk_B4 M o (nI v) (nI (1 + i)) = some (.inl (nI (ldf a i v), nI (1 + i) + 1)) := by
  have h8 := hO.1.1
  have w : ∀ d, f_J6_bitCount_0f7a4 M (nI (hb a d)) = some (nI (cb (fun s => hr a s d) (a 0))) := fun d => ld_w1 hO d
  have n1 : ¬ nI (a 0) ≤ nI (1 + i) := nI_ge (show 1 + i < a 0 by omega) (show a 0 < 2 ^ 31 by omega)
  have e1 := co_hear hC hO (show 1 + i < a 0 by omega)
  have e2 := co_hear hC hO hv
  have w1 := w (1 + i)
  have w2 := w v
  unfold f_X5_loudestDesk_B4 ldf
  generalize cb (fun s => hr a s (1 + i)) (a 0) = c1 at w1 ⊢
  generalize cb (fun s => hr a s v) (a 0) = c2 at w2 ⊢
  generalize hb a (1 + i) = b1 at e1 w1
  generalize hb a v = b2 at e2 w2
  rw [co_g0 hC, bb_some, if_neg n1, co_r13 hC, bb_some, e1, bb_some, w1, bb_some, bb_some, e2, bb_some, w2, bb_some]
  by_cases hh : nI c1 ≤ nI c2
  · rw [if_pos hh, if_pos hh]
  · rw [if_neg hh, if_neg hh]
theorem ld_c1 {M : Mem} {o : Nat} {a : Nat → Nat} (hC : CO M o a) (hO : OkO a) (h0 : 0 < a 0) : f_X5_loudestDesk M o = some (nI (ldd a)) ∧ ldd a < a 0 := by
  have h8 := hO.1.1
  have b1 := lpI (f := fun s : Int32 × Int32 => f_X5_loudestDesk_B4 M o s.1 s.2) 1 (a 0 - 1) (ldf a) nI nI (fun _ b => b < a 0) 0 h0 (fun i v hi hv => by
    exact ⟨ld_b1 hC hO hi hv, ldf_lt hi hv⟩) (fun v hv => by
    rw [show 1 + (a 0 - 1) = a 0 by omega]
    simp [f_X5_loudestDesk_B4, co_g0 hC]) (by omega)
  have e : f_X5_loudestDesk_L4 M o (nI 0) (nI 1) = some (nI (ldd a)) := b1.1
  rw [nI_0, show nI 1 = 1 from rfl] at e
  exact ⟨by simp [f_X5_loudestDesk, e], b1.2⟩
theorem ld_c2 {M2 : Mem} {a : Nat → Nat} (hM : MO M2 a) (hO : OkO a) (h0 : 0 < a 0) (a2 : Int32) : f_X12_loud_L22 M2 255 a2 0 1 = some (nI (ldd a)) := by
  have h8 := hO.1.1
  have b2 := lpI (f := fun s : Int32 × Int32 => f_X12_loud_B22 M2 255 a2 s.1 s.2) 1 (a 0 - 1) (ldf a) nI nI (fun _ b => b < a 0) 0 h0 (fun i v hi hv => by
    refine ⟨?_, ldf_lt hi hv⟩
    simp only [f_X12_loud_B22, mo_g12 hM, if_neg (nI_ge (show 1 + i < a 0 by omega) (show a 0 < 2 ^ 31 by omega)), mo_ob hM, ld_w2 hM hO (show 1 + i < a 0 by omega), ld_w2 hM hO hv, bb_some, ldf]
    split <;> rfl) (fun v hv => by
    rw [show 1 + (a 0 - 1) = a 0 by omega]
    simp [f_X12_loud_B22, mo_g12 hM]) (by omega)
  have e : f_X12_loud_L22 M2 255 a2 (nI 0) (nI 1) = some (nI (ldd a)) := b2.1
  rwa [nI_0, show nI 1 = 1 from rfl] at e
theorem call_loud {M : Mem} (hI : Inv M) (a1 a2 : Int32) (h2 : a2 = 0 ∨ a2 = 1) : ∃ (r : Int32) (M1 M2 : Mem), (f_X11_loud M 1 a1 a2 = some r ∧ M1 = M) ∧ shp M1 255 = some (.inl 12) ∧ f_X12_loud M1 255 a1 a2 = some (r, M2) ∧ Inv M2 := by
  have hS := hI.1
  exact qp hI a1 (fC := f_X11_loud M 1 a1 a2) (fM := fun M => f_X12_loud M 255 a1 a2) (bad := -1) (fun e1 e2 => ⟨by simp [f_X11_loud, d_r0 hS, t_ob hS, e1], by simp [f_X12_loud, ob_at (m_shp hS), e2]⟩) (fun o a M2 ho hO e1 hC e3 hM => by
    have h8 := hO.1.1
    by_cases h0 : a 0 = 0
    · exact ⟨-1, by simp [f_X11_loud, d_r0 hS, t_ob hS, e1, ho, co_g0 hC, h0, nI_0], M2, by simp [f_X12_loud, ob_at (m_shp hS), e3, mo_g12 hM, h0, nI_0], qf_refl⟩
    have n0 : ¬ nI (a 0) = 0 := nI_ne0 (by omega) (by omega)
    obtain ⟨c1, c3⟩ := ld_c1 hC hO (by omega)
    have c2 := ld_c2 hM hO (by omega) a2
    rcases h2 with rfl | rfl
    · exact ⟨nI (ldd a), by simp [f_X11_loud, d_r0 hS, t_ob hS, e1, ho, ob_at (co_shp hC), co_g0 hC, n0, c1], M2, by simp [f_X12_loud, ob_at (m_shp hS), e3, mo_g12 hM, n0, c2], qf_refl⟩
    · exact ⟨nI (cb (fun s => hr a s (ldd a)) (a 0)), by simp [f_X11_loud, d_r0 hS, t_ob hS, e1, ho, ob_at (co_shp hC), co_g0 hC, n0, c1, co_r13 hC, co_hear hC hO c3, ld_w1 hO], M2, by simp [f_X12_loud, ob_at (m_shp hS), e3, mo_g12 hM, n0, c2, mo_ob hM, ld_w2 hM hO c3], qf_refl⟩)
