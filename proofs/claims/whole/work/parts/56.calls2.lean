/-! calls that only read an office -/
theorem qp {M : Mem} (hI : Inv M) (a1 : Int32) {fC : Option Int32} {fM : Mem → Option (Int32 × Mem)} {bad : Int32}
    (hn : f_X9_officeAt M 2 a1 = some 0 → f_X12_isOffice M 255 a1 = some (0, M) → fC = some bad ∧ fM M = some (bad, M))
    (hs : ∀ o a M2, o ≠ 0 → OkO a → f_X9_officeAt M 2 a1 = some o → CO M o a → f_X12_isOffice M 255 a1 = some (1, M2) → MO M2 a → ∃ r, fC = some r ∧ ∃ M3, fM M = some (r, M3) ∧ Qf M2 M3) :
    ∃ (r : Int32) (M1 M2 : Mem), (fC = some r ∧ M1 = M) ∧ shp M1 255 = some (.inl 12) ∧ fM M1 = some (r, M2) ∧ Inv M2 := by
  rcases ofs hI a1 with ⟨e1, e2⟩ | ⟨o, a, ho, hor, hO, e1, hC, e2⟩
  · obtain ⟨h1, h2⟩ := hn e1 (e2 M qf_refl)
    exact ⟨bad, M, M, ⟨h1, rfl⟩, m_shp hI.1, h2, hI⟩
  · obtain ⟨M2, e3, hF, hM⟩ := e2 M qf_refl
    obtain ⟨r, h1, M3, h2, h3⟩ := hs o a M2 ho hO e1 hC e3 hM
    exact ⟨r, M, M3, ⟨h1, rfl⟩, m_shp hI.1, h2, inv_q hI (qf_trans (iof_q hF) h3)⟩
/-- how far off two numbers are -/
def dst (p q : Nat) : Nat := if p ≤ q then q - p else p - q
theorem dst_comm (p q : Nat) : dst p q = dst q p := by unfold dst; split <;> split <;> omega
theorem abs_at {p q : Nat} (hp : p < 2 ^ 30) (hq : q < 2 ^ 30) : iabs (nI p - nI q) = nI (dst p q) := by
  have e := pk_sub_toInt hp hq
  unfold iabs dst
  by_cases h : p ≤ q
  · rw [if_pos h]
    by_cases h2 : p = q
    · subst h2
      rw [pk_sub (Nat.le_refl p), Nat.sub_self]
      rfl
    · rw [if_neg (by rw [Int32.le_iff_toInt_le, e]; have : (0 : Int32).toInt = 0 := rfl; omega)]
      apply Int32.toInt_inj.mp
      rw [Int32.toInt_sub, e, nI_toInt (by omega)]
      have : (0 : Int32).toInt = 0 := rfl
      rw [this, Int.bmod_eq_of_le (by omega) (by omega)]
      omega
  · rw [if_neg h, if_pos (by rw [Int32.le_iff_toInt_le, e]; have : (0 : Int32).toInt = 0 := rfl; omega), pk_sub (by omega)]
theorem far_at (M : Mem) {p q : Nat} (hp : p < 2 ^ 31) (hq : q < 2 ^ 31) : f_X12_far M (nI p) (nI q) = some (nI (dst p q)) := by
  simp only [f_X12_far, dst, nI_leI hp hq]
  by_cases h : p ≤ q
  · rw [if_pos h, if_pos h, pk_sub h]
  · rw [if_neg h, if_neg h, pk_sub (by omega)]
theorem okc {a : Nat → Nat} (ha : OkO a) {c : Nat} (hc : c < a 1) : a (45 + 3 * c) < a 0 ∧ a (46 + 3 * c) ≤ 99 ∧ 1 ≤ a (47 + 3 * c) ∧ a (47 + 3 * c) ≤ 20 := ha.2.2 c hc
/-- the rings of all calls that one hears -/
def qrh (a : Nat → Nat) (s : Nat) : Nat := fo (fun c v => if hr a s (a (45 + 3 * c)) = true then v + (if a 3 = 0 then a (47 + 3 * c) else if a 3 < a (47 + 3 * c) then a 3 else a (47 + 3 * c)) else v) (a 1) 0
theorem call_quiet {M : Mem} (hI : Inv M) (a1 a2 : Int32)  : ∃ (r : Int32) (M1 M2 : Mem), (f_X11_quiet M 1 a1 a2 = some r ∧ M1 = M) ∧ shp M1 255 = some (.inl 12) ∧ f_X12_quiet M1 255 a1 a2 = some (r, M2) ∧ Inv M2 := by
  have hS := hI.1
  exact qp hI a1 (fC := f_X11_quiet M 1 a1 a2) (fM := fun M => f_X12_quiet M 255 a1 a2) (bad := -1) (fun e1 e2 => ⟨by simp [f_X11_quiet, d_r0 hS, t_ob hS, e1], by simp [f_X12_quiet, ob_at (m_shp hS), e2]⟩) (fun o a M2 ho hO e1 hC e3 hM => by
    have h8 := hO.1.1
    have h10 := hO.1.2.1
    have h20 := hO.1.2.2.2.1
    rcases io_cases a2 (n := a 0) (by omega) with hx | ⟨s, hs, rfl⟩
    · exact ⟨-1, by simp [f_X11_quiet, d_r0 hS, t_ob hS, e1, ho, ob_at (co_shp hC), c_noDesk hC hx], M2, by simp [f_X12_quiet, ob_at (m_shp hS), e3, mo_ob hM, mo_noDesk hM hO hx], qf_refl⟩
    · refine ⟨nI (qrh a s), ?_, M2, ?_, qf_refl⟩
      · have e : f_X5_ringsHeard_L4 M o (nI s) 0 0 = some (nI (qrh a s)) := by
          refine lp (α := Nat) (a 1) _ nI nI 0 (fun i v hi => ?_) (fun v => ?_) (by omega)
          · obtain ⟨g1, g2, g3, g4⟩ := okc hO hi
            simp only [f_X5_ringsHeard_B4, co_g1 hC, if_neg (nI_ge hi (show a 1 < 2 ^ 31 by omega)), co_r10 hC, co_cdesk hC hO hi, ob_at (co_shp hC), c_hears hC hO g1 hs, bb_some, co_g3 hC, co_r12 hC, co_pat hC hO hi]
            by_cases hh : hr a s (a (45 + 3 * i)) = true
            · simp only [if_pos hh, if_neg (show ¬ (1 : Int32) = 0 by decide)]
              by_cases h3 : a 3 = 0
              · simp [h3, nI_0, nI_add]
              · rw [if_neg (nI_ne0 (by omega) (by omega)), if_neg h3]
                simp only [imin, nI_ltI (show a 3 < 2 ^ 31 by omega) (show a (47 + 3 * i) < 2 ^ 31 by omega)]
                split <;> rw [nI_add]
            · simp [hh]
          · simp [f_X5_ringsHeard_B4, co_g1 hC]
        simp [f_X11_quiet, d_r0 hS, t_ob hS, e1, ho, ob_at (co_shp hC), c_hasDesk hC hO hs, f_X5_ringsHeard, e]
      · obtain ⟨v, q1, q2⟩ := mo_hd hM (i := 3) (by omega)
        have q2 : aI M2 0 256 (v + 3) = some (nI (a 3)) := q2
        have e : f_X12_quiet_L36 M2 255 (nI s) (nI (a 3)) 0 0 = some (nI (qrh a s)) := by
          refine lp (α := Nat) (a 1) _ nI nI 0 (fun i v hi => ?_) (fun v => ?_) (by omega)
          · obtain ⟨g1, g2, g3, g4⟩ := okc hO hi
            simp only [f_X12_quiet_B36, f_X12_quiet_J67, f_X12_quiet_J74, mo_g13 hM, if_neg (nI_ge hi (show a 1 < 2 ^ 31 by omega)), mo_ob hM, mo_oc2 hM (show i < 10 by omega), mo_oc0 hM (show i < 10 by omega), mo_hears hM hO hs g1, bb_some, nI_leI (show a (47 + 3 * i) < 2 ^ 31 by omega) (show a 3 < 2 ^ 31 by omega)]
            by_cases hh : hr a s (a (45 + 3 * i)) = true
            · simp only [if_pos hh, if_neg (show ¬ (1 : Int32) = 0 by decide)]
              by_cases h3 : a 3 = 0
              · simp [h3, nI_0, nI_add]
              · rw [if_neg (nI_nle (by omega) (by omega)), if_neg h3]
                by_cases h4 : a 3 < a (47 + 3 * i)
                · rw [if_neg (by omega), if_pos h4, nI_add]
                · rw [if_pos (by omega), if_neg h4, nI_add]
            · simp [hh]
          · simp [f_X12_quiet_B36, mo_g13 hM]
        simp [f_X12_quiet, ob_at (m_shp hS), e3, mo_ob hM, mo_isDesk hM hO hs, m_r0 hM.1, q1, q2, e])
/-- how far it is from a place to all calls; the best place -/
def way (a : Nat → Nat) (q : Nat) : Nat := fo (fun c v => v + dst (a (6 + 5 * a (45 + 3 * c))) q) (a 1) 0
def brd (a : Nat → Nat) : Nat := fo (fun i b => if nI (way a b) ≤ nI (way a (1 + i)) then b else 1 + i) 30 0
theorem call_board {M : Mem} (hI : Inv M) (a1 a2 : Int32) (h2 : a2 = 0 ∨ a2 = 1) : ∃ (r : Int32) (M1 M2 : Mem), (f_X11_board M 1 a1 a2 = some r ∧ M1 = M) ∧ shp M1 255 = some (.inl 12) ∧ f_X12_board M1 255 a1 a2 = some (r, M2) ∧ Inv M2 := by
  have hS := hI.1
  exact qp hI a1 (fC := f_X11_board M 1 a1 a2) (fM := fun M => f_X12_board M 255 a1 a2) (bad := -1) (fun e1 e2 => ⟨by simp [f_X11_board, d_r0 hS, t_ob hS, e1], by simp [f_X12_board, ob_at (m_shp hS), e2]⟩) (fun o a M2 ho hO e1 hC e3 hM => by
    have h8 := hO.1.1
    have h10 := hO.1.2.1
    have w1 : ∀ q, q ≤ 30 → f_X5_wayToCalls M o (nI q) = some (nI (way a q)) := fun q hq => by
      have e : f_X5_wayToCalls_L4 M o (nI q) 0 0 = some (nI (way a q)) := by
        refine lp (α := Nat) (a 1) _ nI nI 0 (fun i v hi => ?_) (fun v => ?_) (by omega)
        · obtain ⟨g1, g2, g3, g4⟩ := okc hO hi
          have g5 := (hO.2.1 _ g1).2.1
          simp only [f_X5_wayToCalls_B4, co_g1 hC, if_neg (nI_ge hi (show a 1 < 2 ^ 31 by omega)), co_r10 hC, co_r6 hC, co_cdesk hC hO hi, co_place hC hO g1, bb_some, abs_at (show a (6 + 5 * a (45 + 3 * i)) < 2 ^ 30 by omega) (show q < 2 ^ 30 by omega), nI_add]
        · simp [f_X5_wayToCalls_B4, co_g1 hC]
      simp [f_X5_wayToCalls, e]
    have w2 : ∀ q, q ≤ 30 → f_X12_boardOf M2 255 (nI q) = some (nI (way a q)) := fun q hq => by
      have e : f_X12_boardOf_L4 M2 255 (nI q) 0 0 = some (nI (way a q)) := by
        refine lp (α := Nat) (a 1) _ nI nI 0 (fun i v hi => ?_) (fun v => ?_) (by omega)
        · obtain ⟨g1, g2, g3, g4⟩ := okc hO hi
          have g5 := (hO.2.1 _ g1).2.1
          simp only [f_X12_boardOf_B4, mo_g13 hM, if_neg (nI_ge hi (show a 1 < 2 ^ 31 by omega)), mo_ob hM, mo_oc0 hM (show i < 10 by omega), mo_of1 hM (show a (45 + 3 * i) < 8 by omega), far_at M2 (show q < 2 ^ 31 by omega) (show a (6 + 5 * a (45 + 3 * i)) < 2 ^ 31 by omega), bb_some, nI_add, dst_comm q]
        · simp [f_X12_boardOf_B4, mo_g13 hM]
      simp [f_X12_boardOf, e]
    have b1 := lpI (f := fun s : Int32 × Int32 => f_X5_boardPlace_B4 M o s.1 s.2) 1 30 (fun i b => if nI (way a b) ≤ nI (way a (1 + i)) then b else 1 + i) nI nI (fun _ b => b ≤ 30) 0 (by omega) (fun i v hi hv => by
      refine ⟨?_, by split <;> omega⟩
      have : ¬ (30 : Int32) < nI (1 + i) := nI_nlt (b := 1 + i) (a := 30) (by omega) (by omega)
      simp only [f_X5_boardPlace_B4, if_neg this, ob_at (co_shp hC), w1 (1 + i) (by omega), w1 v hv, bb_some]
      split <;> rfl) (fun v hv => by
      have : (30 : Int32) < nI (1 + 30) := by decide
      simp [f_X5_boardPlace_B4, this]) (by omega)
    have b2 := lpI (f := fun s : Int32 × Int32 => f_X12_board_B15 M2 255 a2 s.1 s.2) 1 30 (fun i b => if nI (way a b) ≤ nI (way a (1 + i)) then b else 1 + i) nI nI (fun _ b => b ≤ 30) 0 (by omega) (fun i v hi hv => by
      refine ⟨?_, by split <;> omega⟩
      have : ¬ (30 : Int32) < nI (1 + i) := nI_nlt (b := 1 + i) (a := 30) (by omega) (by omega)
      simp only [f_X12_board_B15, if_neg this, mo_ob hM, w2 (1 + i) (by omega), w2 v hv, bb_some]
      split <;> rfl) (fun v hv => by
      have : (30 : Int32) < nI (1 + 30) := by decide
      simp [f_X12_board_B15, this]) (by omega)
    have c1 : f_X5_boardPlace_L4 M o 0 1 = some (nI (brd a)) := b1.1
    have c2 : f_X12_board_L15 M2 255 a2 0 1 = some (nI (brd a)) := b2.1
    have c3 : brd a ≤ 30 := b1.2
    rcases h2 with rfl | rfl
    · exact ⟨nI (brd a), by simp [f_X11_board, d_r0 hS, t_ob hS, e1, ho, ob_at (co_shp hC), f_X5_boardPlace, c1], M2, by simp [f_X12_board, ob_at (m_shp hS), e3, c2], qf_refl⟩
    · exact ⟨nI (way a (brd a)), by simp [f_X11_board, d_r0 hS, t_ob hS, e1, ho, ob_at (co_shp hC), f_X5_boardPlace, c1, w1 _ c3], M2, by simp [f_X12_board, ob_at (m_shp hS), e3, c2, mo_ob hM, w2 _ c3], qf_refl⟩)
/-- how many would hear one at a place; the quietest place -/
def hat (a : Nat → Nat) (d q : Nat) : Nat := fo (fun s v => if s = d then v else if a 2 < dst (a (6 + 5 * s)) q then v else v + 1) (a 0) 0
def qpl (a : Nat → Nat) (d : Nat) : Nat := fo (fun i b => if nI (hat a d b) ≤ nI (hat a d (1 + i)) then b else 1 + i) 30 0
theorem dst_30 {p q : Nat} (hp : p ≤ 30) (hq : q ≤ 30) : dst p q ≤ 30 := by unfold dst; split <;> omega
theorem call_seat {M : Mem} (hI : Inv M) (a1 a2 a3 : Int32) (h3 : a3 = 0 ∨ a3 = 1) : ∃ (r : Int32) (M1 M2 : Mem), (f_X11_seat M 1 a1 a2 a3 = some r ∧ M1 = M) ∧ shp M1 255 = some (.inl 12) ∧ f_X12_seat M1 255 a1 a2 a3 = some (r, M2) ∧ Inv M2 := by
  have hS := hI.1
  exact qp hI a1 (fC := f_X11_seat M 1 a1 a2 a3) (fM := fun M => f_X12_seat M 255 a1 a2 a3) (bad := -1) (fun e1 e2 => ⟨by simp [f_X11_seat, d_r0 hS, t_ob hS, e1], by simp [f_X12_seat, ob_at (m_shp hS), e2]⟩) (fun o a M2 ho hO e1 hC e3 hM => by
    have h8 := hO.1.1
    have h30 := hO.1.2.2.1
    rcases io_cases a2 (n := a 0) (by omega) with hx | ⟨d, hd, rfl⟩
    · exact ⟨-1, by simp [f_X11_seat, d_r0 hS, t_ob hS, e1, ho, ob_at (co_shp hC), c_noDesk hC hx], M2, by simp [f_X12_seat, ob_at (m_shp hS), e3, mo_ob hM, mo_noDesk hM hO hx], qf_refl⟩
    have w1 : ∀ q, q ≤ 30 → f_X5_hearersAt M o (nI d) (nI q) = some (nI (hat a d q)) := fun q hq => by
      have e : f_X5_hearersAt_L5 M o (nI d) (nI q) 0 0 = some (nI (hat a d q)) := by
        refine lp (α := Nat) (a 0) _ nI nI 0 (fun i v hi => ?_) (fun v => ?_) (by omega)
        · have g5 := (hO.2.1 _ hi).2.1
          have g6 := dst_30 g5 hq
          simp only [f_X5_hearersAt_B5, co_g0 hC, if_neg (nI_ge hi (show a 0 < 2 ^ 31 by omega)), co_r6 hC, co_place hC hO hi, co_g2 hC, bb_some, abs_at (show a (6 + 5 * i) < 2 ^ 30 by omega) (show q < 2 ^ 30 by omega), nI_eq (show i < 2 ^ 31 by omega) (show d < 2 ^ 31 by omega), nI_ltI (show a 2 < 2 ^ 31 by omega) (show dst (a (6 + 5 * i)) q < 2 ^ 31 by omega), nI_1]
          split
          · rfl
          · split <;> rfl
        · simp [f_X5_hearersAt_B5, co_g0 hC]
      simp [f_X5_hearersAt, e]
    have w2 : ∀ q, q ≤ 30 → f_X12_seatOf M2 255 (nI d) (nI q) = some (nI (hat a d q)) := fun q hq => by
      obtain ⟨v, q1, q2⟩ := mo_hd hM (i := 2) (by omega)
      have q2 : aI M2 0 256 (v + 2) = some (nI (a 2)) := q2
      have e : f_X12_seatOf_L5 M2 255 (nI d) (nI q) 0 0 = some (nI (hat a d q)) := by
        refine lp (α := Nat) (a 0) _ nI nI 0 (fun i v hi => ?_) (fun v => ?_) (by omega)
        · have g5 := (hO.2.1 _ hi).2.1
          have g6 := dst_30 g5 hq
          simp only [f_X12_seatOf_B5, mo_g12 hM, if_neg (nI_ge hi (show a 0 < 2 ^ 31 by omega)), mo_ob hM, mo_of1 hM (show i < 8 by omega), m_r0 hM.1, q1, q2, bb_some, far_at M2 (show a (6 + 5 * i) < 2 ^ 31 by omega) (show q < 2 ^ 31 by omega), nI_eq (show i < 2 ^ 31 by omega) (show d < 2 ^ 31 by omega), nI_ltI (show a 2 < 2 ^ 31 by omega) (show dst (a (6 + 5 * i)) q < 2 ^ 31 by omega), nI_1, Int32.add_zero]
          split
          · rfl
          · split <;> rfl
        · simp [f_X12_seatOf_B5, mo_g12 hM]
      simp [f_X12_seatOf, e]
    have b1 := lpI (f := fun s : Int32 × Int32 => f_X5_quietestPlace_B4 M o (nI d) s.1 s.2) 1 30 (fun i b => if nI (hat a d b) ≤ nI (hat a d (1 + i)) then b else 1 + i) nI nI (fun _ b => b ≤ 30) 0 (by omega) (fun i v hi hv => by
      refine ⟨?_, by split <;> omega⟩
      have : ¬ (30 : Int32) < nI (1 + i) := nI_nlt (b := 1 + i) (a := 30) (by omega) (by omega)
      simp only [f_X5_quietestPlace_B4, if_neg this, ob_at (co_shp hC), w1 (1 + i) (by omega), w1 v hv, bb_some]
      split <;> rfl) (fun v hv => by
      have : (30 : Int32) < nI (1 + 30) := by decide
      simp [f_X5_quietestPlace_B4, this]) (by omega)
    have b2 := lpI (f := fun s : Int32 × Int32 => f_X12_seat_B24 M2 255 (nI d) a3 s.1 s.2) 1 30 (fun i b => if nI (hat a d b) ≤ nI (hat a d (1 + i)) then b else 1 + i) nI nI (fun _ b => b ≤ 30) 0 (by omega) (fun i v hi hv => by
      refine ⟨?_, by split <;> omega⟩
      have : ¬ (30 : Int32) < nI (1 + i) := nI_nlt (b := 1 + i) (a := 30) (by omega) (by omega)
      simp only [f_X12_seat_B24, if_neg this, mo_ob hM, w2 (1 + i) (by omega), w2 v hv, bb_some]
      split <;> rfl) (fun v hv => by
      have : (30 : Int32) < nI (1 + 30) := by decide
      simp [f_X12_seat_B24, this]) (by omega)
    have c1 : f_X5_quietestPlace_L4 M o (nI d) 0 1 = some (nI (qpl a d)) := b1.1
    have c2 : f_X12_seat_L24 M2 255 (nI d) a3 0 1 = some (nI (qpl a d)) := b2.1
    have c3 : qpl a d ≤ 30 := b1.2
    rcases h3 with rfl | rfl
    · exact ⟨nI (qpl a d), by simp [f_X11_seat, d_r0 hS, t_ob hS, e1, ho, ob_at (co_shp hC), c_hasDesk hC hO hd, f_X5_quietestPlace, c1], M2, by simp [f_X12_seat, ob_at (m_shp hS), e3, mo_ob hM, mo_isDesk hM hO hd, c2], qf_refl⟩
    · exact ⟨nI (hat a d (qpl a d)), by simp [f_X11_seat, d_r0 hS, t_ob hS, e1, ho, ob_at (co_shp hC), c_hasDesk hC hO hd, f_X5_quietestPlace, c1, w1 _ c3], M2, by simp [f_X12_seat, ob_at (m_shp hS), e3, mo_ob hM, mo_isDesk hM hO hd, c2, w2 _ c3], qf_refl⟩)
