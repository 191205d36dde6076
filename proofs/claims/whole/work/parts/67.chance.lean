/-! odds and means -/
def rr : Option (Nat × Nat × Nat) → Nat
  | none => 0
  | some (_, r, _) => r
theorem rr_lt {i : Nat} {l : Option (Nat × Nat × Nat)} (h : LOk i l) : rr l < 2000 := by
  cases l with
  | none => show 0 < 2000; omega
  | some l => obtain ⟨w, r, t⟩ := l; exact h.2.1.2
theorem lc_rr {M : Mem} {n : Nat} {l : Option (Nat × Nat × Nat)} (h : LC M n l) : M.1 n 1 = nI (rr l) := by
  cases l with
  | none => exact h.2.1
  | some l => obtain ⟨w, r, t⟩ := l; exact h.2.1
def iT (a : Nat → Nat) (c r : Nat) : Bool := decide (r ≠ 0 ∧ r ≤ a (47 + 3 * c) ∧ (a 3 = 0 ∨ r ≤ a 3))
theorem iT0 (a : Nat → Nat) (c : Nat) : iT a c 0 = false := by simp [iT]
def gtN (a : Nat → Nat) (c r : Nat) : Nat := if iT a c r = true then a (46 + 3 * c) - a 4 * (r - 1) else 0
theorem gtN_le {a : Nat → Nat} (hO : OkO a) {c r : Nat} (hc : c < a 1) : gtN a c r ≤ 99 := by
  have := (okc hO hc).2.1
  unfold gtN
  split <;> omega
theorem c_inTime {M : Mem} {o : Nat} {a : Nat → Nat} (hC : CO M o a) (hO : OkO a) {c r : Nat} (hc : c < a 1) (hr : r < 2000) : f_X5_inTime M o (nI c) (nI r) = some (bI (iT a c r)) := by
  obtain ⟨g1, g2, g3, g4⟩ := okc hO hc
  have h3 := hO.1.2.2.2.1
  have e0 : nI r ≤ 0 ↔ r = 0 := by
    have := nI_leI (a := r) (b := 0) (by omega) (by omega)
    rw [nI_0] at this
    rw [this]; omega
  have e1 : nI (a (47 + 3 * c)) < nI r ↔ a (47 + 3 * c) < r := nI_ltI (by omega) (by omega)
  have e2 : nI (a 3) < nI r ↔ a 3 < r := nI_ltI (by omega) (by omega)
  have e3 : nI (a 3) = 0 ↔ a 3 = 0 := nI_eq (b := 0) (by omega) (by omega)
  unfold f_X5_inTime iT
  rw [co_r12 hC, bb_some, co_pat hC hO hc, bb_some, co_g3 hC, bb_some, bb_some]
  by_cases h0 : r = 0
  · rw [if_pos (e0.mpr h0), decide_eq_false (by omega)]; rfl
  · rw [if_neg (fun h => h0 (e0.mp h))]
    by_cases h1 : a (47 + 3 * c) < r
    · rw [if_pos (e1.mpr h1), decide_eq_false (by omega)]; rfl
    · rw [if_neg (fun h => h1 (e1.mp h))]
      by_cases h2 : a 3 = 0
      · rw [if_pos (e3.mpr h2), decide_eq_true (by omega)]; rfl
      · rw [if_neg (fun h => h2 (e3.mp h))]
        by_cases h4 : a 3 < r
        · rw [if_pos (e2.mpr h4), decide_eq_false (by omega)]; rfl
        · rw [if_neg (fun h => h4 (e2.mp h)), decide_eq_true (by omega)]; rfl
theorem fade_at {w f r : Nat} (hw : w ≤ 99) (hf : f ≤ 9) (h0 : r ≠ 0) (hr : r < 2000) : imax 0 (nI w - nI f * (nI r - 1)) = nI (w - f * (r - 1)) := by
  have e : nI r - 1 = nI (r - 1) := pk_sub (b := 1) (by omega)
  have hz : f * (r - 1) ≤ 9 * 2000 := Nat.mul_le_mul hf (by omega)
  rw [e, pk_mul]
  generalize f * (r - 1) = z at hz
  unfold imax
  by_cases h : z ≤ w
  · rw [pk_sub h]
    by_cases h2 : w - z = 0
    · rw [h2, nI_0, if_neg (by decide)]
    · rw [if_pos (show (0 : Int32) < nI (w - z) from nI_lt (a := 0) (by omega) (by omega))]
  · rw [if_neg, show w - z = 0 by omega, nI_0]
    have := pk_sneg (a := w) (b := z) (by omega) (by omega)
    rw [Int32.lt_iff_toInt_lt] at *
    omega
theorem c_gotAt {M : Mem} {o : Nat} {a : Nat → Nat} (hC : CO M o a) (hO : OkO a) {c r : Nat} (hc : c < a 1) (hr : r < 2000) : f_X5_gotAt M o (nI c) (nI r) = some (nI (gtN a c r)) := by
  obtain ⟨g1, g2, g3, g4⟩ := okc hO hc
  have h4 := hO.1.2.2.2.2
  unfold f_X5_gotAt gtN
  rw [ob_at (co_shp hC), bb_some, c_inTime hC hO hc hr, bb_some]
  by_cases h : iT a c r = true
  · have h0 : r ≠ 0 := (of_decide_eq_true h).1
    rw [h]
    show ((gR M 5 o 11).bind fun v3 => (aI M 0 v3 (nI c)).bind fun v4 => (some ()).bind fun _ => (f_X5_faded M o v4 (nI r)).bind fun v5 => some v5) = some (nI (a (46 + 3 * c) - a 4 * (r - 1)))
    rw [co_r11 hC, bb_some, co_worth hC hO hc, bb_some, bb_some, c_faded hC, bb_some, fade_at g2 h4 h0 hr]
  · rw [if_neg h, show iT a c r = false by simpa using h]; rfl
theorem mo_isLifted {M : Mem} {a : Nat → Nat} (hM : MO M a) (hO : OkO a) {c : Nat} (hc : c < a 1) {l : Option (Nat × Nat × Nat)} (hl : LM M l) (hk : LOk (a 0) l) : f_X12_isLifted M 255 (nI c) = some (bI (iT a c (rr l))) := by
  obtain ⟨g1, g2, g3, g4⟩ := okc hO hc
  have h8 := hO.1.1
  have h10 := hO.1.2.1
  have h3 := hO.1.2.2.2.1
  have sh := m_shp hM.1
  unfold f_X12_isLifted
  cases l with
  | none =>
    rw [gI_at sh, bb_some, hl.1, if_pos rfl]
    show _ = some (bI (iT a c 0))
    rw [iT0]; rfl
  | some l =>
    obtain ⟨w, r, t⟩ := l
    obtain ⟨l1, l2, l3⟩ := hl
    obtain ⟨k1, k2, k3, k4⟩ := hk
    obtain ⟨p, p1, p2, p3⟩ := mo_rd hM
    have p33 := p3 3 (by omega)
    have e0 : nI p + 3 = nI (p + 3) := nI_add p 3
    have e1 : nI r ≤ nI (a (47 + 3 * c)) ↔ r ≤ a (47 + 3 * c) := nI_leI (by omega) (by omega)
    have e2 : nI (a 3) < nI r ↔ a 3 < r := nI_ltI (by omega) (by omega)
    have e3 : nI (a 3) = 0 ↔ a 3 = 0 := nI_eq (b := 0) (by omega) (by omega)
    have g16 : gI M 12 255 16 = some (nI w) := by rw [gI_at sh, l1]
    have g17 : gI M 12 255 17 = some (nI r) := by rw [gI_at sh, l2]
    rw [g16, bb_some, if_neg (nI_nm1 (by omega)), g17, bb_some, mo_ob hM, bb_some, mo_oc2 hM (by omega), bb_some]
    show _ = some (bI (decide (r ≠ 0 ∧ r ≤ a (47 + 3 * c) ∧ (a 3 = 0 ∨ r ≤ a 3))))
    by_cases h1 : r ≤ a (47 + 3 * c)
    · rw [if_pos (e1.mpr h1), p2, bb_some, p1, bb_some, e0, p33, bb_some]
      by_cases h2 : a 3 = 0
      · rw [if_pos (e3.mpr h2), decide_eq_true (by omega)]; rfl
      · rw [if_neg (fun h => h2 (e3.mp h)), bb_some, bb_some, bb_some, e0, p33, bb_some]
        by_cases h4 : a 3 < r
        · rw [if_pos (e2.mpr h4), decide_eq_false (by omega)]; rfl
        · rw [if_neg (fun h => h4 (e2.mp h)), decide_eq_true (by omega)]; rfl
    · rw [if_neg (fun h => h1 (e1.mp h)), decide_eq_false (by omega)]; rfl
theorem mo_got {M : Mem} {a : Nat → Nat} (hM : MO M a) (hO : OkO a) {c r : Nat} (hc : c < a 1) (hr : r < 2000) (h : iT a c r = true) : f_X12_gotBy M 255 (nI (a (46 + 3 * c))) (nI r) = some (nI (gtN a c r)) := by
  obtain ⟨g1, g2, g3, g4⟩ := okc hO hc
  have h4 := hO.1.2.2.2.2
  have h0 : r ≠ 0 := (of_decide_eq_true h).1
  rw [mo_gotBy hM, fade_at g2 h4 h0 hr, gtN, if_pos h]
def L0 (a : Nat → Nat) (d m : Nat) : Option (Nat × Nat × Nat) := lft a (kdO a) (fun _ => 0) d m
theorem L0_ok {a : Nat → Nat} (hO : OkO a) {d m : Nat} (hd : d < a 0) : LOk (a 0) (L0 a d m) := lok_lft hO hd (fun _ _ => by omega)
/-- what one mask brings -/
def vlu (a : Nat → Nat) (c f m : Nat) : Nat := if f = 0 then (if iT a c (rr (L0 a (a (45 + 3 * c)) m)) = true then 1 else 0) else gtN a c (rr (L0 a (a (45 + 3 * c)) m))
theorem vlu_le {a : Nat → Nat} (hO : OkO a) {c f m : Nat} (hc : c < a 1) : vlu a c f m ≤ 99 := by
  have := gtN_le hO (r := rr (L0 a (a (45 + 3 * c)) m)) hc
  unfold vlu
  (repeat' split) <;> omega
def sumf (a : Nat → Nat) (c f m v : Nat) : Nat := v + wgt a m * vlu a c f m
theorem c_toldL {M : Mem} {n o d m : Nat} {a : Nat → Nat} (hn : n ∈ liL) (hC : CO M o a) (hO : OkO a) (hd : d < a 0) (hm : m < 2 ^ a 0) : ∃ M', f_X3_asTold M n o (nI d) (nI m) 1000 = some M' ∧ LC M' n (L0 a d m) ∧ Fr (SL n) M M' := by
  have h8 := hO.1.1
  exact c_told (h := fun _ => 0) (q := 1000) hn hC hO hd hm (fun _ _ => by omega) (fun M' _ s hs => a1000 M' s (by omega))
theorem c_rB {M : Mem} {o c f m v : Nat} {a : Nat → Nat} (hC : CO M o a) (hO : OkO a) (hc : c < a 1) (hf : f ≤ 1) (hm : m < 2 ^ a 0) (hv : M.2.1 84 0 = lN v) : ∃ M', f_X0_reckonCall_B8 M 84 o (nI c) (nI f) (nI m) = some (.inl (nI (m + 1), M')) ∧ M'.2.1 84 0 = lN (sumf a c f m v) ∧ Fx (SL 86) M M' := by
  have h8 := hO.1.1
  have p8 := pw8 h8
  have h10 := hO.1.2.1
  obtain ⟨g1, g2, g3, g4⟩ := okc hO hc
  have hS := hC.1
  have hw := wgt_le hO m
  have ht := (ten8 h8).2
  have h86 : 86 ∈ liL := by decide
  unfold f_X0_reckonCall_B8
  rw [ob_at (co_shp hC), bb_some, c_every hC hO, bb_some, if_neg (nI_nlt (by omega) (by omega)), c_wgt hC hO (by omega), bb_some]
  by_cases h0 : wgt a m = 0
  · rw [if_pos ((lgle (by omega)).mpr h0), nI_1]
    exact ⟨M, rfl, by rw [hv, sumf, h0, Nat.zero_mul, Nat.add_zero], fx_refl⟩
  · rw [if_neg (fun h => h0 ((lgle (by omega)).mp h))]
    obtain ⟨A, eA, lA, fA⟩ := c_toldL h86 hC hO g1 hm
    have hCA := sl_co h86 hC fA
    have hSA := hCA.1
    have r3 : gR M 0 84 3 = some 86 := by rw [gR_at (c_shp84 hS), hS.2 (84, 3, 86) (by decide)]
    have r3A : gR A 0 84 3 = some 86 := by rw [gR_at (c_shp84 hSA), hSA.2 (84, 3, 86) (by decide)]
    have gA : gI A 3 86 1 = some (nI (rr (L0 a (a (45 + 3 * c)) m))) := by rw [gI_at (li_shp hSA h86), lc_rr lA]
    have hrr := rr_lt (L0_ok hO (m := m) g1)
    have J : ∀ y : Nat, y < 2 ^ 31 → ∃ M', f_X0_reckonCall_J90 A 84 o (nI c) (nI f) (nI m) (lN (wgt a m)) (nI y) = some (.inl (nI (m + 1), M')) ∧ M'.2.1 84 0 = lN (v + wgt a m * y) ∧ Fx (SL 86) M M' := fun y hy => by
      refine ⟨wL A 84 0 (lN (v + wgt a m * y)), ?_, by simp [wL], fx_trans (fx_fr fA) fx_wL⟩
      have e : A.2.1 84 0 = lN v := by rw [show A.2 = M.2 from fA.1, hv]
      unfold f_X0_reckonCall_J90
      rw [gL_at (c_shp84 hSA), bb_some, e, nI_l hy, lN_mul, lN_add, pL_at (c_shp84 hSA), bb_some, nI_1]
    rw [r3, bb_some, co_r10 hC, bb_some, co_cdesk hC hO hc, bb_some, ob_at (li_shp hS h86), bb_some, eA, bb_some]
    rcases (show f = 0 ∨ f = 1 by omega) with rfl | rfl
    · rw [nI_0, if_pos rfl, r3A, bb_some, gA, bb_some, ob_at (co_shp hCA), bb_some, c_inTime hCA hO hc hrr, bb_some]
      show ∃ M' : Mem, (if bI (iT a c (rr (L0 a (a (45 + 3 * c)) m))) = 0 then f_X0_reckonCall_J90 A 84 o (nI c) 0 (nI m) (lN (wgt a m)) 0 else f_X0_reckonCall_J90 A 84 o (nI c) 0 (nI m) (lN (wgt a m)) 1) = _ ∧ M'.2.1 84 0 = lN (v + wgt a m * (if iT a c (rr (L0 a (a (45 + 3 * c)) m)) = true then 1 else 0)) ∧ _
      cases iT a c (rr (L0 a (a (45 + 3 * c)) m)) with
      | false => exact J 0 (by omega)
      | true => exact J 1 (by omega)
    · rw [if_neg (show ¬ nI 1 = 0 by decide), r3A, bb_some, gA, bb_some, ob_at (co_shp hCA), bb_some, c_gotAt hCA hO hc hrr, bb_some]
      have := gtN_le hO (r := rr (L0 a (a (45 + 3 * c)) m)) hc
      exact J _ (by omega)
theorem sum_bd {g : Nat → Nat → Nat} {K : Nat} (hg : ∀ m v, g m v ≤ v + K) : ∀ n, fo g n 0 ≤ n * K := by
  intro n
  induction n with
  | zero => exact Nat.zero_le _
  | succ n ih =>
    have := hg n (fo g n 0)
    show g n (fo g n 0) ≤ (n + 1) * K
    rw [Nat.succ_mul]
    omega
theorem sumf_bd {a : Nat → Nat} (hO : OkO a) {c f : Nat} (hc : c < a 1) : fo (sumf a c f) (2 ^ a 0) 0 < 2 ^ 62 := by
  have h8 := hO.1.1
  have p8 := pw8 h8
  have h := sum_bd (g := sumf a c f) (K := 100000000 * 99) (fun m v => by
    have h1 := wgt_le hO m
    have h2 := (ten8 h8).2
    have h3 := vlu_le hO (f := f) (m := m) hc
    have : wgt a m * vlu a c f m ≤ 100000000 * 99 := Nat.mul_le_mul (by omega) h3
    unfold sumf
    omega) (2 ^ a 0)
  have : 2 ^ a 0 * (100000000 * 99) ≤ 256 * (100000000 * 99) := Nat.mul_le_mul_right _ p8
  omega
/-- what Chances leaves: a fraction -/
def CF (M' : Mem) (x y : Nat) : Prop := M'.2.1 84 0 = lN (x / Nat.gcd x y) ∧ M'.2.1 84 1 = lN (y / Nat.gcd x y)
theorem c_fin {M : Mem} {o x : Nat} {a : Nat → Nat} (hC : CO M o a) (hO : OkO a) (hx : x < 2 ^ 62) (e0 : M.2.1 84 0 = lN x) : ∃ M', ((gI M 5 o 0).bind fun v3 => (f_X0_tenTo M v3).bind fun v4 => (pL M 0 84 1 v4).bind fun M5 => (ob M5 0 84).bind fun _ => (f_X0_reduce M5 84).bind fun z6 => some z6) = some M' ∧ CF M' x (10 ^ a 0) ∧ M'.1 = M.1 ∧ M'.2.2 = M.2.2 := by
  have h8 := hO.1.1
  have hS := hC.1
  obtain ⟨t1, t2⟩ := ten8 h8
  obtain ⟨M', e, h1, h2, h3, h4⟩ := c_reduce (M := wL M 84 1 (lN (10 ^ a 0))) hS hx t1 (by omega) (by simp [wL, e0]) (by simp [wL])
  refine ⟨M', ?_, ⟨h1, h2⟩, h3, h4⟩
  rw [co_g0 hC, bb_some, c_tens M h8, bb_some, pL_at (c_shp84 hS), bb_some, ob_at (c_shp84 (M := wL M 84 1 (lN (10 ^ a 0))) hS), bb_some, e, bb_some]
theorem c_reckon {M : Mem} {o c f : Nat} {a : Nat → Nat} (hC : CO M o a) (hO : OkO a) (hc : c < a 1) (hf : f ≤ 1) : ∃ M', f_X0_reckonCall M 84 o (nI c) (nI f) = some M' ∧ CF M' (fo (sumf a c f) (2 ^ a 0) 0) (10 ^ a 0) ∧ Fx (SL 86) M M' := by
  have h8 := hO.1.1
  have p8 := pw8 h8
  have hS := hC.1
  have h86 : 86 ∈ liL := by decide
  obtain ⟨B, eB, vB, fB⟩ := iter_rel (f := fun s : Int32 × Mem => f_X0_reckonCall_B8 s.2 84 o (nI c) (nI f) s.1) (2 ^ a 0) (fun i s => s.1 = nI i ∧ s.2.2.1 84 0 = lN (fo (sumf a c f) i 0) ∧ Fx (SL 86) M s.2) (fun r => r.2.1 84 0 = lN (fo (sumf a c f) (2 ^ a 0) 0) ∧ Fx (SL 86) M r) (fun i s hi ⟨hs1, hs2, hs3⟩ => by
    obtain ⟨s1, s2⟩ := s
    have hs1 : s1 = nI i := hs1
    subst hs1
    have hs3 : Fx (SL 86) M s2 := hs3
    obtain ⟨A, e, v, fA⟩ := c_rB (sl_cx h86 hC hs3) hO hc hf hi hs2
    exact Or.inl ⟨_, e, rfl, v, fx_trans hs3 fA⟩) (fun s ⟨hs1, hs2, hs3⟩ => by
    obtain ⟨s1, s2⟩ := s
    have hs1 : s1 = nI (2 ^ a 0) := hs1
    subst hs1
    have hs3 : Fx (SL 86) M s2 := hs3
    have hC2 := sl_cx h86 hC hs3
    refine ⟨s2, ?_, hs2, hs3⟩
    show f_X0_reckonCall_B8 s2 84 o (nI c) (nI f) (nI (2 ^ a 0)) = _
    unfold f_X0_reckonCall_B8
    have := Nat.two_pow_pos (a 0)
    rw [ob_at (co_shp hC2), bb_some, c_every hC2 hO, bb_some, if_pos (nI_lt (by omega) (by omega))]) 1048576 0 (0, wL M 84 0 0) (Nat.zero_le _) ⟨rfl, by simp [wL, fo]; rfl, fx_wL⟩ (by omega)
  have eB : f_X0_reckonCall_L8 (wL M 84 0 0) 84 o (nI c) (nI f) 0 = some B := eB
  obtain ⟨M', e, h1, h2, h3⟩ := c_fin (sl_cx h86 hC fB) hO (sumf_bd hO hc) vB
  refine ⟨M', ?_, h1, ⟨h3.trans fB.1, fun n k hn => by rw [h2]; exact fB.2 n k hn⟩⟩
  unfold f_X0_reckonCall
  rw [pL_at (c_shp84 hS), bb_some, eB, bb_some]
  exact e
theorem mo_sB {M : Mem} {c f m v : Nat} {a : Nat → Nat} (hM : MR M a (kdO a) (fun _ => 0)) (hO : OkO a) (hc : c < a 1) (hf : f ≤ 1) (hm : m < 2 ^ a 0) : ∃ M', f_X12_sumOf_B5 M 255 (nI c) (nI f) (lN v) (nI m) = some (.inl (lN (sumf a c f m v), nI (m + 1), M')) ∧ Fr SM M M' := by
  have h8 := hO.1.1
  have p8 := pw8 h8
  have h10 := hO.1.2.1
  obtain ⟨g1, g2, g3, g4⟩ := okc hO hc
  obtain ⟨A, eA, lA, fA⟩ := mo_rings hM hO g1 hm
  have hA := sm_mr hM fA
  have lA : LM A (L0 a (a (45 + 3 * c)) m) := lA
  have hrr := rr_lt (L0_ok hO (m := m) g1)
  have n1 : ¬ nI (2 ^ a 0) ≤ nI m := nI_ge hm (by omega)
  refine ⟨A, ?_, fA⟩
  unfold f_X12_sumOf_B5
  rw [mo_g12 hM.1, bb_some, one_sl (by omega), if_neg n1, mo_ob hM.1, bb_some, mo_oc0 hM.1 (by omega), bb_some, bb_some, eA, bb_some, mo_ob hA.1, bb_some, mo_isLifted hA.1 hO hc lA (L0_ok hO g1), bb_some, bb_some, mo_wgt hA.1 hO (by omega), bb_some]
  unfold sumf vlu
  cases hi : iT a c (rr (L0 a (a (45 + 3 * c)) m)) with
  | false =>
    show some (Sum.inl (lN v, nI m + 1, A)) = _
    have z : (if f = 0 then (if false = true then 1 else 0) else gtN a c (rr (L0 a (a (45 + 3 * c)) m))) = 0 := by
      unfold gtN
      rw [hi]
      split <;> rfl
    rw [z, Nat.mul_zero, Nat.add_zero, nI_1]
  | true =>
    rcases (show f = 0 ∨ f = 1 by omega) with rfl | rfl
    · show some (Sum.inl (lN v + lN (wgt a m) * Int32.toInt64 (nI 1), nI m + 1, A)) = some (Sum.inl (lN (v + wgt a m * 1), nI (m + 1), A))
      rw [nI_l (by omega), lN_mul, lN_add, nI_1]
    · have e17 : gI A 12 255 17 = some (nI (rr (L0 a (a (45 + 3 * c)) m))) := by
        rw [gI_at (m_shp hA.1.1)]
        have h0 := (of_decide_eq_true hi).1
        cases el : L0 a (a (45 + 3 * c)) m with
        | none => rw [el] at h0; exact absurd rfl h0
        | some l => obtain ⟨w, r, t⟩ := l; rw [el] at lA; rw [lA.2.1]; rfl
      show ((some ()).bind fun _ => (f_X12_ofCall A 255 (nI c) 1).bind fun v9 => (gI A 12 255 17).bind fun v10 => (some ()).bind fun _ => (f_X12_gotBy A 255 v9 v10).bind fun v11 => some (Sum.inl (lN v + lN (wgt a m) * Int32.toInt64 v11, nI m + 1, A))) = some (Sum.inl (lN (v + wgt a m * gtN a c (rr (L0 a (a (45 + 3 * c)) m))), nI (m + 1), A))
      have := gtN_le hO (r := rr (L0 a (a (45 + 3 * c)) m)) hc
      rw [bb_some, mo_oc1 hA.1 (by omega), bb_some, e17, bb_some, bb_some, mo_got hA.1 hO hc hrr hi, bb_some, nI_l (by omega), lN_mul, lN_add, nI_1]
theorem mo_sum {M : Mem} {c f : Nat} {a : Nat → Nat} (hM : MR M a (kdO a) (fun _ => 0)) (hO : OkO a) (hc : c < a 1) (hf : f ≤ 1) : ∃ M', f_X12_sumOf M 255 (nI c) (nI f) = some (lN (fo (sumf a c f) (2 ^ a 0) 0), M') ∧ Fr SM M M' := by
  have h8 := hO.1.1
  have p8 := pw8 h8
  obtain ⟨B, eB, vB, fB⟩ := iter_rel (f := fun s : Int64 × Int32 × Mem => f_X12_sumOf_B5 s.2.2 255 (nI c) (nI f) s.1 s.2.1) (2 ^ a 0) (fun i s => s.1 = lN (fo (sumf a c f) i 0) ∧ s.2.1 = nI i ∧ Fr SM M s.2.2) (fun r => r.1 = lN (fo (sumf a c f) (2 ^ a 0) 0) ∧ Fr SM M r.2) (fun i s hi ⟨hs1, hs2, hs3⟩ => by
    obtain ⟨s1, s2, s3⟩ := s
    have hs1 : s1 = lN (fo (sumf a c f) i 0) := hs1
    have hs2 : s2 = nI i := hs2
    subst hs1 hs2
    have hs3 : Fr SM M s3 := hs3
    obtain ⟨A, e, fA⟩ := mo_sB (v := fo (sumf a c f) i 0) (sm_mr hM hs3) hO hc hf hi
    exact Or.inl ⟨_, e, rfl, rfl, fr_trans hs3 fA⟩) (fun s ⟨hs1, hs2, hs3⟩ => by
    obtain ⟨s1, s2, s3⟩ := s
    have hs1 : s1 = lN (fo (sumf a c f) (2 ^ a 0) 0) := hs1
    have hs2 : s2 = nI (2 ^ a 0) := hs2
    subst hs1 hs2
    have hs3 : Fr SM M s3 := hs3
    refine ⟨(lN (fo (sumf a c f) (2 ^ a 0) 0), s3), ?_, rfl, hs3⟩
    show f_X12_sumOf_B5 s3 255 (nI c) (nI f) (lN (fo (sumf a c f) (2 ^ a 0) 0)) (nI (2 ^ a 0)) = _
    unfold f_X12_sumOf_B5
    rw [mo_g12 (sm_mr hM hs3).1, bb_some, one_sl (by omega), if_pos (nI_le (Nat.le_refl _) (by omega))]) 1048576 0 (0, 0, M) (Nat.zero_le _) ⟨rfl, rfl, fr_refl⟩ (by omega)
  obtain ⟨b1, b2⟩ := B
  have vB : b1 = lN (fo (sumf a c f) (2 ^ a 0) 0) := vB
  subst vB
  have eB : f_X12_sumOf_L5 M 255 (nI c) (nI f) 0 0 = some (_, b2) := eB
  exact ⟨b2, by rw [f_X12_sumOf, eB, bb_some], fB⟩
theorem sl86_q {M M' : Mem} (h : Fx (SL 86) M M') : Qf M M' := fx_q h (fun q k hh => by have := hh.1; unfold zT; omega)
theorem call_odds {M : Mem} (hI : Inv M) (a1 a2 a3 : Int32) (h3 : a3 = 0 ∨ a3 = 1) : ∃ (r : Int64) (M1 M2 : Mem), f_X11_odds M 1 a1 a2 a3 = some (r, M1) ∧ shp M1 255 = some (.inl 12) ∧ f_X12_odds M1 255 a1 a2 a3 = some (r, M2) ∧ Inv M2 := by
  have hS := hI.1
  exact qm hI a1 (fC := f_X11_odds M 1 a1 a2 a3) (fM := fun M => f_X12_odds M 255 a1 a2 a3) (bad := -1) (fun e1 e2 => ⟨by simp [f_X11_odds, f_X11_odds_J24, d_r0 hS, t_ob hS, e1], by simp [f_X12_odds, f_X12_odds_J16, ob_at (m_shp hS), e2]⟩) (fun o a ho hO e1 hC => by
    have h8 := hO.1.1
    have h10 := hO.1.2.1
    rcases io_cases a2 (n := a 1) (by omega) with hx | ⟨c, hc, rfl⟩
    · exact ⟨-1, M, by simp [f_X11_odds, f_X11_odds_J24, d_r0 hS, t_ob hS, e1, ho, ob_at (co_shp hC), c_noCall hC hx], qf_refl, fun M2 e3 hM hq => ⟨M2, by simp [f_X12_odds, f_X12_odds_J16, ob_at (m_shp hS), e3, mo_ob hM, mo_noCall hM hO hx], qf_refl⟩⟩
    obtain ⟨M1, e, ⟨v0, v1⟩, fr1⟩ := c_reckon hC hO hc (show 0 ≤ 1 by omega)
    have e : f_X0_reckonCall M 84 o (nI c) 0 = some M1 := e
    have hS1 := fx_sk fr1 hS
    have ht := (ten8 h8)
    refine ⟨if a3 = 0 then M1.2.1 84 0 else M1.2.1 84 1, M1, ?_, sl86_q fr1, fun M2 e3 hM hq => ?_⟩
    · unfold f_X11_odds
      rw [d_r0 hS, bb_some, t_ob hS, bb_some, e1, bb_some, if_neg ho, ob_at (co_shp hC), bb_some, c_hasCall hC hO hc, bb_some, if_neg (by decide), d_r6 hS, bb_some, ob_at (c_shp84 hS), bb_some, e, bb_some, d_r6 hS1, bb_some, bb_some, gL_at (c_shp84 hS1), gL_at (c_shp84 hS1), bb_some, bb_some]
      split <;> rfl
    · obtain ⟨A, eA, hA, fA⟩ := mo_told hM hO
      obtain ⟨B, eB, fB⟩ := mo_sum hA hO hc (show 0 ≤ 1 by omega)
      have eB : f_X12_sumOf A 255 (nI c) 0 = some (_, B) := eB
      have hB := sm_mr hA fB
      refine ⟨B, ?_, qf_trans (st_q fA) (sm_q fB)⟩
      show f_X12_odds M1 255 a1 (nI c) a3 = _
      unfold f_X12_odds
      rw [ob_at (m_shp hS1), bb_some, e3, bb_some]
      show (if (1 : Int32) = 0 then _ else _) = _
      rw [if_neg (by decide), mo_ob hM, bb_some, mo_isCall hM hO hc, bb_some, if_neg (by decide), bb_some, eA, bb_some, mo_ob hA.1, bb_some, eB, bb_some]
      show ((gI B 12 255 12).bind fun v7 => (f_X12_tens B v7).bind fun v8 => (f_X12_fraction B (lN (fo (sumf a c 0) (2 ^ a 0) 0)) v8 a3).bind fun v9 => some (v9, B)) = _
      rw [mo_g12 hB.1, bb_some, mo_tens B h8, bb_some, mo_frac B (sumf_bd hO hc) ht.1 (by omega), bb_some, v0, v1])
theorem call_mean {M : Mem} (hI : Inv M) (a1 a2 a3 : Int32) (h3 : a3 = 0 ∨ a3 = 1) : ∃ (r : Int64) (M1 M2 : Mem), f_X11_mean M 1 a1 a2 a3 = some (r, M1) ∧ shp M1 255 = some (.inl 12) ∧ f_X12_mean M1 255 a1 a2 a3 = some (r, M2) ∧ Inv M2 := by
  have hS := hI.1
  exact qm hI a1 (fC := f_X11_mean M 1 a1 a2 a3) (fM := fun M => f_X12_mean M 255 a1 a2 a3) (bad := -1) (fun e1 e2 => ⟨by simp [f_X11_mean, f_X11_mean_J24, d_r0 hS, t_ob hS, e1], by simp [f_X12_mean, f_X12_mean_J16, ob_at (m_shp hS), e2]⟩) (fun o a ho hO e1 hC => by
    have h8 := hO.1.1
    have h10 := hO.1.2.1
    rcases io_cases a2 (n := a 1) (by omega) with hx | ⟨c, hc, rfl⟩
    · exact ⟨-1, M, by simp [f_X11_mean, f_X11_mean_J24, d_r0 hS, t_ob hS, e1, ho, ob_at (co_shp hC), c_noCall hC hx], qf_refl, fun M2 e3 hM hq => ⟨M2, by simp [f_X12_mean, f_X12_mean_J16, ob_at (m_shp hS), e3, mo_ob hM, mo_noCall hM hO hx], qf_refl⟩⟩
    obtain ⟨M1, e, ⟨v0, v1⟩, fr1⟩ := c_reckon hC hO hc (show 1 ≤ 1 by omega)
    have e : f_X0_reckonCall M 84 o (nI c) 1 = some M1 := e
    have hS1 := fx_sk fr1 hS
    have ht := (ten8 h8)
    refine ⟨if a3 = 0 then M1.2.1 84 0 else M1.2.1 84 1, M1, ?_, sl86_q fr1, fun M2 e3 hM hq => ?_⟩
    · unfold f_X11_mean
      rw [d_r0 hS, bb_some, t_ob hS, bb_some, e1, bb_some, if_neg ho, ob_at (co_shp hC), bb_some, c_hasCall hC hO hc, bb_some, if_neg (by decide), d_r6 hS, bb_some, ob_at (c_shp84 hS), bb_some, e, bb_some, d_r6 hS1, bb_some, bb_some, gL_at (c_shp84 hS1), gL_at (c_shp84 hS1), bb_some, bb_some]
      split <;> rfl
    · obtain ⟨A, eA, hA, fA⟩ := mo_told hM hO
      obtain ⟨B, eB, fB⟩ := mo_sum hA hO hc (show 1 ≤ 1 by omega)
      have eB : f_X12_sumOf A 255 (nI c) 1 = some (_, B) := eB
      have hB := sm_mr hA fB
      refine ⟨B, ?_, qf_trans (st_q fA) (sm_q fB)⟩
      show f_X12_mean M1 255 a1 (nI c) a3 = _
      unfold f_X12_mean
      rw [ob_at (m_shp hS1), bb_some, e3, bb_some]
      show (if (1 : Int32) = 0 then _ else _) = _
      rw [if_neg (by decide), mo_ob hM, bb_some, mo_isCall hM hO hc, bb_some, if_neg (by decide), bb_some, eA, bb_some, mo_ob hA.1, bb_some, eB, bb_some]
      show ((gI B 12 255 12).bind fun v7 => (f_X12_tens B v7).bind fun v8 => (f_X12_fraction B (lN (fo (sumf a c 1) (2 ^ a 0) 0)) v8 a3).bind fun v9 => some (v9, B)) = _
      rw [mo_g12 hB.1, bb_some, mo_tens B h8, bb_some, mo_frac B (sumf_bd hO hc) ht.1 (by omega), bb_some, v0, v1])
/-- so many heads -/
def hdf (a : Nat → Nat) (k m v : Nat) : Nat := if pc m = k then v + wgt a m else v
theorem hdf_bd {a : Nat → Nat} (hO : OkO a) {k : Nat} : fo (hdf a k) (2 ^ a 0) 0 < 2 ^ 62 := by
  have h8 := hO.1.1
  have p8 := pw8 h8
  have h := sum_bd (g := hdf a k) (K := 100000000) (fun m v => by
    have h1 := wgt_le hO m
    have h2 := (ten8 h8).2
    unfold hdf
    split <;> omega) (2 ^ a 0)
  have : 2 ^ a 0 * 100000000 ≤ 256 * 100000000 := Nat.mul_le_mul_right _ p8
  omega
def NoS : Nat → Nat → Prop := fun _ _ => False
theorem no_cx {M M' : Mem} {o : Nat} {a : Nat → Nat} (hC : CO M o a) (hF : Fx NoS M M') : CO M' o a := co_fx hC hF (fun q k h => False.elim h)
theorem c_hB {M : Mem} {o k m v : Nat} {a : Nat → Nat} (hC : CO M o a) (hO : OkO a) (hk : k ≤ 8) (hm : m < 2 ^ a 0) (hv : M.2.1 84 0 = lN v) : ∃ M', f_X0_reckonHeads_B7 M 84 o (nI k) (nI m) = some (.inl (nI (m + 1), M')) ∧ M'.2.1 84 0 = lN (hdf a k m v) ∧ Fx NoS M M' := by
  have h8 := hO.1.1
  have p8 := pw8 h8
  have hS := hC.1
  have ee := c_every hC hO
  have ew := c_wgt hC hO (show m < 2 ^ 31 by omega)
  have w1 := ld_pc M (show m < 1024 by omega)
  have hp := pc_10 m
  have n1 : ¬ nI (2 ^ a 0 - 1) < nI m := nI_nlt (by omega) (by omega)
  unfold f_X0_reckonHeads_B7 hdf
  generalize pc m = p at w1 hp ⊢
  rw [ob_at (co_shp hC), bb_some, ee, bb_some, if_neg n1, w1, bb_some]
  by_cases h : p = k
  · rw [if_pos ((nI_eq (by omega) (by omega)).mpr h), if_pos h, gL_at (c_shp84 hS), bb_some, ew, bb_some, hv, lN_add, pL_at (c_shp84 hS), bb_some, nI_1]
    exact ⟨_, rfl, by simp [wL], fx_wL⟩
  · rw [if_neg (fun hh => h ((nI_eq (by omega) (by omega)).mp hh)), if_neg h, nI_1]
    exact ⟨M, rfl, hv, fx_refl⟩
theorem c_heads {M : Mem} {o k : Nat} {a : Nat → Nat} (hC : CO M o a) (hO : OkO a) (hk : k ≤ 8) : ∃ M', f_X0_reckonHeads M 84 o (nI k) = some M' ∧ CF M' (fo (hdf a k) (2 ^ a 0) 0) (10 ^ a 0) ∧ Fx NoS M M' := by
  have h8 := hO.1.1
  have p8 := pw8 h8
  have hS := hC.1
  obtain ⟨B, eB, vB, fB⟩ := iter_rel (f := fun s : Int32 × Mem => f_X0_reckonHeads_B7 s.2 84 o (nI k) s.1) (2 ^ a 0) (fun i s => s.1 = nI i ∧ s.2.2.1 84 0 = lN (fo (hdf a k) i 0) ∧ Fx NoS M s.2) (fun r => r.2.1 84 0 = lN (fo (hdf a k) (2 ^ a 0) 0) ∧ Fx NoS M r) (fun i s hi ⟨hs1, hs2, hs3⟩ => by
    obtain ⟨s1, s2⟩ := s
    have hs1 : s1 = nI i := hs1
    subst hs1
    have hs3 : Fx NoS M s2 := hs3
    obtain ⟨A, e, v, fA⟩ := c_hB (no_cx hC hs3) hO hk hi hs2
    exact Or.inl ⟨_, e, rfl, v, fx_trans hs3 fA⟩) (fun s ⟨hs1, hs2, hs3⟩ => by
    obtain ⟨s1, s2⟩ := s
    have hs1 : s1 = nI (2 ^ a 0) := hs1
    subst hs1
    have hs3 : Fx NoS M s2 := hs3
    have hC2 := no_cx hC hs3
    refine ⟨s2, ?_, hs2, hs3⟩
    show f_X0_reckonHeads_B7 s2 84 o (nI k) (nI (2 ^ a 0)) = _
    unfold f_X0_reckonHeads_B7
    have := Nat.two_pow_pos (a 0)
    rw [ob_at (co_shp hC2), bb_some, c_every hC2 hO, bb_some, if_pos (nI_lt (by omega) (by omega))]) 1048576 0 (0, wL M 84 0 0) (Nat.zero_le _) ⟨rfl, by simp [wL, fo]; rfl, fx_wL⟩ (by omega)
  have eB : f_X0_reckonHeads_L7 (wL M 84 0 0) 84 o (nI k) 0 = some B := eB
  obtain ⟨M', e, h1, h2, h3⟩ := c_fin (no_cx hC fB) hO (hdf_bd hO) vB
  refine ⟨M', ?_, h1, ⟨h3.trans fB.1, fun n k hn => by rw [h2]; exact fB.2 n k hn⟩⟩
  unfold f_X0_reckonHeads
  rw [pL_at (c_shp84 hS), bb_some, eB, bb_some]
  exact e
theorem mo_heads {M : Mem} {k : Nat} {a : Nat → Nat} (hM : MO M a) (hO : OkO a) (hk : k ≤ 8) (x3 : Int32) : f_X12_empty_L30 M 255 (nI k) x3 0 0 = some (lN (fo (hdf a k) (2 ^ a 0) 0)) := by
  have h8 := hO.1.1
  have p8 := pw8 h8
  refine (lpI (f := fun s : Int64 × Int32 => f_X12_empty_B30 M 255 (nI k) x3 s.1 s.2) 0 (2 ^ a 0) (hdf a k) lN lN (fun _ _ => True) 0 trivial (fun i v hi _ => ⟨?_, trivial⟩) (fun v _ => ?_) (by omega)).1
  · rw [Nat.zero_add]
    show f_X12_empty_B30 M 255 (nI k) x3 (lN v) (nI i) = _
    have w1 := bits_at M i (by omega)
    have hp := pc_10 i
    have ew := mo_wgt hM hO (show i < 2 ^ 31 by omega)
    have n1 : ¬ nI (2 ^ a 0) ≤ nI i := nI_ge hi (by omega)
    unfold f_X12_empty_B30 hdf
    rw [mo_g12 hM, bb_some, one_sl (by omega), if_neg n1, w1, bb_some]
    by_cases h : pc i = k
    · rw [if_pos ((nI_eq (by omega) (by omega)).mpr h), if_pos h, mo_ob hM, bb_some, ew, bb_some, lN_add]
    · rw [if_neg (fun hh => h ((nI_eq (by omega) (by omega)).mp hh)), if_neg h]
      show some (Sum.inl (lN v + lN 0, nI i + 1)) = _
      rw [lN_add, Nat.add_zero]
  · rw [Nat.zero_add]
    show f_X12_empty_B30 M 255 (nI k) x3 (lN v) (nI (2 ^ a 0)) = _
    unfold f_X12_empty_B30
    rw [mo_g12 hM, bb_some, one_sl (by omega), if_pos (nI_le (Nat.le_refl _) (by omega))]
theorem nos_q {M M' : Mem} (h : Fx NoS M M') : Qf M M' := fx_q h (fun q k hh => False.elim hh)
theorem call_empty {M : Mem} (hI : Inv M) (a1 a2 a3 : Int32) (h3 : a3 = 0 ∨ a3 = 1) : ∃ (r : Int64) (M1 M2 : Mem), f_X11_empty M 1 a1 a2 a3 = some (r, M1) ∧ shp M1 255 = some (.inl 12) ∧ f_X12_empty M1 255 a1 a2 a3 = some (r, M2) ∧ Inv M2 := by
  have hS := hI.1
  exact qm hI a1 (fC := f_X11_empty M 1 a1 a2 a3) (fM := fun M => f_X12_empty M 255 a1 a2 a3) (bad := -1) (fun e1 e2 => ⟨by simp [f_X11_empty, f_X11_empty_J28, d_r0 hS, t_ob hS, e1], by simp [f_X12_empty, f_X12_empty_J20, ob_at (m_shp hS), e2]⟩) (fun o a ho hO e1 hC => by
    have h8 := hO.1.1
    by_cases hneg : a2 < 0
    · exact ⟨-1, M, by simp [f_X11_empty, f_X11_empty_J28, d_r0 hS, t_ob hS, e1, ho, hneg], qf_refl, fun M2 e3 hM hq => ⟨M2, by simp [f_X12_empty, f_X12_empty_J20, ob_at (m_shp hS), e3, mo_g12 hM, ii_neg M2 hneg (L := 0) (by decide)], qf_refl⟩⟩
    by_cases hle : a2 ≤ nI (a 0)
    · obtain ⟨k, hk31, rfl⟩ := nI_of hneg
      have hk : k ≤ a 0 := (nI_leI hk31 (by omega)).mp hle
      obtain ⟨M1, e, ⟨v0, v1⟩, fr1⟩ := c_heads hC hO (show k ≤ 8 by omega)
      have hS1 := fx_sk fr1 hS
      have ht := (ten8 h8)
      refine ⟨if a3 = 0 then M1.2.1 84 0 else M1.2.1 84 1, M1, ?_, nos_q fr1, fun M2 e3 hM hq => ?_⟩
      · unfold f_X11_empty
        rw [d_r0 hS, bb_some, t_ob hS, bb_some, e1, bb_some, if_neg ho, if_neg hneg, co_g0 hC, bb_some, if_pos hle, d_r6 hS, bb_some, ob_at (c_shp84 hS), bb_some, e, bb_some, d_r6 hS1, bb_some, bb_some, gL_at (c_shp84 hS1), gL_at (c_shp84 hS1), bb_some, bb_some]
        split <;> rfl
      · refine ⟨M2, ?_, qf_refl⟩
        have i1 : f_X12_isIn M2 (nI k) 0 (nI (a 0)) = some 1 := ii_lt M2 hk (by omega)
        show f_X12_empty M1 255 a1 (nI k) a3 = _
        unfold f_X12_empty
        rw [ob_at (m_shp hS1), bb_some, e3, bb_some]
        show (if (1 : Int32) = 0 then _ else _) = _
        rw [if_neg (by decide), mo_g12 hM, bb_some, i1, bb_some, if_neg (by decide), mo_heads hM hO (by omega), bb_some, bb_some, mo_tens M2 h8, bb_some, mo_frac M2 (hdf_bd hO) ht.1 (by omega), bb_some, v0, v1]
    · exact ⟨-1, M, by simp [f_X11_empty, f_X11_empty_J28, d_r0 hS, t_ob hS, e1, ho, hneg, co_g0 hC, hle], qf_refl, fun M2 e3 hM hq => ⟨M2, by simp [f_X12_empty, f_X12_empty_J20, ob_at (m_shp hS), e3, mo_g12 hM, iin_le M2 (show a 0 < 2 ^ 30 by omega) hneg hle], qf_refl⟩⟩)
