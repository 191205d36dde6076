/-! feed -/
theorem byte_and (z : Int32) : z.toInt8.toInt32 &&& 255 = z &&& 255 := by
  apply Int32.toBitVec_inj.mp
  have h : ∀ i, i < 32 → 8 ≤ i → (255#32).getLsbD i = false := by decide
  simp only [Int32.toBitVec_and, Int8.toBitVec_toInt32, Int32.toBitVec_toInt8]
  refine BitVec.eq_of_getLsbD_eq (fun i hi => ?_)
  rw [BitVec.getLsbD_and, BitVec.getLsbD_and]
  by_cases h8 : i < 8
  · simp only [BitVec.getLsbD_signExtend, hi, h8, decide_true, Bool.true_and, if_true]
  · rw [show (255 : Int32).toBitVec.getLsbD i = false from h i hi (by omega), Bool.and_false, Bool.and_false]
def bt (x : Int32) (r : Nat) : Int32 := Int8.toInt32 (Int32.toInt8 (shr x (24 - 8 * nI r)))
theorem shr_and (x s : Int32) (k : Nat) (hs : s = nI k) (hk : k = 0 ∨ k = 8 ∨ k = 16 ∨ k = 24) : shr x s &&& 255 = (x >>> (s &&& 31)) &&& 255 := by
  subst hs
  have e1 : (shr x (nI k)).toBitVec.toNat = x.toBitVec.toNat / 2 ^ k := pk_ushr x (nI k) k (by rcases hk with rfl | rfl | rfl | rfl <;> rfl)
  have e2 := pk_shr x (nI k &&& 31) k (by rcases hk with rfl | rfl | rfl | rfl <;> rfl)
  rw [pk_and _ 8 rfl, pk_and _ 8 rfl, e1]
  congr 1
  rw [Int.shiftRight_eq_div_pow] at e2
  have c1 : ∀ y : Int32, y.toInt = if 2 * y.toBitVec.toNat < 2 ^ 32 then (y.toBitVec.toNat : Int) else (y.toBitVec.toNat : Int) - 2 ^ 32 := fun y => BitVec.toInt_eq_toNat_cond y.toBitVec
  rw [c1, c1] at e2
  have b1 := x.toBitVec.isLt
  have b2 := (x >>> (nI k &&& 31)).toBitVec.isLt
  generalize x.toBitVec.toNat = X at *
  generalize (x >>> (nI k &&& 31)).toBitVec.toNat = N at *
  rcases hk with rfl | rfl | rfl | rfl <;> simp only [Nat.reducePow, Int.reducePow] at e2 b1 b2 ⊢ <;> split at e2 <;> split at e2 <;> omega
theorem bt_m (x : Int32) {r : Nat} (hr : r < 4) : (x >>> ((24 - 8 * nI r) &&& 31)) &&& 255 = bt x r &&& 255 := by
  rw [bt, byte_and]
  rcases (show r = 0 ∨ r = 1 ∨ r = 2 ∨ r = 3 by omega) with rfl | rfl | rfl | rfl
  · exact (shr_and x _ 24 rfl (by omega)).symm
  · exact (shr_and x _ 16 rfl (by omega)).symm
  · exact (shr_and x _ 8 rfl (by omega)).symm
  · exact (shr_and x _ 0 rfl (by omega)).symm
def FP (M : Mem) (n i : Nat) (b : Nat → Int32) (M' : Mem) : Prop := M'.2 = M.2 ∧ M'.1 2 1 = nI (n + i) ∧ (∀ k, k < i → M'.1 3 (n + k) = b k) ∧ ∀ m k, ¬ (m = 2 ∧ k = 1) → ¬ (m = 3 ∧ n ≤ k ∧ k < n + i) → M'.1 m k = M.1 m k
def fb (x : Nat → Int32) (k : Nat) : Int32 := bt (x (k / 4)) (k % 4)
theorem fp_put {M M' : Mem} {n q : Nat} {x : Nat → Int32} (hS : Sk M) (hn : n + 20 ≤ 600) (hq : q < 5) (h : FP M n (4 * q) (fb x) M') : ∃ M'', f_X9_putNumber M' 2 (x q) = some M'' ∧ FP M n (4 * (q + 1)) (fb x) M'' := by
  obtain ⟨M'', e, h'⟩ := iter_rel (f := fun s : Int32 × Mem => f_X9_putNumber_B3 s.2 2 (x q) s.1) 4 (fun i s => s.1 = 24 - 8 * nI i ∧ FP M n (4 * q + i) (fb x) s.2) (fun r => FP M n (4 * (q + 1)) (fb x) r) (fun i s hi ⟨hs1, hs2⟩ => by
    obtain ⟨s1, s2⟩ := s
    have hs1 : s1 = 24 - 8 * nI i := hs1
    subst hs1
    obtain ⟨p1, p2, p3, p4⟩ := hs2
    have p2 : s2.1 2 1 = nI (n + (4 * q + i)) := p2
    have hS2 : Sk s2 := by unfold Sk at *; rw [show s2.2 = M.2 from p1]; exact hS
    have n1 : ¬ (24 - 8 * nI i : Int32) < 0 := by rcases (show i = 0 ∨ i = 1 ∨ i = 2 ∨ i = 3 by omega) with rfl | rfl | rfl | rfl <;> decide
    have n2 : ¬ 600 ≤ nI (n + (4 * q + i)) := nI_ge (b := 600) (by omega) (by omega)
    have g1 : gI s2 9 2 1 = some (nI (n + (4 * q + i))) := by rw [gI_at (t_shp hS2).2, p2]
    let B := wI s2 3 (n + (4 * q + i)) (bt (x q) i)
    have hSB : Sk B := hS2
    have e1 : sI s2 1 3 (nI (n + (4 * q + i))) (bt (x q) i) = some B := by
      rw [sI_at (sk_shp hS2 (n := 3) (by omega) rfl) (show n + (4 * q + i) < 600 by omega) (by omega)]
      rw [show nar 1 (bt (x q) i) = bt (x q) i from pk_vb _]
    have g2 : gI B 9 2 1 = some (nI (n + (4 * q + i))) := by rw [gI_at (t_shp hSB).2, wI_rd, if_neg (by omega), p2]
    have e2 : f_X9_putNumber_B3 s2 2 (x q) (24 - 8 * nI i) = some (.inl (24 - 8 * nI i + Int32.ofInt (-8), wI B 2 1 (nI (n + (4 * q + i)) + 1))) := by
      unfold f_X9_putNumber_B3
      rw [if_neg n1, g1, bb_some, if_neg n2, t_r0 hS2, bb_some, bb_some]
      show (sI s2 1 3 (nI (n + (4 * q + i))) (bt (x q) i)).bind _ = _
      rw [e1, bb_some, g2, bb_some, pI_at (t_shp hSB).2, bb_some]
    refine Or.inl ⟨_, e2, ?_, p1, ?_, fun k hk => ?_, fun m k h1 h2 => ?_⟩
    · rcases (show i = 0 ∨ i = 1 ∨ i = 2 ∨ i = 3 by omega) with rfl | rfl | rfl | rfl <;> rfl
    · rw [wI_same, nI_1]; rfl
    · rw [wI_rd, if_neg (by omega), wI_rd]
      by_cases hk' : k = 4 * q + i
      · subst hk'
        rw [if_pos ⟨rfl, rfl⟩, fb, show (4 * q + i) / 4 = q by omega, show (4 * q + i) % 4 = i by omega]
      · rw [if_neg (by omega)]
        exact p3 k (by omega)
    · rw [wI_rd, if_neg h1, wI_rd, if_neg (by omega)]
      exact p4 m k h1 (by omega)) (fun s ⟨hs1, hs2⟩ => by
    obtain ⟨s1, s2⟩ := s
    have hs1 : s1 = 24 - 8 * nI 4 := hs1
    subst hs1
    exact ⟨s2, by simp [f_X9_putNumber_B3, show (24 - 8 * nI 4 : Int32) < 0 by decide], hs2⟩) 1048576 0 (24, M') (by omega) ⟨rfl, h⟩ (by omega)
  have e : f_X9_putNumber_L3 M' 2 (x q) 24 = some M'' := e
  exact ⟨M'', by rw [f_X9_putNumber, e, bb_some], h'⟩
theorem fp_sk {M M' : Mem} {n i : Nat} {b : Nat → Int32} (h : FP M n i b M') (hS : Sk M) : Sk M' := by unfold Sk at *; rw [h.1]; exact hS
def FM (M : Mem) (n i : Nat) (b : Nat → Int32) (M' : Mem) : Prop := M'.2 = M.2 ∧ M'.1 256 4 = nI (n + i) ∧ (∀ k, k < i → M'.1 256 (10 + (n + k)) = b k &&& 255) ∧ ∀ m k, ¬ (m = 256 ∧ (k = 4 ∨ 10 + n ≤ k ∧ k < 10 + (n + i))) → M'.1 m k = M.1 m k
theorem fm_J {M M' : Mem} {n i : Nat} {x : Nat → Int32} {x1 x2 x3 x4 x5 : Int32} (hS : Sk M) (hn : n + 20 ≤ 600) (hi : i < 20) (h : FM M n i (fb x) M') : ∃ M'', f_X12_feed_J73 M' 255 x1 x2 x3 x4 x5 (nI i) (x (i / 4)) = some (.inl (nI (i + 1), M'')) ∧ FM M n (i + 1) (fb x) M'' := by
  obtain ⟨p1, p2, p3, p4⟩ := h
  have hS2 : Sk M' := by unfold Sk at *; rw [p1]; exact hS
  have g1 : aI M' 0 256 4 = some (nI (n + i)) := by have := m_get hS2 (i := 4) (by omega); rw [p2] at this; exact this
  have r4 : rmI (nI i) 4 = some (nI (i % 4)) := by
    have e : nI i - nI i / 4 * 4 = nI (i % 4) := pk_rem (by omega) (d := 4) (by omega) (by omega)
    rw [rmI, if_neg (by decide), e]
  have a1 : (10 : Int32) + nI (n + i) = nI (10 + (n + i)) := nI_add 10 (n + i)
  let B := wI M' 256 (10 + (n + i)) (bt (x (i / 4)) (i % 4) &&& 255)
  have hSB : Sk B := hS2
  have g2 : aI B 0 256 4 = some (nI (n + i)) := by
    have := m_get hSB (i := 4) (by omega)
    rw [wI_rd, if_neg (by omega), p2] at this
    exact this
  have g3 : sI B 0 256 4 (nI (n + i) + 1) = some (wI B 256 4 (nI (n + i) + 1)) := m_put hSB (i := 4) (by omega) _
  refine ⟨wI B 256 4 (nI (n + i) + 1), ?_, p1, ?_, fun k hk => ?_, fun m k h1 => ?_⟩
  · unfold f_X12_feed_J73
    rw [m_r0 hS2, bb_some, bb_some, g1, bb_some, r4, bb_some, a1, bt_m _ (show i % 4 < 4 by omega), m_put hS2 (by omega), bb_some, m_r0 hSB, bb_some, g2, bb_some, g3, bb_some, nI_1]
  · rw [wI_same, nI_1]; rfl
  · rw [wI_rd, if_neg (by omega), wI_rd]
    by_cases hk' : k = i
    · subst hk'
      rw [if_pos ⟨rfl, rfl⟩, fb]
    · rw [if_neg (by omega)]
      exact p3 k (by omega)
  · rw [wI_rd, if_neg (by omega), wI_rd, if_neg (by omega)]
    exact p4 m k (by omega)
def xs (x1 x2 x3 x4 x5 : Int32) (i : Nat) : Int32 := if i = 0 then x1 else if i = 1 then x2 else if i = 2 then x3 else if i = 3 then x4 else x5
theorem fm_B {M M' : Mem} {n i : Nat} {x1 x2 x3 x4 x5 : Int32} (hS : Sk M) (hn : n + 20 ≤ 600) (hi : i < 20) (h : FM M n i (fb (xs x1 x2 x3 x4 x5)) M') : ∃ M'', f_X12_feed_B20 M' 255 x1 x2 x3 x4 x5 (nI i) = some (.inl (nI (i + 1), M'')) ∧ FM M n (i + 1) (fb (xs x1 x2 x3 x4 x5)) M'' := by
  obtain ⟨M'', e, h'⟩ := fm_J (x1 := x1) (x2 := x2) (x3 := x3) (x4 := x4) (x5 := x5) hS hn hi h
  refine ⟨M'', ?_, h'⟩
  rw [← e]
  have n20 : ¬ 20 ≤ nI i := nI_ge (b := 20) hi (by omega)
  unfold f_X12_feed_B20
  rw [if_neg n20]
  by_cases h4 : i < 4
  · rw [if_neg (show ¬ 4 ≤ nI i from nI_ge (b := 4) h4 (by omega)), show i / 4 = 0 by omega]; rfl
  rw [if_pos (show 4 ≤ nI i from nI_le (a := 4) (by omega) (by omega))]
  by_cases h4 : i < 8
  · rw [if_neg (show ¬ 8 ≤ nI i from nI_ge (b := 8) h4 (by omega)), show i / 4 = 1 by omega]; rfl
  rw [if_pos (show 8 ≤ nI i from nI_le (a := 8) (by omega) (by omega))]
  by_cases h4 : i < 12
  · rw [if_neg (show ¬ 12 ≤ nI i from nI_ge (b := 12) h4 (by omega)), show i / 4 = 2 by omega]; rfl
  rw [if_pos (show 12 ≤ nI i from nI_le (a := 12) (by omega) (by omega))]
  by_cases h4 : i < 16
  · rw [if_neg (show ¬ 16 ≤ nI i from nI_ge (b := 16) h4 (by omega)), show i / 4 = 3 by omega]; rfl
  rw [if_pos (show 16 ≤ nI i from nI_le (a := 16) (by omega) (by omega)), show i / 4 = 4 by omega]; rfl
theorem call_feed {M : Mem} (hI : Inv M) (a1 a2 a3 a4 a5 : Int32)  : ∃ (r : Int32) (M1 M2 : Mem), f_X11_feed M 1 a1 a2 a3 a4 a5 = some (r, M1) ∧ shp M1 255 = some (.inl 12) ∧ f_X12_feed M1 255 a1 a2 a3 a4 a5 = some (r, M2) ∧ Inv M2 := by
  have hS := hI.1
  obtain ⟨⟨n, hn, t1, t2, t3⟩, t4, t5, t6, t7⟩ := hI.2.1
  have t1 : M.1 2 1 = nI n := t1
  have t2 : M.1 256 4 = nI n := t2
  have c1 : gI M 9 2 1 = some (nI n) := by rw [gI_at (t_shp hS).2, t1]
  have s20 : nI n + 20 = nI (n + 20) := nI_add n 20
  by_cases hle : n + 20 ≤ 600
  · have l1 : nI n + 20 ≤ 600 := by rw [s20]; exact nI_le (b := 600) hle (by omega)
    have f0 : FP M n (4 * 0) (fb (xs a1 a2 a3 a4 a5)) M := ⟨rfl, t1, fun k hk => absurd hk (by omega), fun _ _ _ _ => rfl⟩
    obtain ⟨A1, e1, f1⟩ := fp_put hS hle (by omega) f0
    obtain ⟨A2, e2, f2⟩ := fp_put hS hle (by omega) f1
    obtain ⟨A3, e3, f3⟩ := fp_put hS hle (by omega) f2
    obtain ⟨A4, e4, f4⟩ := fp_put hS hle (by omega) f3
    obtain ⟨A5, e5, f5⟩ := fp_put hS hle (by omega) f4
    have e1 : f_X9_putNumber M 2 a1 = some A1 := e1
    have e2 : f_X9_putNumber A1 2 a2 = some A2 := e2
    have e3 : f_X9_putNumber A2 2 a3 = some A3 := e3
    have e4 : f_X9_putNumber A3 2 a4 = some A4 := e4
    have e5 : f_X9_putNumber A4 2 a5 = some A5 := e5
    have f5 : FP M n 20 (fb (xs a1 a2 a3 a4 a5)) A5 := f5
    have hS1 := fp_sk f1 hS
    have hS2 := fp_sk f2 hS
    have hS3 := fp_sk f3 hS
    have hS4 := fp_sk f4 hS
    have hS5 := fp_sk f5 hS
    have g5 : gI A5 9 2 1 = some (nI (n + 20)) := by rw [gI_at (t_shp hS5).2, f5.2.1]
    have m0 : A5.1 256 4 = nI n := by rw [f5.2.2.2 _ _ (by omega) (by omega)]; exact t2
    have q0 : FM A5 n 0 (fb (xs a1 a2 a3 a4 a5)) A5 := ⟨rfl, m0, fun k hk => absurd hk (by omega), fun _ _ _ => rfl⟩
    obtain ⟨B, e6, q⟩ := iter_rel (f := fun s : Int32 × Mem => f_X12_feed_B20 s.2 255 a1 a2 a3 a4 a5 s.1) 20 (fun i s => s.1 = nI i ∧ FM A5 n i (fb (xs a1 a2 a3 a4 a5)) s.2) (fun r => FM A5 n 20 (fb (xs a1 a2 a3 a4 a5)) r) (fun i s hi ⟨hs1, hs2⟩ => by
      obtain ⟨s1, s2⟩ := s
      have hs1 : s1 = nI i := hs1
      subst hs1
      obtain ⟨s3, u1, u2⟩ := fm_B hS5 hle hi hs2
      exact Or.inl ⟨_, u1, rfl, u2⟩) (fun s ⟨hs1, hs2⟩ => by
      obtain ⟨s1, s2⟩ := s
      have hs1 : s1 = nI 20 := hs1
      subst hs1
      exact ⟨s2, by simp [f_X12_feed_B20, show nI 20 = 20 from rfl], hs2⟩) 1048576 0 (0, A5) (by omega) ⟨rfl, q0⟩ (by omega)
    have e6 : f_X12_feed_L20 A5 255 a1 a2 a3 a4 a5 0 = some B := e6
    obtain ⟨q1, q2, q3, q4⟩ := q
    have hSB : Sk B := by unfold Sk at *; rw [q1]; exact hS5
    have g6 : aI A5 0 256 4 = some (nI n) := by have := m_get hS5 (i := 4) (by omega); rw [m0] at this; exact this
    have g7 : aI B 0 256 4 = some (nI (n + 20)) := by have := m_get hSB (i := 4) (by omega); rw [q2] at this; exact this
    have fC : ∀ m k, m ≠ 256 → B.1 m k = A5.1 m k := fun m k hm => q4 m k (by omega)
    have fA : ∀ m k, m ≠ 2 → m ≠ 3 → A5.1 m k = M.1 m k := fun m k h1 h2 => f5.2.2.2 m k (by omega) (by omega)
    refine ⟨nI (n + 20), A5, B, ?_, m_shp hS5, ?_, hSB, tr_mk (n := n + 20) hle ?_ ?_ (fun i hi => ?_) (fun i hi => ?_) ?_ ?_ (tb_move (T := 2) (B := 0) (M := M) (fun s hs => ?_) (fun q hq hq' k hk => ?_) (fun i hi hi' => ?_) t7), fun i hi => ?_⟩
    · unfold f_X11_feed
      rw [d_r0 hS, bb_some, c1, bb_some, if_pos l1, bb_some, t_ob hS, bb_some, e1, bb_some, d_r0 hS1, bb_some, t_ob hS1, bb_some, e2, bb_some, d_r0 hS2, bb_some, t_ob hS2, bb_some, e3, bb_some, d_r0 hS3, bb_some, t_ob hS3, bb_some, e4, bb_some, d_r0 hS4, bb_some, t_ob hS4, bb_some, e5, bb_some, d_r0 hS5, bb_some, g5, bb_some]
    · unfold f_X12_feed
      rw [m_r0 hS5, bb_some, g6, bb_some, if_pos l1, e6, bb_some, m_r0 hSB, bb_some, g7, bb_some]
    · rw [fC _ _ (by omega)]; exact f5.2.1
    · exact q2
    · rw [fC (2 + 1) _ (by omega)]
      by_cases h : i < n
      · rw [q4 _ _ (by omega), fA _ _ (by omega) (by omega), f5.2.2.2 _ _ (by omega) (by omega)]
        exact t3 i h
      · obtain ⟨k, rfl⟩ : ∃ k, i = n + k := ⟨i - n, by omega⟩
        have u1 := q3 k (by omega)
        have u2 : A5.1 (2 + 1) (n + k) = fb (xs a1 a2 a3 a4 a5) k := f5.2.2.1 k (by omega)
        rw [u2, show 0 + 10 + (n + k) = 10 + (n + k) by omega]
        exact u1
    · rw [fC _ _ (by omega)]
      by_cases h : n ≤ i ∧ i < n + 20
      · obtain ⟨k, rfl⟩ : ∃ k, i = n + k := ⟨i - n, by omega⟩
        have u2 : A5.1 (2 + 1) (n + k) = fb (xs a1 a2 a3 a4 a5) k := f5.2.2.1 k (by omega)
        rw [u2]
        exact pk_fb _
      · rw [f5.2.2.2 _ _ (by omega) (by omega)]
        exact t4 i hi
    · rw [fC 2 _ (by omega), q4 _ _ (by omega), fA _ _ (by omega) (by omega), f5.2.2.2 _ _ (by omega) (by omega)]; exact t5
    · rw [fC 2 _ (by omega), q4 _ _ (by omega), fA _ _ (by omega) (by omega), f5.2.2.2 _ _ (by omega) (by omega)]; exact t6
    · rw [fC _ _ (by omega), fA _ _ (by omega) (by omega)]
    · rw [fC _ _ (by omega), fA _ _ (by omega) (by omega)]
    · rw [q4 _ _ (by omega), fA _ _ (by omega) (by omega)]
    · obtain ⟨g1, g2, g3⟩ := hI.2.2 i hi
      rw [fC 45 _ (by omega), fC 257 _ (by omega), fA 45 _ (by omega) (by omega), fA 257 _ (by omega) (by omega)]
      exact ⟨g1, g2, fun e => tr_same (fun n _ _ k => by rw [fC _ _ (by omega), fA _ _ (by omega) (by omega)]) (fun i' _ => by rw [q4 _ _ (by omega), fA _ _ (by omega) (by omega)]) (g3 e)⟩
  · have l1 : ¬ nI n + 20 ≤ 600 := by rw [s20]; exact nI_ge (a := 600) (by omega) (by omega)
    have m1 : aI M 0 256 4 = some (nI n) := by have := m_get hS (i := 4) (by omega); rw [t2] at this; exact this
    refine ⟨-1, M, M, ?_, m_shp hS, ?_, hI⟩
    · unfold f_X11_feed
      rw [d_r0 hS, bb_some, c1, bb_some, if_neg l1]
    · unfold f_X12_feed
      rw [m_r0 hS, bb_some, m1, bb_some, if_neg l1]
