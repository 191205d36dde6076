/-! what is told, moved -/
def LT (q : Nat) : Nat := if (q - 6) % 18 < 11 then LO ((q - 6) % 18) else if (q - 6) % 18 < 14 then LD ((q - 6) % 18 - 11) else LL ((q - 6) % 18 - 14)
theorem LT_o {k q : Nat} (hq : q < 11) : LT (6 + 18 * k + q) = LO q := by
  unfold LT
  rw [show (6 + 18 * k + q - 6) % 18 = q by omega, if_pos hq]
theorem LT_d {k q : Nat} (hq : q < 3) : LT (17 + 18 * k + q) = LD q := by
  unfold LT
  rw [show (17 + 18 * k + q - 6) % 18 = q + 11 by omega, if_neg (by omega), if_pos (by omega), show q + 11 - 11 = q by omega]
theorem LT_l {k q : Nat} (hq : q < 4) : LT (20 + 18 * k + q) = LL q := by
  unfold LT
  rw [show (20 + 18 * k + q - 6) % 18 = q + 14 by omega, if_neg (by omega), if_neg (by omega), show q + 14 - 14 = q by omega]
theorem oc_move {M M' : Mem} {o o' : Nat} {a : Nat → Nat} (hO : OkO a) (h : ∀ q, q < 11 → ∀ k, k < LO q → M'.1 (o' + q) k = M.1 (o + q) k) (hc : OC M o a) : OC M' o' a := by
  obtain ⟨h1, h2, h3, h4, h5⟩ := hc
  have h8 := hO.1.1
  have h10 := hO.1.2.1
  have l1 : ∀ j, j < 5 → LO (1 + j) = 8 := fun j hj => by unfold LO; rw [if_neg (by omega), if_pos (by omega)]
  have l6 : ∀ j, j < 3 → LO (6 + j) = 10 := fun j hj => by unfold LO; rw [if_neg (by omega), if_neg (by omega), if_pos (by omega)]
  refine ⟨fun i hi => ?_, fun d hd j hj => ?_, fun c hc j hj => ?_, fun d hd => ?_, fun d hd s hs => ?_⟩
  · rw [← h1 i hi]; exact h 0 (by omega) i hi
  · rw [← h2 d hd j hj, Nat.add_assoc o', Nat.add_assoc o]; exact h (1 + j) (by omega) d (by rw [l1 j hj]; omega)
  · rw [← h3 c hc j hj, Nat.add_assoc o', Nat.add_assoc o]; exact h (6 + j) (by omega) c (by rw [l6 j hj]; omega)
  · rw [← h4 d hd]; exact h 9 (by omega) d (show d < 8 by omega)
  · rw [← h5 d hd s hs]; exact h 10 (by omega) _ (show 8 * d + s < 64 by omega)
theorem dc_move {M M' : Mem} {o o' : Nat} {a : Nat → Nat} (hO : OkD a) (h : ∀ q, q < 3 → ∀ k, k < LD q → M'.1 (o' + q) k = M.1 (o + q) k) (hc : DC M o a) : DC M' o' a := by
  have := hO.1
  refine ⟨?_, fun k hk => ⟨?_, ?_⟩⟩
  · rw [← hc.1]; exact h 0 (by omega) 0 (show 0 < 1 by omega)
  · rw [← (hc.2 k hk).1]; exact h 1 (by omega) k (show k < 40 by omega)
  · rw [← (hc.2 k hk).2]; exact h 2 (by omega) k (show k < 40 by omega)
theorem lr_move {M M' : Mem} {o o' p p' : Nat} (h : ∀ q, q < 4 → ∀ k, k < LL q → M'.1 (o' + q) k = M.1 (o + q) k) (h6 : ∀ i, i < 33 → M'.1 256 (p' + i) = M.1 256 (p + i)) (hc : LR M o p) : LR M' o' p' := by
  obtain ⟨n, hn, g1, g2, g3⟩ := hc
  refine ⟨n, hn, ?_, ?_, fun k hk => ?_⟩
  · rw [← g1]; exact h6 0 (by omega)
  · rw [← g2]; exact h 0 (by omega) 0 (show 0 < 1 by omega)
  · have e1 := h 1 (by omega) k (show k < 8 by omega)
    have e2 := h 2 (by omega) k (show k < 8 by omega)
    have e3 := h 3 (by omega) k (show k < 8 by omega)
    rw [e1, e2, e3, Nat.add_assoc p', Nat.add_assoc p', Nat.add_assoc p', Nat.add_assoc p', h6 _ (by omega), h6 _ (by omega), h6 _ (by omega), h6 _ (by omega)]
    have := g3 k hk
    rw [Nat.add_assoc p, Nat.add_assoc p, Nat.add_assoc p, Nat.add_assoc p] at this
    exact this
def TB (M : Mem) (T B : Nat) : Prop := ∃ c : Nat → Nat, (∀ s, s < 3 → c s ≤ 2 ∧ M.1 (T + 2) s = nI (c s) ∧ M.1 256 (B + s) = nI (c s)) ∧ (∀ k, k < c 0 → OR M (T + 6 + 18 * k) (B + 610 + 75 * k)) ∧ (∀ k, k < c 1 → DR M (T + 17 + 18 * k) (B + 760 + 81 * k)) ∧ ∀ k, k < c 2 → LR M (T + 20 + 18 * k) (B + 922 + 33 * k)
theorem tb_move {M M' : Mem} {T T' B B' : Nat} (hc : ∀ s, s < 3 → M'.1 (T' + 2) s = M.1 (T + 2) s) (h : ∀ q, 6 ≤ q → q < 42 → ∀ k, k < LT q → M'.1 (T' + q) k = M.1 (T + q) k) (h6 : ∀ i, (i < 3 ∨ 610 ≤ i) → i < 988 → M'.1 256 (B' + i) = M.1 256 (B + i)) (hT : TB M T B) : TB M' T' B' := by
  obtain ⟨c, h9, h10, h11, h12⟩ := hT
  refine ⟨c, fun s hs => ⟨(h9 s hs).1, ?_, ?_⟩, fun k hk => ?_, fun k hk => ?_, fun k hk => ?_⟩
  · rw [hc s hs]; exact (h9 s hs).2.1
  · rw [h6 s (by omega) (by omega)]; exact (h9 s hs).2.2
  · have hc := (h9 0 (by omega)).1
    obtain ⟨a, g1, g2, g3⟩ := h10 k hk
    refine ⟨a, g1, fun i hi => ?_, oc_move g1 (fun q hq j hj => ?_) g3⟩
    · rw [← g2 i hi, Nat.add_assoc B', Nat.add_assoc B', Nat.add_assoc B, Nat.add_assoc B]
      exact h6 _ (by omega) (by omega)
    · rw [Nat.add_assoc T', Nat.add_assoc T', Nat.add_assoc T, Nat.add_assoc T]
      exact h _ (by omega) (by omega) j (by rw [LT_o hq]; exact hj)
  · have hc := (h9 1 (by omega)).1
    obtain ⟨a, g1, g2, g3⟩ := h11 k hk
    refine ⟨a, g1, fun i hi => ?_, dc_move g1 (fun q hq j hj => ?_) g3⟩
    · rw [← g2 i hi, Nat.add_assoc B', Nat.add_assoc B', Nat.add_assoc B, Nat.add_assoc B]
      exact h6 _ (by omega) (by omega)
    · rw [Nat.add_assoc T', Nat.add_assoc T', Nat.add_assoc T, Nat.add_assoc T]
      exact h _ (by omega) (by omega) j (by rw [LT_d hq]; exact hj)
  · have hc := (h9 2 (by omega)).1
    refine lr_move (fun q hq j hj => ?_) (fun i hi => ?_) (h12 k hk)
    · rw [Nat.add_assoc T', Nat.add_assoc T', Nat.add_assoc T, Nat.add_assoc T]
      exact h _ (by omega) (by omega) j (by rw [LT_l hq]; exact hj)
    · rw [Nat.add_assoc B', Nat.add_assoc B', Nat.add_assoc B, Nat.add_assoc B]
      exact h6 _ (by omega) (by omega)
theorem tr_mk {M : Mem} {T B n : Nat} (h1 : n ≤ 600) (h2 : M.1 T 1 = nI n) (h3 : M.1 256 (B + 4) = nI n) (h4 : ∀ i, i < n → M.1 256 (B + 10 + i) = M.1 (T + 1) i &&& 255) (h5 : ∀ i, i < 600 → fits .byte (.int (M.1 (T + 1) i)) = true) (h6 : M.1 256 (B + 5) = M.1 T 2) (h7 : M.1 256 (B + 6) = M.1 T 3) (h8 : TB M T B) : TR M T B := ⟨⟨n, h1, h2, h3, h4⟩, h5, h6, h7, h8⟩
theorem tr_move {M M' : Mem} {T T' B B' : Nat} (h0 : ∀ k, 1 ≤ k → k < 4 → M'.1 T' k = M.1 T k) (h1 : ∀ k, k < 600 → M'.1 (T' + 1) k = M.1 (T + 1) k) (hc : ∀ s, s < 3 → M'.1 (T' + 2) s = M.1 (T + 2) s) (h : ∀ q, 6 ≤ q → q < 42 → ∀ k, k < LT q → M'.1 (T' + q) k = M.1 (T + q) k) (h6 : ∀ i, i < 988 → M'.1 256 (B' + i) = M.1 256 (B + i)) (hT : TR M T B) : TR M' T' B' := by
  obtain ⟨⟨n, t1, t2, t3, t4⟩, t5, t6, t7, t8⟩ := hT
  refine tr_mk t1 (by rw [h0 1 (by omega) (by omega)]; exact t2) (by rw [h6 4 (by omega)]; exact t3) (fun i hi => ?_) (fun i hi => by rw [h1 i hi]; exact t5 i hi) (by rw [h6 5 (by omega), h0 2 (by omega) (by omega)]; exact t6) (by rw [h6 6 (by omega), h0 3 (by omega) (by omega)]; exact t7) (tb_move hc h (fun i _ hi => h6 i hi) t8)
  rw [h1 i (by omega), ← t4 i hi, Nat.add_assoc B', Nat.add_assoc B]
  exact h6 _ (by omega)
/-- memory that is the same where what is told stands -/
theorem tr_same {M M' : Mem} {T B : Nat} (h : ∀ n, T ≤ n → n < T + 42 → ∀ k, M'.1 n k = M.1 n k) (h6 : ∀ i, i < 988 → M'.1 256 (B + i) = M.1 256 (B + i)) (hT : TR M T B) : TR M' T B := tr_move (fun k _ _ => h T (by omega) (by omega) k) (fun k _ => h (T + 1) (by omega) (by omega) k) (fun k _ => h (T + 2) (by omega) (by omega) k) (fun q hq hq' k _ => h (T + q) (by omega) (by omega) k) h6 hT
theorem call_end {M : Mem} (hI : Inv M) (a1 : Int32)  : ∃ (r : Int32) (M1 M2 : Mem), f_X11_end M 1 a1 = some (r, M1) ∧ shp M1 255 = some (.inl 12) ∧ f_X12_end M1 255 a1 = some (r, M2) ∧ Inv M2 := by
  have hS := hI.1
  by_cases hneg : a1 < 0
  · exact ⟨-1, M, M, by simp [f_X11_end, hneg], m_shp hS, by simp [f_X12_end, hneg], hI⟩
  · obtain ⟨⟨n, hn, t1, t2, t3⟩, t4, t5, t6, t7⟩ := hI.2.1
    have t1 : M.1 2 1 = nI n := t1
    have t2 : M.1 256 4 = nI n := t2
    have c1 : gI M 9 2 1 = some (nI n) := by rw [gI_at (t_shp hS).2, t1]
    have m1 : aI M 0 256 4 = some (nI n) := by have := m_all hS (i := 4) (by omega); rw [t2] at this; exact this
    obtain ⟨j, hj, rfl⟩ := nI_of hneg
    by_cases hle : nI j ≤ nI n
    · have hjn : j ≤ n := (nI_leI hj (by omega)).mp hle
      have hF : Fr (fun n k => (n = 2 ∧ k = 1) ∨ (n = 256 ∧ k = 4)) M (wI (wI M 2 1 (nI j)) 256 4 (nI j)) := fr_put (fr_wI (Or.inl ⟨rfl, rfl⟩)) (Or.inr ⟨rfl, rfl⟩)
      have w1 : (wI (wI M 2 1 (nI j)) 256 4 (nI j)).1 2 1 = nI j := by simp [wI]
      have w2 : (wI (wI M 2 1 (nI j)) 256 4 (nI j)).1 256 4 = nI j := by simp [wI]
      refine ⟨nI j, wI M 2 1 (nI j), wI (wI M 2 1 (nI j)) 256 4 (nI j), ?_, m_shp hS, ?_, ?_⟩
      · simp [f_X11_end, hneg, d_r0 hS, c1, hle, pI_at (t_shp hS).2]
      · have hS1 : Sk (wI M 2 1 (nI j)) := hS
        have m2 : aI (wI M 2 1 (nI j)) 0 256 4 = some (nI n) := by
          have := m_all hS1 (i := 4) (by omega)
          rw [wI_rd, if_neg (by omega), t2] at this
          exact this
        have m3 : sI (wI M 2 1 (nI j)) 0 256 4 (nI j) = some (wI (wI M 2 1 (nI j)) 256 4 (nI j)) := by
          have := sI_at (m_s256 hS1) (i := 4) (by omega) (by omega) (nI j)
          rw [nar0] at this
          exact this
        simp [f_X12_end, hneg, m_r0 hS1, m2, hle, m3]
      · generalize wI (wI M 2 1 (nI j)) 256 4 (nI j) = M2 at hF w1 w2
        refine ⟨fr_sk hF hS, tr_mk (n := j) (by omega) w1 w2 (fun i hi => ?_) (fun i hi => ?_) ?_ ?_ (tb_move (T := 2) (B := 0) (fun s _ => hF.2 _ _ (by omega)) (fun q _ _ k _ => hF.2 _ _ (by omega)) (fun i hi _ => hF.2 _ _ (by omega)) t7), fun i hi => ?_⟩
        · rw [hF.2 _ _ (by omega), hF.2 _ _ (by omega)]
          exact t3 i (by omega)
        · rw [hF.2 _ _ (by omega)]
          exact t4 i hi
        · rw [hF.2 _ _ (by omega), hF.2 _ _ (by omega)]; exact t5
        · rw [hF.2 _ _ (by omega), hF.2 _ _ (by omega)]; exact t6
        · obtain ⟨g1, g2, g3⟩ := hI.2.2 i hi
          rw [hF.2 45 _ (by omega), hF.2 257 _ (by omega)]
          exact ⟨g1, g2, fun e => tr_same (fun n _ _ k => hF.2 _ _ (by omega)) (fun i _ => hF.2 _ _ (by omega)) (g3 e)⟩
    · exact ⟨-1, M, M, by simp [f_X11_end, hneg, d_r0 hS, c1, hle], m_shp hS, by simp [f_X12_end, hneg, m_r0 hS, m1, hle], hI⟩
def toL : List Nat := [2, 129, 171, 213]
theorem toL_sh : ∀ T ∈ toL, 0 < T ∧ SH[T - 1]? = some (.inl 9) ∧ SH[T + 1 - 1]? = some (.inr (1, 600)) ∧ SH[T + 2 - 1]? = some (.inr (0, 3)) ∧ SH[T + 3 - 1]? = some (.inr (5, 2)) ∧ SH[T + 4 - 1]? = some (.inr (6, 2)) ∧ SH[T + 5 - 1]? = some (.inr (7, 2)) := by decide +kernel
theorem toL_rf : ∀ T ∈ toL, (T, 0, T + 1) ∈ refTab ∧ (T, 4, T + 2) ∈ refTab ∧ (T, 5, T + 3) ∈ refTab ∧ (T, 6, T + 4) ∈ refTab ∧ (T, 7, T + 5) ∈ refTab := by decide +kernel
theorem toL_o : ∀ T ∈ toL, ∀ i, i < 2 → (T + 3, i, T + 6 + 18 * i) ∈ refTab ∧ T + 6 + 18 * i ∈ ofL := by decide +kernel
theorem toL_d : ∀ T ∈ toL, ∀ i, i < 2 → (T + 4, i, T + 17 + 18 * i) ∈ refTab ∧ T + 17 + 18 * i ∈ dyL := by decide +kernel
theorem toL_l : ∀ T ∈ toL, ∀ i, i < 2 → (T + 5, i, T + 20 + 18 * i) ∈ refTab ∧ T + 20 + 18 * i ∈ lgL := by decide +kernel
theorem to_gr {M : Mem} {T : Nat} (hS : Sk M) (a0 : 0 < T) (a1 : SH[T - 1]? = some (.inl 9)) {k v : Nat} (h : (T, k, v) ∈ refTab) : gR M 9 T k = some v := by rw [gR_at (sk_shp hS a0 a1), hS.2 _ h]
theorem to_ar {M : Mem} {t n v i : Nat} (hi : i < 2) (hS : Sk M) (a0 : 0 < n) (a1 : SH[n - 1]? = some (.inr (t, 2))) (h : (n, i, v) ∈ refTab) : aR M t n (nI i) = some v := by rw [aR_at (sk_shp hS a0 a1) hi (by omega), hS.2 _ h]
/-- what Told.copyFrom leaves -/
def TCp (M M' : Mem) (T T' : Nat) : Prop := M'.2 = M.2 ∧ (∀ k, 1 ≤ k → k < 4 → M'.1 T' k = M.1 T k) ∧ (∀ k, k < 600 → M'.1 (T' + 1) k = M.1 (T + 1) k) ∧ (∀ s, s < 3 → M'.1 (T' + 2) s = M.1 (T + 2) s) ∧ (∀ q, 6 ≤ q → q < 42 → ∀ k, k < LT q → M'.1 (T' + q) k = M.1 (T + q) k) ∧ ∀ n, n < T' ∨ T' + 42 ≤ n → ∀ k, M'.1 n k = M.1 n k
def TSt (M : Mem) (T T' i : Nat) (M' : Mem) : Prop := M'.2 = M.2 ∧ (∀ q, 6 ≤ q → q < 6 + 18 * i → ∀ k, k < LT q → M'.1 (T' + q) k = M.1 (T + q) k) ∧ ∀ n, n < T' + 6 ∨ T' + 6 + 18 * i ≤ n → ∀ k, M'.1 n k = M.1 n k
theorem tst_nx {M M' : Mem} {T T' i : Nat} (hi : i < 2) (hd : T + 42 ≤ T' ∨ T' + 42 ≤ T) (h : TSt M T T' i M') : TSt M T T' (i + 1) (cpM LL (cpM LD (cpM LO M' (T + 6 + 18 * i) (T' + 6 + 18 * i) 11 0) (T + 17 + 18 * i) (T' + 17 + 18 * i) 3 0) (T + 20 + 18 * i) (T' + 20 + 18 * i) 4 0) := by
  obtain ⟨h1, h2, h3⟩ := h
  refine ⟨h1, fun q hq hq' k hk => ?_, fun n hn k => ?_⟩
  · rcases (show q < 6 + 18 * i ∨ (∃ j, j < 11 ∧ q = 6 + 18 * i + j) ∨ (∃ j, j < 3 ∧ q = 17 + 18 * i + j) ∨ (∃ j, j < 4 ∧ q = 20 + 18 * i + j) by
      rcases (show q < 6 + 18 * i ∨ (6 + 18 * i ≤ q ∧ q < 17 + 18 * i) ∨ (17 + 18 * i ≤ q ∧ q < 20 + 18 * i) ∨ (20 + 18 * i ≤ q ∧ q < 24 + 18 * i) by omega) with h | h | h | h
      · exact Or.inl h
      · exact Or.inr (Or.inl ⟨q - (6 + 18 * i), by omega, by omega⟩)
      · exact Or.inr (Or.inr (Or.inl ⟨q - (17 + 18 * i), by omega, by omega⟩))
      · exact Or.inr (Or.inr (Or.inr ⟨q - (20 + 18 * i), by omega, by omega⟩))) with h | ⟨j, hj, rfl⟩ | ⟨j, hj, rfl⟩ | ⟨j, hj, rfl⟩
    · rw [cpM_out (by omega), cpM_out (by omega), cpM_out (by omega)]
      exact h2 q hq h k hk
    · rw [LT_o hj] at hk
      rw [cpM_out (by omega), cpM_out (by omega), show T' + (6 + 18 * i + j) = T' + 6 + 18 * i + j by omega, cpM_in hj hk, h3 _ (by omega), show T + 6 + 18 * i + j = T + (6 + 18 * i + j) by omega]
    · rw [LT_d hj] at hk
      rw [cpM_out (by omega), show T' + (17 + 18 * i + j) = T' + 17 + 18 * i + j by omega, cpM_in hj hk, cpM_out (by omega), h3 _ (by omega), show T + 17 + 18 * i + j = T + (17 + 18 * i + j) by omega]
    · rw [LT_l hj] at hk
      rw [show T' + (20 + 18 * i + j) = T' + 20 + 18 * i + j by omega, cpM_in hj hk, cpM_out (by omega), cpM_out (by omega), h3 _ (by omega), show T + 20 + 18 * i + j = T + (20 + 18 * i + j) by omega]
  · rw [cpM_out (by omega), cpM_out (by omega), cpM_out (by omega)]
    exact h3 n (by omega) k
theorem cp_b {M : Mem} (hS : Sk M) {T T' i : Nat} (hT : T ∈ toL) (hT' : T' ∈ toL) (hi : i < 2) (hd : T + 42 ≤ T' ∨ T' + 42 ≤ T) : f_X9_copyFrom_B56 M T' T (nI i) = some (.inl (nI i + 1, cpM LL (cpM LD (cpM LO M (T + 6 + 18 * i) (T' + 6 + 18 * i) 11 0) (T + 17 + 18 * i) (T' + 17 + 18 * i) 3 0) (T + 20 + 18 * i) (T' + 20 + 18 * i) 4 0)) := by
  obtain ⟨a0, a1, a2, a3, a4, a5, a6⟩ := toL_sh T hT
  obtain ⟨b0, b1, b2, b3, b4, b5, b6⟩ := toL_sh T' hT'
  obtain ⟨r0, r4, r5, r6, r7⟩ := toL_rf T hT
  obtain ⟨s0, s4, s5, s6, s7⟩ := toL_rf T' hT'
  obtain ⟨u1, u2⟩ := toL_o T hT i hi
  obtain ⟨u3, u4⟩ := toL_d T hT i hi
  obtain ⟨u5, u6⟩ := toL_l T hT i hi
  obtain ⟨w1, w2⟩ := toL_o T' hT' i hi
  obtain ⟨w3, w4⟩ := toL_d T' hT' i hi
  obtain ⟨w5, w6⟩ := toL_l T' hT' i hi
  have n2 : ¬ 2 ≤ nI i := nI_ge (b := 2) hi (by omega)
  have hS1 : Sk (cpM LO M (T + 6 + 18 * i) (T' + 6 + 18 * i) 11 0) := hS
  have hS2 : Sk (cpM LD (cpM LO M (T + 6 + 18 * i) (T' + 6 + 18 * i) 11 0) (T + 17 + 18 * i) (T' + 17 + 18 * i) 3 0) := hS
  have o1 : ob M 5 (T' + 6 + 18 * i) = some () := ob_at (sk_shp hS (ofL_ok _ w2).1.1 (ofL_ok _ w2).1.2)
  have o2 : ob (cpM LO M (T + 6 + 18 * i) (T' + 6 + 18 * i) 11 0) 1 (T' + 17 + 18 * i) = some () := ob_at (sk_shp hS1 (dyL_ok _ w4).1.1 (dyL_ok _ w4).1.2)
  have o3 : ob (cpM LD (cpM LO M (T + 6 + 18 * i) (T' + 6 + 18 * i) 11 0) (T + 17 + 18 * i) (T' + 17 + 18 * i) 3 0) 4 (T' + 20 + 18 * i) = some () := ob_at (sk_shp hS2 (lgL_ok _ w6).1.1 (lgL_ok _ w6).1.2)
  unfold f_X9_copyFrom_B56
  rw [if_neg n2, to_gr hS b0 b1 s5, bb_some, to_ar hi hS (by omega) b4 w1, bb_some, to_gr hS a0 a1 r5, bb_some, to_ar hi hS (by omega) a4 u1, bb_some, o1, bb_some, cp_o hS u2 w2 (by omega), bb_some,
    to_gr hS1 b0 b1 s6, bb_some, to_ar hi hS1 (by omega) b5 w3, bb_some, to_gr hS1 a0 a1 r6, bb_some, to_ar hi hS1 (by omega) a5 u3, bb_some, o2, bb_some, cp_d hS1 u4 w4 (by omega), bb_some,
    to_gr hS2 b0 b1 s7, bb_some, to_ar hi hS2 (by omega) b6 w5, bb_some, to_gr hS2 a0 a1 r7, bb_some, to_ar hi hS2 (by omega) a6 u5, bb_some, o3, bb_some, cp_l hS2 u6 w6 (by omega), bb_some]
theorem cp_t {M : Mem} (hS : Sk M) {T T' : Nat} (hT : T ∈ toL) (hT' : T' ∈ toL) (hd : T + 42 ≤ T' ∨ T' + 42 ≤ T) (hf : ∀ i, i < 600 → fits .byte (.int (M.1 (T + 1) i)) = true) : ∃ M', f_X9_copyFrom M T' T = some M' ∧ TCp M M' T T' := by
  obtain ⟨a0, a1, a2, a3, a4, a5, a6⟩ := toL_sh T hT
  obtain ⟨b0, b1, b2, b3, b4, b5, b6⟩ := toL_sh T' hT'
  obtain ⟨r0, r4, r5, r6, r7⟩ := toL_rf T hT
  obtain ⟨s0, s4, s5, s6, s7⟩ := toL_rf T' hT'
  let A := wI (wI (wI M T' 1 (M.1 T 1)) T' 2 (M.1 T 2)) T' 3 (M.1 T 3)
  have hSA : Sk A := hS
  let B := wC A (T + 1) (T' + 1) 0 0 600
  have hSB : Sk B := hS
  let C := wC B (T + 2) (T' + 2) 0 0 3
  have hSC : Sk C := hS
  have hA : ∀ n k, n ≠ T' → A.1 n k = M.1 n k := fun n k hn => by simp [A, wI, hn]
  have hB : ∀ n k, n ≠ T' + 1 → B.1 n k = A.1 n k := fun n k hn => by simp [B, wC, hn]
  have hC : ∀ n k, n ≠ T' + 2 → C.1 n k = B.1 n k := fun n k hn => by simp [C, wC, hn]
  have e1 : cpA A 1 (T + 1) 0 (T' + 1) 0 600 = some B := cp_at (sk_shp hSA (by omega) a2) (sk_shp hSA (by omega) b2) (L := 600) (by omega) (by omega) (fun i hi => by rw [hA _ _ (by omega)]; exact hf i hi)
  have e2 : cpA B 0 (T + 2) 0 (T' + 2) 0 3 = some C := cp_at (sk_shp hSB (by omega) a3) (sk_shp hSB (by omega) b3) (L := 3) (by omega) (by omega) (fun _ _ => rfl)
  obtain ⟨M', e3, h1, h2, h3⟩ := iter_rel (f := fun s : Int32 × Mem => f_X9_copyFrom_B56 s.2 T' T s.1) 2 (fun i s => s.1 = nI i ∧ TSt C T T' i s.2) (fun r => TSt C T T' 2 r) (fun i s hi ⟨hs1, hs2⟩ => by
    obtain ⟨s1, s2⟩ := s
    have hs1 : s1 = nI i := hs1
    subst hs1
    have hS2 : Sk s2 := by have := hs2.1; unfold Sk at *; rw [this]; exact hS
    exact Or.inl ⟨_, cp_b hS2 hT hT' hi hd, nI_1 i, tst_nx hi hd hs2⟩) (fun s ⟨hs1, hs2⟩ => by
    obtain ⟨s1, s2⟩ := s
    have hs1 : s1 = nI 2 := hs1
    subst hs1
    exact ⟨s2, by simp [f_X9_copyFrom_B56, show nI 2 = 2 from rfl], hs2⟩) 1048576 0 (0, C) (by omega) ⟨rfl, rfl, fun q h h' => absurd h' (by omega), fun _ _ _ => rfl⟩ (by omega)
  have e3 : f_X9_copyFrom_L56 C T' T 0 = some M' := e3
  refine ⟨M', ?_, h1, fun k hk hk' => ?_, fun k hk => ?_, fun k hk => ?_, fun q hq hq' k hk => ?_, fun n hn k => ?_⟩
  · have g1 : gI M 9 T 1 = some (M.1 T 1) := gI_at (sk_shp hS a0 a1) 1
    have g2 : gI (wI M T' 1 (M.1 T 1)) 9 T 2 = some (M.1 T 2) := by
      rw [gI_at (sk_shp (M := wI M T' 1 (M.1 T 1)) hS a0 a1), wI_rd, if_neg (by omega)]
    have g3 : gI (wI (wI M T' 1 (M.1 T 1)) T' 2 (M.1 T 2)) 9 T 3 = some (M.1 T 3) := by
      rw [gI_at (sk_shp (M := wI (wI M T' 1 (M.1 T 1)) T' 2 (M.1 T 2)) hS a0 a1), wI_rd, if_neg (by omega), wI_rd, if_neg (by omega)]
    unfold f_X9_copyFrom
    rw [g1, bb_some, pI_at (sk_shp hS b0 b1), bb_some, g2, bb_some, pI_at (sk_shp (M := wI M T' 1 (M.1 T 1)) hS b0 b1), bb_some, g3, bb_some, pI_at (sk_shp (M := wI (wI M T' 1 (M.1 T 1)) T' 2 (M.1 T 2)) hS b0 b1), bb_some, to_gr hSA a0 a1 r0, bb_some, to_gr hSA b0 b1 s0, bb_some, e1, bb_some, to_gr hSB a0 a1 r4, bb_some, to_gr hSB b0 b1 s4, bb_some, e2, bb_some, e3, bb_some]
  · rw [h3 _ (by omega), hC _ _ (by omega), hB _ _ (by omega)]
    rcases (show k = 1 ∨ k = 2 ∨ k = 3 by omega) with rfl | rfl | rfl <;> simp [A, wI]
  · rw [h3 _ (by omega), hC _ _ (by omega)]
    show (if _ then va_cpy _ _ _ _ _ _ else _) = _
    rw [if_pos rfl, pk_cpy_in (by omega) (by omega), Nat.zero_add, Nat.sub_zero, hA _ _ (by omega)]
  · rw [h3 _ (by omega)]
    show (if _ then va_cpy _ _ _ _ _ _ else _) = _
    rw [if_pos rfl, pk_cpy_in (by omega) (by omega), Nat.zero_add, Nat.sub_zero, hB _ _ (by omega), hA _ _ (by omega)]
  · rw [h2 q hq (by omega) k hk, hC _ _ (by omega), hB _ _ (by omega), hA _ _ (by omega)]
  · rw [h3 n (by omega), hC _ _ (by omega), hB _ _ (by omega), hA _ _ (by omega)]
/-- a copy within the model's numbers -/
def MCp (M M' : Mem) (B B' : Nat) : Prop := M'.2 = M.2 ∧ (∀ i, i < 988 → M'.1 256 (B' + i) = M.1 256 (B + i)) ∧ ∀ n k, ¬ (n = 256 ∧ B' ≤ k ∧ k < B' + 988) → M'.1 n k = M.1 n k
theorem mcp {M : Mem} (hS : Sk M) {B B' : Nat} (hB : B + 988 ≤ 3952) (hB' : B' + 988 ≤ 3952) (hd : B + 988 ≤ B' ∨ B' + 988 ≤ B) {f : Int32 × Mem → Option ((Int32 × Mem) ⊕ Mem)} (h0 : ∀ i M, i < 988 → Sk M → f (nI i, M) = some (.inl (nI (i + 1), wI M 256 (B' + i) (M.1 256 (B + i))))) (hx : ∀ M, f (nI 988, M) = some (.inr M)) : ∃ M', iter f 1048576 (0, M) = some M' ∧ MCp M M' B B' := by
  obtain ⟨M', e, h1, h2, h3⟩ := iter_rel (f := f) 988 (fun i s => s.1 = nI i ∧ s.2.2 = M.2 ∧ (∀ k, k < i → s.2.1 256 (B' + k) = M.1 256 (B + k)) ∧ ∀ n k, ¬ (n = 256 ∧ B' ≤ k ∧ k < B' + i) → s.2.1 n k = M.1 n k) (fun r => MCp M r B B') (fun i s hi ⟨hs1, hs2, hs3, hs4⟩ => by
    obtain ⟨s1, s2⟩ := s
    have hs1 : s1 = nI i := hs1
    subst hs1
    have hS2 : Sk s2 := by unfold Sk at *; rw [show s2.2 = M.2 from hs2]; exact hS
    refine Or.inl ⟨_, h0 i s2 hi hS2, rfl, hs2, fun k hk => ?_, fun n k hn => ?_⟩
    · rw [wI_rd]
      by_cases e : k = i
      · subst e
        rw [if_pos ⟨rfl, rfl⟩]
        exact hs4 _ _ (by omega)
      · rw [if_neg (by omega)]
        exact hs3 k (by omega)
    · rw [wI_rd, if_neg (by omega)]
      exact hs4 n k (by omega)) (fun s ⟨hs1, hs2, hs3, hs4⟩ => by
    obtain ⟨s1, s2⟩ := s
    have hs1 : s1 = nI 988 := hs1
    subst hs1
    exact ⟨s2, hx s2, hs2, hs3, hs4⟩) 1048576 0 (0, M) (by omega) ⟨rfl, rfl, fun k hk => absurd hk (by omega), fun _ _ _ => rfl⟩ (by omega)
  exact ⟨M', e, h1, h2, h3⟩
theorem x988 (j i : Nat) : (988 : Int32) * (nI j + 1) + nI i = nI (988 * (j + 1) + i) := by
  rw [nI_1]
  show nI 988 * nI (j + 1) + nI i = _
  rw [pk_mul, nI_add]
theorem m_get {M : Mem} (hS : Sk M) {i : Nat} (hi : i < 3952) : aI M 0 256 (nI i) = some (M.1 256 i) := m_all hS hi
theorem m_put {M : Mem} (hS : Sk M) {i : Nat} (hi : i < 3952) (v : Int32) : sI M 0 256 (nI i) v = some (wI M 256 i v) := by rw [sI_at (m_s256 hS) hi (by omega), nar0]
theorem to_j {j : Nat} (hj : j < 3) : 129 + 42 * j ∈ toL := by rcases (show j = 0 ∨ j = 1 ∨ j = 2 by omega) with rfl | rfl | rfl <;> decide
theorem d_im {M : Mem} (hS : Sk M) {j : Nat} (hj : j < 3) : aR M 4 44 (nI j) = some (129 + 42 * j) := by
  rw [aR_at (sk_shp hS (n := 44) (by omega) rfl) hj (by omega)]
  rcases (show j = 0 ∨ j = 1 ∨ j = 2 by omega) with rfl | rfl | rfl
  · rw [hS.2 (44, 0, 129) (by decide)]
  · rw [hS.2 (44, 1, 171) (by decide)]
  · rw [hS.2 (44, 2, 213) (by decide)]
theorem nar2 : nar 2 1 = 1 := rfl
theorem tcp_sk {M M' : Mem} {T T' : Nat} (h : TCp M M' T T') (hS : Sk M) : Sk M' := by unfold Sk at *; rw [h.1]; exact hS
theorem mcp_sk {M M' : Mem} {T T' : Nat} (h : MCp M M' T T') (hS : Sk M) : Sk M' := by unfold Sk at *; rw [h.1]; exact hS
theorem call_image {M : Mem} (hI : Inv M) (a1 : Int32)  : ∃ (r : Int32) (M1 M2 : Mem), f_X11_image M 1 a1 = some (r, M1) ∧ shp M1 255 = some (.inl 12) ∧ f_X12_image M1 255 a1 = some (r, M2) ∧ Inv M2 := by
  have hS := hI.1
  rcases io_cases a1 (n := 3) (by omega) with hx | ⟨j, hj, rfl⟩
  · refine ⟨0, M, M, ?_, m_shp hS, ?_, hI⟩
    · unfold f_X11_image
      rcases hx with hx | hx
      · rw [if_pos hx]
      · rw [if_neg (show ¬ a1 < 3 by rw [Int32.lt_iff_toInt_lt]; rw [Int32.le_iff_toInt_le] at hx; have : (nI 3).toInt = (3 : Int32).toInt := rfl; omega)]
        split <;> rfl
    · have := ii_out M hx (by omega)
      rw [show nI 3 - 1 = 2 from rfl] at this
      simp [f_X12_image, this]
  · have h1 : ¬ nI j < 0 := nI_pos (by omega)
    have h2 : nI j < 3 := nI_lt (b := 3) hj (by omega)
    obtain ⟨A, e1, hA⟩ := cp_t hS (T := 2) (T' := 129 + 42 * j) (by decide) (to_j hj) (by omega) hI.2.1.2.1
    have hSA := tcp_sk hA hS
    let B := wI A 45 j 1
    have hSB : Sk B := hSA
    let C := wI B 257 j 1
    have hSC : Sk C := hSA
    have e2 : sI A 2 45 (nI j) 1 = some B := by rw [sI_at (sk_shp hSA (n := 45) (by omega) rfl) hj (by omega), nar2]
    have e3 : sI B 2 257 (nI j) 1 = some C := by rw [sI_at (m_s257 hSB) hj (by omega), nar2]
    obtain ⟨D, e4, hD⟩ := mcp hSC (B := 0) (B' := 988 * (j + 1)) (by omega) (by omega) (by omega) (f := fun s : Int32 × Mem => f_X12_image_B20 s.2 255 (nI j) s.1) (fun i M hi hS => by
      have n2 : ¬ 988 ≤ nI i := nI_ge (b := 988) hi (by omega)
      show f_X12_image_B20 M 255 (nI j) (nI i) = _
      unfold f_X12_image_B20
      rw [if_neg n2, m_r0 hS, bb_some, bb_some, m_get hS (by omega), bb_some, x988, m_put hS (by omega), bb_some, nI_1, Nat.zero_add]) (fun M => by simp [f_X12_image_B20, show nI 988 = 988 from rfl])
    have e4 : f_X12_image_L20 C 255 (nI j) 0 = some D := e4
    have i1 := ii_in B hj (n := 3) (by omega)
    rw [show nI 3 - 1 = 2 from rfl] at i1
    have hSD := mcp_sk hD hSC
    refine ⟨1, B, D, ?_, m_shp hSB, ?_, hSD, ?_, fun i hi => ?_⟩
    · unfold f_X11_image
      rw [if_neg h1, if_pos h2, d_r1 hS, bb_some, d_im hS hj, bb_some, d_r0 hS, bb_some, ob_at (sk_shp hS (toL_sh _ (to_j hj)).1 (toL_sh _ (to_j hj)).2.1), bb_some, e1, bb_some, d_r2 hSA, bb_some, e2, bb_some]
    · unfold f_X12_image
      rw [i1, bb_some, if_neg (by decide), m_r1 hSB, bb_some, e3, bb_some, e4, bb_some]
    · refine tr_same (fun n hn hn' k => ?_) (fun i hi => ?_) hI.2.1
      · rw [hD.2.2 n k (by omega), wI_rd, if_neg (by omega), wI_rd, if_neg (by omega), hA.2.2.2.2.2 n (by omega)]
      · rw [hD.2.2 _ _ (by omega), wI_rd, if_neg (by omega), wI_rd, if_neg (by omega), hA.2.2.2.2.2 256 (by omega)]
    · by_cases hij : i = j
      · subst hij
        have c1 : D.1 45 i = 1 := by rw [hD.2.2 _ _ (by omega), wI_rd, if_neg (by omega), wI_rd, if_pos ⟨rfl, rfl⟩]
        have c2 : D.1 257 i = 1 := by rw [hD.2.2 _ _ (by omega), wI_rd, if_pos ⟨rfl, rfl⟩]
        refine ⟨Or.inr c1, by rw [c1, c2], fun _ => ?_⟩
        have f : ∀ n k, n < 255 → n ≠ 45 → D.1 n k = A.1 n k := fun n k hn hn' => by rw [hD.2.2 n k (by omega), wI_rd, if_neg (by omega), wI_rd, if_neg (by omega)]
        refine tr_move (T := 2) (B := 0) (M := M) (fun k hk hk' => ?_) (fun k hk => ?_) (fun k hk => ?_) (fun q hq hq' k hk => ?_) (fun k hk => ?_) hI.2.1
        · rw [f _ _ (by omega) (by omega)]; exact hA.2.1 k hk hk'
        · rw [f _ _ (by omega) (by omega)]; exact hA.2.2.1 k hk
        · rw [f _ _ (by omega) (by omega)]; exact hA.2.2.2.1 k hk
        · rw [f _ _ (by omega) (by omega)]; exact hA.2.2.2.2.1 q hq hq' k hk
        · rw [hD.2.1 k hk, wI_rd, if_neg (by omega), wI_rd, if_neg (by omega), hA.2.2.2.2.2 256 (by omega)]
      · obtain ⟨g1, g2, g3⟩ := hI.2.2 i hi
        have c1 : D.1 45 i = M.1 45 i := by rw [hD.2.2 _ _ (by omega), wI_rd, if_neg (by omega), wI_rd, if_neg (by omega), hA.2.2.2.2.2 45 (by omega)]
        have c2 : D.1 257 i = M.1 257 i := by rw [hD.2.2 _ _ (by omega), wI_rd, if_neg (by omega), wI_rd, if_neg (by omega), hA.2.2.2.2.2 257 (by omega)]
        rw [c1, c2]
        refine ⟨g1, g2, fun e => tr_same (fun n hn hn' k => ?_) (fun i' hi' => ?_) (g3 e)⟩
        · rw [hD.2.2 n k (by omega), wI_rd, if_neg (by omega), wI_rd, if_neg (by omega), hA.2.2.2.2.2 n (by omega)]
        · rw [hD.2.2 _ _ (by omega), wI_rd, if_neg (by omega), wI_rd, if_neg (by omega), hA.2.2.2.2.2 256 (by omega)]
theorem call_again {M : Mem} (hI : Inv M) (a1 : Int32)  : ∃ (r : Int32) (M1 M2 : Mem), f_X11_again M 1 a1 = some (r, M1) ∧ shp M1 255 = some (.inl 12) ∧ f_X12_again M1 255 a1 = some (r, M2) ∧ Inv M2 := by
  have hS := hI.1
  rcases io_cases a1 (n := 3) (by omega) with hx | ⟨j, hj, rfl⟩
  · refine ⟨0, M, M, ?_, m_shp hS, ?_, hI⟩
    · unfold f_X11_again
      rcases hx with hx | hx
      · rw [if_pos hx]
      · have hx : 3 ≤ a1 := hx
        rw [if_pos hx]
        split <;> rfl
    · have := ii_out M hx (by omega)
      rw [show nI 3 - 1 = 2 from rfl] at this
      simp [f_X12_again, this]
  · have h1 : ¬ nI j < 0 := nI_pos (by omega)
    have h2 : ¬ 3 ≤ nI j := nI_ge (b := 3) hj (by omega)
    obtain ⟨g1, g2, g3⟩ := hI.2.2 j hj
    have c45 : aI M 2 45 (nI j) = some (M.1 45 j) := aI_at (sk_shp hS (n := 45) (by omega) rfl) hj (by omega) (by omega)
    by_cases h0 : M.1 45 j = 0
    · have i1 := ii_in M hj (n := 3) (by omega)
      rw [show nI 3 - 1 = 2 from rfl] at i1
      have c57 : aI M 2 257 (nI j) = some 0 := by rw [aI_at (m_s257 hS) hj (by omega) (by omega), g2, h0]
      refine ⟨0, M, M, ?_, m_shp hS, ?_, hI⟩
      · unfold f_X11_again
        rw [if_neg h1, if_neg h2, d_r2 hS, bb_some, c45, bb_some, if_pos h0]
      · unfold f_X12_again
        rw [i1, bb_some, if_neg (by decide), m_r1 hS, bb_some, c57, bb_some, if_pos rfl]
    · have h01 : M.1 45 j = 1 := by rcases g1 with h | h; exact absurd h h0; exact h
      have hTR := g3 h01
      obtain ⟨A, e1, hA⟩ := cp_t hS (T := 129 + 42 * j) (T' := 2) (to_j hj) (by decide) (by omega) hTR.2.1
      have hSA := tcp_sk hA hS
      have i1 := ii_in A hj (n := 3) (by omega)
      rw [show nI 3 - 1 = 2 from rfl] at i1
      have c57 : aI A 2 257 (nI j) = some 1 := by rw [aI_at (m_s257 hSA) hj (by omega) (by omega), hA.2.2.2.2.2 257 (by omega), g2, h01]
      obtain ⟨D, e4, hD⟩ := mcp hSA (B := 988 * (j + 1)) (B' := 0) (by omega) (by omega) (by omega) (f := fun s : Int32 × Mem => f_X12_again_B22 s.2 255 (nI j) s.1) (fun i M hi hS => by
        have n2 : ¬ 988 ≤ nI i := nI_ge (b := 988) hi (by omega)
        show f_X12_again_B22 M 255 (nI j) (nI i) = _
        unfold f_X12_again_B22
        rw [if_neg n2, m_r0 hS, bb_some, bb_some, x988, m_get hS (by omega), bb_some, m_put hS (by omega), bb_some, nI_1, Nat.zero_add]) (fun M => by simp [f_X12_again_B22, show nI 988 = 988 from rfl])
      have e4 : f_X12_again_L22 A 255 (nI j) 0 = some D := e4
      have hSD := mcp_sk hD hSA
      have f : ∀ n k, n ≠ 256 → D.1 n k = A.1 n k := fun n k hn => hD.2.2 n k (by omega)
      refine ⟨1, A, D, ?_, m_shp hSA, ?_, hSD, ?_, fun i hi => ?_⟩
      · unfold f_X11_again
        rw [if_neg h1, if_neg h2, d_r2 hS, bb_some, c45, bb_some, if_neg h0, d_r0 hS, bb_some, d_r1 hS, bb_some, d_im hS hj, bb_some, t_ob hS, bb_some, e1, bb_some]
      · unfold f_X12_again
        rw [i1, bb_some, if_neg (by decide), m_r1 hSA, bb_some, c57, bb_some, if_neg (by decide), e4, bb_some]
      · refine tr_move (T := 129 + 42 * j) (B := 988 * (j + 1)) (M := M) (fun k hk hk' => ?_) (fun k hk => ?_) (fun k hk => ?_) (fun q hq hq' k hk => ?_) (fun k hk => ?_) hTR
        · rw [f _ _ (by omega)]; exact hA.2.1 k hk hk'
        · rw [f _ _ (by omega)]; exact hA.2.2.1 k hk
        · rw [f _ _ (by omega)]; exact hA.2.2.2.1 k hk
        · rw [f _ _ (by omega)]; exact hA.2.2.2.2.1 q hq hq' k hk
        · rw [hD.2.1 k hk, hA.2.2.2.2.2 256 (by omega)]
      · obtain ⟨g1, g2, g3⟩ := hI.2.2 i hi
        rw [f 45 i (by omega), f 257 i (by omega), hA.2.2.2.2.2 45 (by omega), hA.2.2.2.2.2 257 (by omega)]
        refine ⟨g1, g2, fun e => tr_same (fun n hn hn' k => ?_) (fun i' hi' => ?_) (g3 e)⟩
        · rw [f n k (by omega), hA.2.2.2.2.2 n (by omega)]
        · rw [hD.2.2 _ _ (by omega), hA.2.2.2.2.2 256 (by omega)]
