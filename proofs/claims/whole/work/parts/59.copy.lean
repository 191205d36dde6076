/-! copies -/
def cpM (L : Nat → Nat) (M : Mem) (o o' j i : Nat) : Mem := (fun n k => if o' ≤ n ∧ ((n < o' + j ∧ k < L (n - o')) ∨ (n = o' + j ∧ k < i)) then M.1 (o + (n - o')) k else M.1 n k, M.2)
theorem cpM_0 (L : Nat → Nat) (M : Mem) (o o' : Nat) : cpM L M o o' 0 0 = M := by
  refine Prod.ext (funext fun n => funext fun k => ?_) rfl
  show (if _ then _ else _) = _
  rw [if_neg (by omega)]
theorem cpM_nx (L : Nat → Nat) (M : Mem) (o o' j : Nat) : cpM L M o o' j (L j) = cpM L M o o' (j + 1) 0 := by
  refine Prod.ext (funext fun n => funext fun k => ?_) rfl
  show (if _ then _ else _) = (if _ then _ else _)
  by_cases h1 : n = o' + j
  · subst h1
    rw [show o' + j - o' = j by omega]
    by_cases h2 : k < L j
    · rw [if_pos (by omega), if_pos (by omega)]
    · rw [if_neg (by omega), if_neg (by omega)]
  · by_cases h2 : o' ≤ n ∧ n < o' + j ∧ k < L (n - o')
    · rw [if_pos (by omega), if_pos (by omega)]
    · rw [if_neg (by omega), if_neg (by omega)]
theorem cpM_src {L : Nat → Nat} {M : Mem} {o o' j i N : Nat} (hd : o + N ≤ o' ∨ o' + N ≤ o) (hj : j < N ∨ (j = N ∧ i = 0)) {q : Nat} (hq : q < N) (k : Nat) : (cpM L M o o' j i).1 (o + q) k = M.1 (o + q) k := by
  show (if _ then _ else _) = _
  rw [if_neg (by omega)]
theorem cpM_out {L : Nat → Nat} {M : Mem} {o o' j i : Nat} {n : Nat} (h : n < o' ∨ o' + j < n ∨ (n = o' + j ∧ i = 0)) (k : Nat) : (cpM L M o o' j i).1 n k = M.1 n k := by
  show (if _ then _ else _) = _
  rw [if_neg (by omega)]
theorem cpM_in {L : Nat → Nat} {M : Mem} {o o' j i q k : Nat} (hq : q < j) (hk : k < L q) : (cpM L M o o' j i).1 (o' + q) k = M.1 (o + q) k := by
  show (if _ then _ else _) = _
  rw [show o' + q - o' = q by omega, if_pos (by omega)]
theorem cpM_wI (L : Nat → Nat) (M : Mem) (o o' j i : Nat) : wI (cpM L M o o' j i) (o' + j) i (M.1 (o + j) i) = cpM L M o o' j (i + 1) := by
  refine Prod.ext (funext fun n => funext fun k => ?_) rfl
  show (if _ then _ else (if _ then _ else _)) = (if _ then _ else _)
  by_cases h1 : n = o' + j ∧ k = i
  · obtain ⟨rfl, rfl⟩ := h1
    rw [if_pos ⟨rfl, rfl⟩, if_pos (by omega), show o' + j - o' = j by omega]
  · rw [if_neg h1]
    by_cases h2 : o' ≤ n ∧ (n < o' + j ∧ k < L (n - o') ∨ n = o' + j ∧ k < i)
    · rw [if_pos h2, if_pos (by omega)]
    · rw [if_neg h2, if_neg (by omega)]
theorem cpM_wC {L : Nat → Nat} {M : Mem} {o o' j N : Nat} (hd : o + N ≤ o' ∨ o' + N ≤ o) (hj : j < N) : wC (cpM L M o o' j 0) (o + j) (o' + j) 0 0 (L j) = cpM L M o o' (j + 1) 0 := by
  rw [← cpM_nx]
  refine Prod.ext (funext fun n => funext fun k => ?_) rfl
  show (if _ then va_cpy _ _ _ _ _ _ else _) = _
  by_cases h1 : n = o' + j
  · subst h1
    rw [if_pos rfl]
    by_cases h2 : k < L j
    · rw [pk_cpy_in (by omega) (by omega), cpM_src hd (Or.inl hj) hj, Nat.zero_add, Nat.sub_zero]
      show _ = (if _ then _ else _)
      rw [if_pos (by omega), show o' + j - o' = j by omega]
    · rw [pk_cpy_out (by omega), cpM_out (by omega)]
      show _ = (if _ then _ else _)
      rw [if_neg (by omega)]
  · rw [if_neg h1]
    show (if _ then _ else _) = (if _ then _ else _)
    by_cases h2 : o' ≤ n ∧ n < o' + j ∧ k < L (n - o')
    · rw [if_pos (by omega), if_pos (by omega)]
    · rw [if_neg (by omega), if_neg (by omega)]
theorem cp_at {M : Mem} {t n0 n1 L : Nat} (h0 : shp M n0 = some (.inr (t, L))) (h1 : shp M n1 = some (.inr (t, L))) (hL : 0 < L) (hL2 : L < 2 ^ 31) (hf : ∀ i, i < L → fits (aty.getD t .int) (.int (M.1 n0 i)) = true) : cpA M t n0 0 n1 0 (nI L) = some (wC M n0 n1 0 0 L) := by
  have e : (nI L).toNatClampNeg = L := nI_clamp hL2
  have z : (0 : Int32).toNatClampNeg = 0 := rfl
  unfold cpA
  rw [aln_at h0, aln_at h1, e, z, if_pos]
  exact ⟨⟨by decide, by decide, nI_pos hL2⟩, ⟨hL, hL⟩, by omega, by omega, fun i hi => by rw [Nat.zero_add]; exact hf i hi⟩
def ofL : List Nat := [8, 26, 47, 94, 135, 153, 177, 195, 219, 237]
def dyL : List Nat := [19, 37, 58, 146, 164, 188, 206, 230, 248]
def lgL : List Nat := [22, 40, 61, 149, 167, 191, 209, 233, 251]
def LO (j : Nat) : Nat := if j = 0 then 5 else if j < 6 then 8 else if j < 9 then 10 else if j = 9 then 8 else 64
def LD (j : Nat) : Nat := if j = 0 then 1 else 40
def LL (j : Nat) : Nat := if j = 0 then 1 else 8
theorem LO_ok (j : Nat) : 0 < LO j ∧ LO j < 2 ^ 31 := by unfold LO; (repeat' split) <;> omega
theorem ofL_ok : ∀ o ∈ ofL, (0 < o ∧ SH[o - 1]? = some (.inl 5)) ∧ (∀ j, j < 10 → (o, 5 + j, o + 1 + j) ∈ refTab) ∧ ∀ j, j < 10 → SH[o + 1 + j - 1]? = some (.inr (0, LO (1 + j))) := by decide +kernel
theorem dyL_ok : ∀ o ∈ dyL, (0 < o ∧ SH[o - 1]? = some (.inl 1)) ∧ (∀ j, j < 2 → (o, 1 + j, o + 1 + j) ∈ refTab) ∧ ∀ j, j < 2 → SH[o + 1 + j - 1]? = some (.inr (0, LD (1 + j))) := by decide +kernel
theorem lgL_ok : ∀ o ∈ lgL, (0 < o ∧ SH[o - 1]? = some (.inl 4)) ∧ (∀ j, j < 3 → (o, 1 + j, o + 1 + j) ∈ refTab) ∧ ∀ j, j < 3 → SH[o + 1 + j - 1]? = some (.inr (0, LL (1 + j))) := by decide +kernel
theorem cp_o {M : Mem} (hS : Sk M) {o o' : Nat} (ho : o ∈ ofL) (ho' : o' ∈ ofL) (hd : o + 11 ≤ o' ∨ o' + 11 ≤ o) : f_X5_copyFrom M o' o = some (cpM LO M o o' 11 0) := by
  obtain ⟨⟨u0, u1⟩, u2, u3⟩ := ofL_ok o ho
  obtain ⟨⟨w0, w1⟩, w2, w3⟩ := ofL_ok o' ho'
  have sk : ∀ j i, Sk (cpM LO M o o' j i) := fun _ _ => hS
  have g : ∀ i, i < 5 → ∀ k, gI (cpM LO M o o' 0 k) 5 o i = some (M.1 o i) := fun i hi k => by
    rw [gI_at (sk_shp (sk 0 k) u0 u1)]
    exact congrArg some (cpM_src (N := 11) (q := 0) hd (Or.inl (by omega)) (by omega) i)
  have p : ∀ i, pI (cpM LO M o o' 0 i) 5 o' i (M.1 o i) = some (cpM LO M o o' 0 (i + 1)) := fun i => by
    rw [pI_at (sk_shp (sk 0 i) w0 w1)]
    exact congrArg some (cpM_wI LO M o o' 0 i)
  have r : ∀ j, j < 10 → ∀ k, gR (cpM LO M o o' k 0) 5 o (5 + j) = some (o + 1 + j) := fun j hj k => by rw [gR_at (sk_shp (sk k 0) u0 u1), (sk k 0).2 _ (u2 j hj)]
  have r' : ∀ j, j < 10 → ∀ k, gR (cpM LO M o o' k 0) 5 o' (5 + j) = some (o' + 1 + j) := fun j hj k => by rw [gR_at (sk_shp (sk k 0) w0 w1), (sk k 0).2 _ (w2 j hj)]
  have c : ∀ j, j < 10 → cpA (cpM LO M o o' (1 + j) 0) 0 (o + 1 + j) 0 (o' + 1 + j) 0 (nI (LO (1 + j))) = some (cpM LO M o o' (1 + j + 1) 0) := fun j hj => by
    have hL := LO_ok (1 + j)
    rw [cp_at (sk_shp (sk _ _) (by omega) (u3 j hj)) (sk_shp (sk _ _) (by omega) (w3 j hj)) hL.1 hL.2 (fun _ _ => rfl), Nat.add_assoc o, Nat.add_assoc o', cpM_wC (N := 11) hd (by omega)]
  have p0 := p 0
  rw [cpM_0] at p0
  have g0 := g 0 (by omega) 0
  rw [cpM_0] at g0
  have n0 : cpM LO M o o' 0 (4 + 1) = cpM LO M o o' 1 0 := cpM_nx LO M o o' 0
  have p4 := p 4
  rw [n0] at p4
  have c0 : cpA (cpM LO M o o' 1 0) 0 (o + 1) 0 (o' + 1) 0 8 = some (cpM LO M o o' 2 0) := c 0 (by omega)
  have c1 : cpA (cpM LO M o o' 2 0) 0 (o + 1 + 1) 0 (o' + 1 + 1) 0 8 = some (cpM LO M o o' 3 0) := c 1 (by omega)
  have c2 : cpA (cpM LO M o o' 3 0) 0 (o + 1 + 2) 0 (o' + 1 + 2) 0 8 = some (cpM LO M o o' 4 0) := c 2 (by omega)
  have c3 : cpA (cpM LO M o o' 4 0) 0 (o + 1 + 3) 0 (o' + 1 + 3) 0 8 = some (cpM LO M o o' 5 0) := c 3 (by omega)
  have c4 : cpA (cpM LO M o o' 5 0) 0 (o + 1 + 4) 0 (o' + 1 + 4) 0 8 = some (cpM LO M o o' 6 0) := c 4 (by omega)
  have c5 : cpA (cpM LO M o o' 6 0) 0 (o + 1 + 5) 0 (o' + 1 + 5) 0 10 = some (cpM LO M o o' 7 0) := c 5 (by omega)
  have c6 : cpA (cpM LO M o o' 7 0) 0 (o + 1 + 6) 0 (o' + 1 + 6) 0 10 = some (cpM LO M o o' 8 0) := c 6 (by omega)
  have c7 : cpA (cpM LO M o o' 8 0) 0 (o + 1 + 7) 0 (o' + 1 + 7) 0 10 = some (cpM LO M o o' 9 0) := c 7 (by omega)
  have c8 : cpA (cpM LO M o o' 9 0) 0 (o + 1 + 8) 0 (o' + 1 + 8) 0 8 = some (cpM LO M o o' 10 0) := c 8 (by omega)
  have c9 : cpA (cpM LO M o o' 10 0) 0 (o + 1 + 9) 0 (o' + 1 + 9) 0 64 = some (cpM LO M o o' 11 0) := c 9 (by omega)
  have r0 := r 0 (by omega)
  have r1 := r 1 (by omega)
  have r2 := r 2 (by omega)
  have r3 := r 3 (by omega)
  have r4 := r 4 (by omega)
  have r5 := r 5 (by omega)
  have r6 := r 6 (by omega)
  have r7 := r 7 (by omega)
  have r8 := r 8 (by omega)
  have r9 := r 9 (by omega)
  have q0 := r' 0 (by omega)
  have q1 := r' 1 (by omega)
  have q2 := r' 2 (by omega)
  have q3 := r' 3 (by omega)
  have q4 := r' 4 (by omega)
  have q5 := r' 5 (by omega)
  have q6 := r' 6 (by omega)
  have q7 := r' 7 (by omega)
  have q8 := r' 8 (by omega)
  have q9 := r' 9 (by omega)
  simp only [Nat.reduceAdd, Nat.add_zero] at p0 p4 r0 r1 r2 r3 r4 r5 r6 r7 r8 r9 q0 q1 q2 q3 q4 q5 q6 q7 q8 q9
  simp only [f_X5_copyFrom, g0, bb_some, p0, g 1 (by omega) 1, p 1, g 2 (by omega) 2, p 2, g 3 (by omega) 3, p 3, g 4 (by omega) 4, p4, Nat.reduceAdd, r0, r1, r2, r3, r4, r5, r6, r7, r8, r9, q0, q1, q2, q3, q4, q5, q6, q7, q8, q9, c0, c1, c2, c3, c4, c5, c6, c7, c8, c9]
theorem cp_d {M : Mem} (hS : Sk M) {o o' : Nat} (ho : o ∈ dyL) (ho' : o' ∈ dyL) (hd : o + 3 ≤ o' ∨ o' + 3 ≤ o) : f_X1_copyFrom M o' o = some (cpM LD M o o' 3 0) := by
  obtain ⟨⟨u0, u1⟩, u2, u3⟩ := dyL_ok o ho
  obtain ⟨⟨w0, w1⟩, w2, w3⟩ := dyL_ok o' ho'
  have sk : ∀ j i, Sk (cpM LD M o o' j i) := fun _ _ => hS
  have p0 : pI M 1 o' 0 (M.1 o 0) = some (cpM LD M o o' 1 0) := by
    rw [pI_at (sk_shp hS w0 w1)]
    have := cpM_wI LD M o o' 0 0
    rw [cpM_0] at this
    exact congrArg some (this.trans (cpM_nx LD M o o' 0))
  have r : ∀ j, j < 2 → ∀ k, gR (cpM LD M o o' k 0) 1 o (1 + j) = some (o + 1 + j) := fun j hj k => by rw [gR_at (sk_shp (sk k 0) u0 u1), (sk k 0).2 _ (u2 j hj)]
  have r' : ∀ j, j < 2 → ∀ k, gR (cpM LD M o o' k 0) 1 o' (1 + j) = some (o' + 1 + j) := fun j hj k => by rw [gR_at (sk_shp (sk k 0) w0 w1), (sk k 0).2 _ (w2 j hj)]
  have c : ∀ j, j < 2 → cpA (cpM LD M o o' (1 + j) 0) 0 (o + 1 + j) 0 (o' + 1 + j) 0 (nI (LD (1 + j))) = some (cpM LD M o o' (1 + j + 1) 0) := fun j hj => by
    have hL : 0 < LD (1 + j) ∧ LD (1 + j) < 2 ^ 31 := by unfold LD; rw [if_neg (by omega)]; omega
    rw [cp_at (sk_shp (sk _ _) (by omega) (u3 j hj)) (sk_shp (sk _ _) (by omega) (w3 j hj)) hL.1 hL.2 (fun _ _ => rfl), Nat.add_assoc o, Nat.add_assoc o', cpM_wC (N := 3) hd (by omega)]
  have c0 : cpA (cpM LD M o o' 1 0) 0 (o + 1) 0 (o' + 1) 0 40 = some (cpM LD M o o' 2 0) := c 0 (by omega)
  have c1 : cpA (cpM LD M o o' 2 0) 0 (o + 1 + 1) 0 (o' + 1 + 1) 0 40 = some (cpM LD M o o' 3 0) := c 1 (by omega)
  have r0 := r 0 (by omega)
  have r1 := r 1 (by omega)
  have q0 := r' 0 (by omega)
  have q1 := r' 1 (by omega)
  simp only [Nat.reduceAdd, Nat.add_zero] at r0 r1 q0 q1
  simp only [f_X1_copyFrom, gI_at (sk_shp hS u0 u1), bb_some, p0, Nat.reduceAdd, r0, r1, q0, q1, c0, c1]
theorem cp_l {M : Mem} (hS : Sk M) {o o' : Nat} (ho : o ∈ lgL) (ho' : o' ∈ lgL) (hd : o + 4 ≤ o' ∨ o' + 4 ≤ o) : f_X4_copyFrom M o' o = some (cpM LL M o o' 4 0) := by
  obtain ⟨⟨u0, u1⟩, u2, u3⟩ := lgL_ok o ho
  obtain ⟨⟨w0, w1⟩, w2, w3⟩ := lgL_ok o' ho'
  have sk : ∀ j i, Sk (cpM LL M o o' j i) := fun _ _ => hS
  have p0 : pI M 4 o' 0 (M.1 o 0) = some (cpM LL M o o' 1 0) := by
    rw [pI_at (sk_shp hS w0 w1)]
    have := cpM_wI LL M o o' 0 0
    rw [cpM_0] at this
    exact congrArg some (this.trans (cpM_nx LL M o o' 0))
  have r : ∀ j, j < 3 → ∀ k, gR (cpM LL M o o' k 0) 4 o (1 + j) = some (o + 1 + j) := fun j hj k => by rw [gR_at (sk_shp (sk k 0) u0 u1), (sk k 0).2 _ (u2 j hj)]
  have r' : ∀ j, j < 3 → ∀ k, gR (cpM LL M o o' k 0) 4 o' (1 + j) = some (o' + 1 + j) := fun j hj k => by rw [gR_at (sk_shp (sk k 0) w0 w1), (sk k 0).2 _ (w2 j hj)]
  have c : ∀ j, j < 3 → cpA (cpM LL M o o' (1 + j) 0) 0 (o + 1 + j) 0 (o' + 1 + j) 0 (nI (LL (1 + j))) = some (cpM LL M o o' (1 + j + 1) 0) := fun j hj => by
    have hL : 0 < LL (1 + j) ∧ LL (1 + j) < 2 ^ 31 := by unfold LL; rw [if_neg (by omega)]; omega
    rw [cp_at (sk_shp (sk _ _) (by omega) (u3 j hj)) (sk_shp (sk _ _) (by omega) (w3 j hj)) hL.1 hL.2 (fun _ _ => rfl), Nat.add_assoc o, Nat.add_assoc o', cpM_wC (N := 4) hd (by omega)]
  have c0 : cpA (cpM LL M o o' 1 0) 0 (o + 1) 0 (o' + 1) 0 8 = some (cpM LL M o o' 2 0) := c 0 (by omega)
  have c1 : cpA (cpM LL M o o' 2 0) 0 (o + 1 + 1) 0 (o' + 1 + 1) 0 8 = some (cpM LL M o o' 3 0) := c 1 (by omega)
  have c2 : cpA (cpM LL M o o' 3 0) 0 (o + 1 + 2) 0 (o' + 1 + 2) 0 8 = some (cpM LL M o o' 4 0) := c 2 (by omega)
  have r0 := r 0 (by omega)
  have r1 := r 1 (by omega)
  have r2 := r 2 (by omega)
  have q0 := r' 0 (by omega)
  have q1 := r' 1 (by omega)
  have q2 := r' 2 (by omega)
  simp only [Nat.reduceAdd, Nat.add_zero] at r0 r1 r2 q0 q1 q2
  simp only [f_X4_copyFrom, gI_at (sk_shp hS u0 u1), bb_some, p0, Nat.reduceAdd, r0, r1, r2, q0, q1, q2, c0, c1, c2]
