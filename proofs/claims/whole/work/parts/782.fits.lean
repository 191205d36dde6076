/-! who is deaf: fits, blame -/
theorem cb_mon (p : Nat → Bool) : ∀ d x, cb p x ≤ cb p (x + d) := by
  intro d
  induction d with
  | zero => intro x; exact Nat.le_refl _
  | succ d ih =>
    intro x
    have h := ih x
    rw [show x + (d + 1) = (x + d) + 1 by omega, cb_st]
    split <;> omega
theorem cb_mo (p : Nat → Bool) {x y : Nat} (h : x ≤ y) : cb p x ≤ cb p y := by
  have := cb_mon p (y - x) x
  rwa [show x + (y - x) = y by omega] at this
def ff {α : Type} (p : Nat → Bool) (g : Nat → α → α) (n : Nat) (v : α) : α := fo (fun x v => if p x = true then g x v else v) n v
theorem ff_st {α : Type} (p : Nat → Bool) (g : Nat → α → α) (n : Nat) (v : α) : ff p g (n + 1) v = if p n = true then g n (ff p g n v) else ff p g n v := rfl
theorem ff_nx {α : Type} (p : Nat → Bool) (g : Nat → α → α) (v : α) : ∀ d x, cb p x < cb p (x + d) → ∃ y, x ≤ y ∧ y < x + d ∧ p y = true ∧ cb p y = cb p x ∧ ff p g y v = ff p g x v := by
  intro d
  induction d with
  | zero => intro x h; exact absurd h (by rw [Nat.add_zero]; omega)
  | succ d ih =>
    intro x h
    by_cases hp : p x = true
    · exact ⟨x, Nat.le_refl _, by omega, hp, rfl, rfl⟩
    · have e1 : cb p (x + 1) = cb p x := by rw [cb_st, if_neg hp]
      have e2 : ff p g (x + 1) v = ff p g x v := by rw [ff_st, if_neg hp]
      obtain ⟨y, h1, h2, h3, h4, h5⟩ := ih (x + 1) (by rw [e1, show x + 1 + d = x + (d + 1) by omega]; exact h)
      exact ⟨y, by omega, by omega, h3, by rw [h4, e1], by rw [h5, e2]⟩
theorem ff_en {α : Type} (p : Nat → Bool) (g : Nat → α → α) (v : α) : ∀ d x, cb p x = cb p (x + d) → ff p g (x + d) v = ff p g x v := by
  intro d
  induction d with
  | zero => intro x _; rfl
  | succ d ih =>
    intro x h
    have m1 := cb_mon p d x
    rw [show x + (d + 1) = (x + d) + 1 by omega] at h ⊢
    rw [cb_st] at h
    by_cases hp : p (x + d) = true
    · rw [if_pos hp] at h; omega
    · rw [if_neg hp] at h
      rw [ff_st, if_neg hp]
      exact ih x h
theorem iter_row {σ ρ α : Type} {f : σ → Option (σ ⊕ ρ)} (p : Nat → Bool) (N : Nat) (g : Nat → α → α) (St : Nat → α → σ → Prop) (Out : α → ρ → Prop) (a0 : α) (hN : N < 1048576)
    (hs : ∀ x v s, x < N → p x = true → cb p x < cb p N → St (cb p x) v s → ∃ s', f s = some (.inl s') ∧ St (cb p x + 1) (g x v) s')
    (hx : ∀ v s, St (cb p N) v s → ∃ r, f s = some (.inr r) ∧ Out v r) (s : σ) (h0 : St 0 a0 s) : ∃ r, iter f 1048576 s = some r ∧ Out (ff p g N a0) r := by
  refine iter_rel (f := f) (cb p N) (fun j s => ∃ x, x ≤ N ∧ cb p x = j ∧ St j (ff p g x a0) s) (fun r => Out (ff p g N a0) r) (fun j s hj ⟨x, hxN, hc, hS⟩ => ?_) (fun s ⟨x, hxN, hc, hS⟩ => ?_) 1048576 0 s (Nat.zero_le _) ⟨0, Nat.zero_le _, rfl, h0⟩ (by have := cb_le p N; omega)
  · obtain ⟨y, h1, h2, h3, h4, h5⟩ := ff_nx p g a0 (N - x) x (by rw [show x + (N - x) = N by omega, hc]; exact hj)
    rw [hc] at h4
    subst h4
    obtain ⟨s', e1, e2⟩ := hs y (ff p g x a0) s (by omega) h3 hj hS
    refine Or.inl ⟨s', e1, y + 1, by omega, by rw [cb_st, if_pos h3], ?_⟩
    rw [ff_st, if_pos h3, h5]
    exact e2
  · have e := ff_en p g a0 (N - x) x (by rw [show x + (N - x) = N by omega, hc])
    rw [show x + (N - x) = N by omega] at e
    rw [e]
    exact hx _ s hS
/-- an office in which just these are deaf -/
def dfa (a : Nat → Nat) (m : Nat) : Nat → Nat := fun i => if 5 ≤ i ∧ i < 45 ∧ i % 5 = 0 then (if m.testBit ((i - 5) / 5) = true then 2 else 0) else a i
theorem dfa_k (a : Nat → Nat) (m : Nat) {s : Nat} (hs : s < 8) : dfa a m (5 + 5 * s) = if m.testBit s = true then 2 else 0 := by
  unfold dfa
  rw [if_pos (by omega), show (5 + 5 * s - 5) / 5 = s by omega]
theorem dfa_o (a : Nat → Nat) (m : Nat) {i : Nat} (h : i < 5 ∨ 45 ≤ i ∨ i % 5 ≠ 0) : dfa a m i = a i := by
  unfold dfa
  rw [if_neg (by omega)]
section
variable (a : Nat → Nat) (m : Nat)
theorem df_0 : dfa a m 0 = a 0 := dfa_o a m (by omega)
theorem df_1 : dfa a m 1 = a 1 := dfa_o a m (by omega)
theorem df_2 : dfa a m 2 = a 2 := dfa_o a m (by omega)
theorem df_gp : gp (dfa a m) = gp a := by
  funext s d
  unfold gp
  rw [dfa_o a m (show 6 + 5 * d < 5 ∨ 45 ≤ 6 + 5 * d ∨ (6 + 5 * d) % 5 ≠ 0 by omega), dfa_o a m (show 6 + 5 * s < 5 ∨ 45 ≤ 6 + 5 * s ∨ (6 + 5 * s) % 5 ≠ 0 by omega)]
theorem df_hr : hr (dfa a m) = hr a := by
  funext s d
  unfold hr
  rw [df_gp, df_2]
theorem df_hb : hb (dfa a m) = hb a := by
  funext d
  unfold hb
  rw [df_hr, df_0]
theorem df_rg : rg (dfa a m) = rg a := by
  funext kd h d x s
  unfold rg near
  rw [df_gp, df_hr, df_0, dfa_o a m (show 7 + 5 * s < 5 ∨ 45 ≤ 7 + 5 * s ∨ (7 + 5 * s) % 5 ≠ 0 by omega)]
theorem df_ofr : ofr (dfa a m) = ofr a := by
  funext d s r l
  cases l with
  | none => rfl
  | some l => obtain ⟨w, q, t⟩ := l; simp only [ofr, df_gp]
theorem df_lft : lft (dfa a m) = lft a := by
  funext kd h d x
  unfold lft
  have e : lst (dfa a m) kd h d x = lst a kd h d x := by
    funext s l
    unfold lst
    rw [df_hr, df_ofr, df_rg]
  rw [e, df_0]
theorem df_ok (hO : OkO a) : OkO (dfa a m) := by
  obtain ⟨h1, h2, h3⟩ := hO
  refine ⟨?_, fun d hd => ?_, fun c hc => ?_⟩
  · rw [df_0, df_1, df_2, dfa_o a m (i := 3) (by omega), dfa_o a m (i := 4) (by omega)]; exact h1
  · rw [df_0] at hd
    obtain ⟨g1, g2⟩ := h2 d hd
    rw [dfa_k a m (by omega), dfa_o a m (show 6 + 5 * d < 5 ∨ 45 ≤ 6 + 5 * d ∨ (6 + 5 * d) % 5 ≠ 0 by omega), dfa_o a m (show 7 + 5 * d < 5 ∨ 45 ≤ 7 + 5 * d ∨ (7 + 5 * d) % 5 ≠ 0 by omega), dfa_o a m (show 8 + 5 * d < 5 ∨ 45 ≤ 8 + 5 * d ∨ (8 + 5 * d) % 5 ≠ 0 by omega), dfa_o a m (show 9 + 5 * d < 5 ∨ 45 ≤ 9 + 5 * d ∨ (9 + 5 * d) % 5 ≠ 0 by omega)]
    exact ⟨by split <;> omega, g2⟩
  · rw [df_1] at hc
    rw [dfa_o a m (show 45 + 3 * c < 5 ∨ 45 ≤ 45 + 3 * c ∨ (45 + 3 * c) % 5 ≠ 0 by omega), dfa_o a m (show 46 + 3 * c < 5 ∨ 45 ≤ 46 + 3 * c ∨ (46 + 3 * c) % 5 ≠ 0 by omega), dfa_o a m (show 47 + 3 * c < 5 ∨ 45 ≤ 47 + 3 * c ∨ (47 + 3 * c) % 5 ≠ 0 by omega), df_0]
    exact h3 c hc
end
def LF (a : Nat → Nat) (m d : Nat) : Option (Nat × Nat × Nat) := lft a (kdO (dfa a m)) (fun _ => 0) d (clr (2 ^ a 0 - 1) d)
theorem LF_ok {a : Nat → Nat} {m d : Nat} (hO : OkO a) (hd : d < a 0) : LOk (a 0) (LF a m d) := lok_lft hO hd (fun _ _ => by omega)
/-- the guess, but for its kinds -/
def GX (M : Mem) (a : Nat → Nat) : Prop := Sk M ∧ ∃ a', (∀ i, i < 5 ∨ 45 ≤ i ∨ i % 5 ≠ 0 → a' i = a i) ∧ OC M 94 a'
theorem co_gx {M : Mem} {a : Nat → Nat} {m : Nat} (h : CO M 94 (dfa a m)) : GX M a := ⟨h.1, dfa a m, fun i hi => dfa_o a m hi, h.2.2⟩
theorem su_sh {M : Mem} (hS : Sk M) : shp M 92 = some (.inl 8) ∧ shp M 93 = some (.inr (0, 256)) ∧ shp M 94 = some (.inl 5) ∧ shp M 95 = some (.inr (0, 8)) ∧ shp M 106 = some (.inr (0, 9)) := ⟨sk_shp hS (by omega) rfl, sk_shp hS (by omega) rfl, sk_shp hS (by omega) rfl, sk_shp hS (by omega) rfl, sk_shp hS (by omega) rfl⟩
theorem su_r1 {M : Mem} (hS : Sk M) : gR M 8 92 1 = some 93 := by rw [gR_at (su_sh hS).1, hS.2 (92, 1, 93) (by decide)]
theorem su_r2 {M : Mem} (hS : Sk M) : gR M 8 92 2 = some 94 := by rw [gR_at (su_sh hS).1, hS.2 (92, 2, 94) (by decide)]
theorem su_r3 {M : Mem} (hS : Sk M) : gR M 8 92 3 = some 105 := by rw [gR_at (su_sh hS).1, hS.2 (92, 3, 105) (by decide)]
theorem su_r4 {M : Mem} (hS : Sk M) : gR M 8 92 4 = some 106 := by rw [gR_at (su_sh hS).1, hS.2 (92, 4, 106) (by decide)]
theorem su_ob {M : Mem} (hS : Sk M) : ob M 8 92 = some () := ob_at (su_sh hS).1
theorem gu_r5 {M : Mem} (hS : Sk M) : gR M 5 94 5 = some 95 := by rw [gR_at (su_sh hS).2.2.1, hS.2 (94, 5, 95) (by decide)]
def S95 : Nat → Nat → Prop := fun q _ => q = 95
theorem c_sup {M : Mem} {a : Nat → Nat} {m : Nat} (hG : GX M a) (hO : OkO a) (hm : m < 2 ^ 31) : ∃ M', f_X8_suppose M 92 (nI m) = some M' ∧ CO M' 94 (dfa a m) ∧ Fr S95 M M' := by
  have h8 := hO.1.1
  obtain ⟨hS, a', ha, hC⟩ := hG
  have a0 : a' 0 = a 0 := ha 0 (by omega)
  have a1 : a' 1 = a 1 := ha 1 (by omega)
  obtain ⟨B, eB, hB, fB⟩ := iter_rel (f := fun s : Int32 × Mem => f_X8_suppose_B2 s.2 92 (nI m) s.1) (a 0) (fun i s => s.1 = nI i ∧ (∀ j, j < i → s.2.1 95 j = nI (if m.testBit j = true then 2 else 0)) ∧ Fr S95 M s.2) (fun r => (∀ j, j < a 0 → r.1 95 j = nI (if m.testBit j = true then 2 else 0)) ∧ Fr S95 M r) (fun i s hi ⟨hs1, hs3, hs4⟩ => by
    obtain ⟨s1, s2⟩ := s
    have hs1 : s1 = nI i := hs1
    subst hs1
    have hs3 : ∀ j, j < i → s2.1 95 j = nI (if m.testBit j = true then 2 else 0) := hs3
    have hs4 : Fr S95 M s2 := hs4
    have hS2 := fr_sk hs4 hS
    have g0 : gI s2 5 94 0 = some (nI (a 0)) := by rw [gI_at (su_sh hS2).2.2.1, hs4.2 94 0 (by unfold S95; omega), hC.1 0 (by omega), a0]
    have hb := bit_0 (m := m) (s := i) hm (by omega)
    refine Or.inl ⟨(nI (i + 1), wI s2 95 i (nI (if m.testBit i = true then 2 else 0))), ?_, rfl, fun j hj => ?_, fr_put hs4 rfl⟩
    · show f_X8_suppose_B2 s2 92 (nI m) (nI i) = _
      unfold f_X8_suppose_B2 f_X8_suppose_J34
      rw [su_r2 hS2, bb_some, g0, bb_some, if_neg (nI_ge hi (by omega)), bb_some, gu_r5 hS2, bb_some, nI_1]
      by_cases h : m.testBit i = true
      · rw [if_neg (fun hh => by rw [hb.mp hh] at h; cases h), if_pos h, sI_at (su_sh hS2).2.2.2.1 (by omega) (by omega), nar0, bb_some]; rfl
      · rw [if_pos (hb.mpr (by simpa using h)), if_neg h, sI_at (su_sh hS2).2.2.2.1 (by omega) (by omega), nar0, bb_some]; rfl
    · show (wI s2 95 i _).1 95 j = _
      rw [wI_rd]
      by_cases e : j = i
      · subst e; rw [if_pos ⟨rfl, rfl⟩]
      · rw [if_neg (by omega)]; exact hs3 j (by omega)) (fun s ⟨hs1, hs3, hs4⟩ => by
    obtain ⟨s1, s2⟩ := s
    have hs1 : s1 = nI (a 0) := hs1
    subst hs1
    have hs4 : Fr S95 M s2 := hs4
    have hS2 := fr_sk hs4 hS
    have g0 : gI s2 5 94 0 = some (nI (a 0)) := by rw [gI_at (su_sh hS2).2.2.1, hs4.2 94 0 (by unfold S95; omega), hC.1 0 (by omega), a0]
    exact ⟨s2, by simp [f_X8_suppose_B2, su_r2 hS2, g0], hs3, hs4⟩) 1048576 0 (0, M) (by omega) ⟨rfl, fun j hj => absurd hj (by omega), fr_refl⟩ (by omega)
  have eB : f_X8_suppose_L2 M 92 (nI m) 0 = some B := eB
  obtain ⟨c1, c2, c3, c4, c5⟩ := hC
  have fb : ∀ n k, n ≠ 95 → B.1 n k = M.1 n k := fun n k h => fB.2 n k h
  have gpe : ∀ s d, gp a' s d = gp a s d := fun s d => by unfold gp; rw [ha _ (show 6 + 5 * d < 5 ∨ 45 ≤ 6 + 5 * d ∨ (6 + 5 * d) % 5 ≠ 0 by omega), ha _ (show 6 + 5 * s < 5 ∨ 45 ≤ 6 + 5 * s ∨ (6 + 5 * s) % 5 ≠ 0 by omega)]
  have hre : ∀ s d, hr a' s d = hr a s d := fun s d => by unfold hr; rw [gpe, ha 2 (by omega)]
  have hbe : ∀ d, hb a' d = hb a d := fun d => by
    unfold hb
    rw [a0, show hr a' = hr a from funext fun s => funext fun d => hre s d]
  refine ⟨B, by rw [f_X8_suppose, eB, bb_some], ⟨fr_sk fB hS, by omega, fun i hi => ?_, fun d hd j hj => ?_, fun c hc j hj => ?_, fun d hd => ?_, fun d hd s hs => ?_⟩, fB⟩
  · rw [fb _ _ (by omega), c1 i hi, dfa_o a m (by omega), ha i (by omega)]
  · rw [df_0] at hd
    by_cases hj0 : j = 0
    · subst hj0
      rw [show 94 + 1 + 0 = 95 from rfl, Nat.add_zero, dfa_k a m (by omega)]
      exact hB d hd
    · rw [fb _ _ (by omega), c2 d (by omega) j hj, dfa_o a m (by omega), ha _ (by omega)]
  · rw [df_1] at hc
    rw [fb _ _ (by omega), c3 c (by omega) j hj, dfa_o a m (by omega), ha _ (by omega)]
  · rw [df_0] at hd
    rw [fb _ _ (by omega), c4 d (by omega), df_hb, hbe]
  · rw [df_0] at hd hs
    rw [fb _ _ (by omega), c5 d (by omega) s (by omega), df_gp, gpe]
/-- what a log says -/
def dd (b : Nat → Int32) (k : Nat) : Nat := (b (2 + 4 * k)).toNatClampNeg
def aok (a : Nat → Nat) (b : Nat → Int32) (m k : Nat) : Bool := match LF a m (dd b k) with
  | none => decide (b (3 + 4 * k) = -1)
  | some (w, r, _) => decide (b (3 + 4 * k) = nI w ∧ b (4 + 4 * k) = nI r)
def agr (a : Nat → Nat) (b : Nat → Int32) (n m : Nat) : Bool := decide (∀ k, k < n → aok a b m k = true)
def LTh (a : Nat → Nat) (b : Nat → Int32) (n : Nat) : Prop := ∀ k, k < n → dd b k < a 0 ∧ (b (3 + 4 * k) = -1 ∨ ∃ w, w < a 0 ∧ b (3 + 4 * k) = nI w)
def OL (b : Nat → Int32) (n : Nat) : Prop := n ≤ 8 ∧ b 0 = nI n ∧ ∀ k, k < n → (dd b k ≤ 7 ∧ b (2 + 4 * k) = nI (dd b k)) ∧ ((b (1 + 4 * k) = 0 ∧ b (3 + 4 * k) = -1 ∧ b (4 + 4 * k) = -1) ∨ (b (1 + 4 * k) = 1 ∧ ∃ w r, w ≤ 7 ∧ 1 ≤ r ∧ r ≤ 12 ∧ b (3 + 4 * k) = nI w ∧ b (4 + 4 * k) = nI r))
theorem ol_of {b : Nat → Int32} (h : OkL b) : ∃ n, OL b n := by
  obtain ⟨n, h1, h2, h3⟩ := h
  refine ⟨n, h1, h2, fun k hk => ?_⟩
  obtain ⟨⟨d, g1, g2⟩, g3⟩ := h3 k hk
  have e : dd b k = d := by unfold dd; rw [g2, nI_clamp (by omega)]
  exact ⟨⟨by omega, by rw [e]; exact g2⟩, g3⟩
theorem cl_fr {S : Nat → Nat → Prop} {M M' : Mem} {o : Nat} {b : Nat → Int32} (h : CL M o b) (hF : Fr S M M') (hS : ∀ n k, S n k → n < o ∨ o + 3 < n) : CL M' o b := by
  have g : ∀ n k, o ≤ n → n ≤ o + 3 → M'.1 n k = M.1 n k := fun n k h1 h2 => hF.2 n k (fun hh => by have := hS n k hh; omega)
  refine ⟨fr_sk hF h.1, h.2.1, by rw [g _ _ (by omega) (by omega)]; exact h.2.2.1, fun k hk hk8 => ?_⟩
  rw [g _ _ (by omega) (by omega), g _ _ (by omega) (by omega), g _ _ (by omega) (by omega)]
  exact h.2.2.2 k hk hk8
theorem ml_fr {S : Nat → Nat → Prop} {M M' : Mem} {b : Nat → Int32} (h : ML M b) (hF : Fr S M M') (hS : ∀ n k, S n k → n ≠ 256 ∧ ¬ (n = 255 ∧ k = 35)) : ML M' b := by
  obtain ⟨h1, p, h2, h3, h4⟩ := h
  exact ⟨fr_sk hF h1, p, h2, by rw [hF.2 255 35 (fun hh => (hS _ _ hh).2 ⟨rfl, rfl⟩)]; exact h3, fun i hi => by rw [hF.2 256 _ (fun hh => (hS _ _ hh).1 rfl)]; exact h4 i hi⟩
theorem LF_m {M : Mem} {o l d m : Nat} {a : Nat → Nat} (hl : l ∈ liL) (hC : CO M o (dfa a m)) (hO : OkO a) (hd : d < a 0) : ∃ M', f_X3_asTold M l o (nI d) (nI (clr (2 ^ a 0 - 1) d)) 1000 = some M' ∧ LC M' l (LF a m d) ∧ Fr (SL l) M M' := by
  have h8 := hO.1.1
  have h := c_told (h := fun _ => 0) (q := 1000) (m := clr (2 ^ a 0 - 1) d) hl hC (df_ok a m hO) (by rw [df_0]; exact hd) (by rw [df_0]; exact clr_lt) (fun _ _ => by omega) (fun M' _ s hs => by rw [df_0] at hs; exact a1000 M' s (by omega))
  rw [df_lft] at h
  exact h
theorem c_agB {M : Mem} {l n k m : Nat} {a : Nat → Nat} {b : Nat → Int32} (hC : CO M 94 (dfa a m)) (hO : OkO a) (hL : CL M l b) (hb : OL b n) (hT : LTh a b n) (hk : k < n) : ∃ M', f_X8_agrees_B2 M 92 l (nI k) = (if aok a b m k = true then some (.inl (nI (k + 1), M')) else some (.inr (.inl M'))) ∧ Fr (SL 105) M M' := by
  obtain ⟨hn, b0, hb⟩ := hb
  obtain ⟨⟨g1, g2⟩, g3⟩ := hb k hk
  obtain ⟨t1, t2⟩ := hT k hk
  have h8 := hO.1.1
  have hS := hC.1
  obtain ⟨r1, r2, r3⟩ := cl_at hL b0 hn hk
  have hli : 105 ∈ liL := by decide
  have hCo := c_others hC (df_ok a m hO) (d := dd b k) (by rw [df_0]; exact t1)
  rw [df_0] at hCo
  obtain ⟨A, eA, lA, fA⟩ := LF_m hli hC hO t1
  have hSA := fr_sk fA hS
  have hLA := cl_fr hL fA (fun q j h => by have := h.1; have := hL.2.1; omega)
  obtain ⟨q1, q2, q3⟩ := cl_at hLA b0 hn hk
  refine ⟨A, ?_, fA⟩
  unfold f_X8_agrees_B2
  rw [cl_g0 hL, bb_some, b0, if_neg (nI_ge hk (by omega)), su_r3 hS, bb_some, su_r2 hS, bb_some, (cl_r hL).1, bb_some, r1, bb_some, bb_some, bb_some, r1, bb_some, g2, ob_at (co_shp hC), bb_some, hCo, bb_some, ob_at (li_shp hS hli), bb_some, eA, bb_some]
  simp only [su_r3 hSA, bb_some, gI_at (li_shp hSA hli), (cl_r hLA).2.1, (cl_r hLA).2.2, q2, q3, nI_1]
  unfold aok
  have lk := LF_ok (m := m) hO t1
  generalize LF a m (dd b k) = L at lA lk
  cases L with
  | none =>
    rw [lA.1]
    by_cases h : b (3 + 4 * k) = -1
    · rw [if_pos h.symm, if_pos rfl, if_pos (decide_eq_true h)]
    · rw [if_neg (fun hh => h hh.symm), if_neg (fun hh => h (of_decide_eq_true hh))]
  | some x =>
    obtain ⟨w, r, t⟩ := x
    rw [lA.1, lA.2.1]
    by_cases h : b (3 + 4 * k) = nI w
    · rw [if_pos h.symm, if_neg (nI_nm1 (by have := lk.1; omega))]
      by_cases h2 : b (4 + 4 * k) = nI r
      · rw [if_pos h2.symm, if_pos (decide_eq_true ⟨h, h2⟩)]
      · rw [if_neg (fun hh => h2 hh.symm), if_neg (fun hh => h2 (of_decide_eq_true (p := b (3 + 4 * k) = nI w ∧ b (4 + 4 * k) = nI r) hh).2)]
    · rw [if_neg (fun hh => h hh.symm), if_neg (fun hh => h (of_decide_eq_true (p := b (3 + 4 * k) = nI w ∧ b (4 + 4 * k) = nI r) hh).1)]
theorem c_agrees {M : Mem} {l n m : Nat} {a : Nat → Nat} {b : Nat → Int32} (hC : CO M 94 (dfa a m)) (hO : OkO a) (hL : CL M l b) (hb : OL b n) (hT : LTh a b n) : ∃ M', f_X8_agrees M 92 l = some (bI (agr a b n m), M') ∧ Fr (SL 105) M M' := by
  have hli : 105 ∈ liL := by decide
  obtain ⟨r, e, hr⟩ := iter_rel (f := fun s : Int32 × Mem => f_X8_agrees_B2 s.2 92 l s.1) n (fun i s => s.1 = nI i ∧ (∀ k, k < i → aok a b m k = true) ∧ Fr (SL 105) M s.2) (fun r => ∃ M', (r = if agr a b n m = true then .inr M' else .inl M') ∧ Fr (SL 105) M M') (fun i s hi ⟨hs1, hs2, hs3⟩ => by
    obtain ⟨s1, s2⟩ := s
    have hs1 : s1 = nI i := hs1
    subst hs1
    have hs3 : Fr (SL 105) M s2 := hs3
    obtain ⟨D, eD, fD⟩ := c_agB (sl_co hli hC hs3) hO (cl_fr hL hs3 (fun q j h => by have := h.1; have := hL.2.1; omega)) hb hT hi
    have fD := fr_trans hs3 fD
    show (∃ s', f_X8_agrees_B2 s2 92 l (nI i) = _ ∧ _) ∨ (∃ r, f_X8_agrees_B2 s2 92 l (nI i) = _ ∧ _)
    rw [eD]
    by_cases h : aok a b m i = true
    · rw [if_pos h]
      refine Or.inl ⟨_, rfl, rfl, fun k hk => ?_, fD⟩
      by_cases e : k = i
      · rw [e]; exact h
      · exact hs2 k (by omega)
    · rw [if_neg h]
      refine Or.inr ⟨_, rfl, D, ?_, fD⟩
      rw [if_neg (by unfold agr; rw [decide_eq_false (fun hh => h (hh i hi))]; decide)]) (fun s ⟨hs1, hs2, hs3⟩ => by
    obtain ⟨s1, s2⟩ := s
    have hs1 : s1 = nI n := hs1
    subst hs1
    have hs3 : Fr (SL 105) M s2 := hs3
    have hL2 := cl_fr hL hs3 (fun q j h => by have := h.1; have := hL.2.1; omega)
    refine ⟨.inr s2, ?_, s2, ?_, hs3⟩
    · show f_X8_agrees_B2 s2 92 l (nI n) = _
      unfold f_X8_agrees_B2
      rw [cl_g0 hL2, bb_some, hb.2.1, if_pos (nI_le (Nat.le_refl _) (by have := hb.1; omega))]
    · rw [if_pos (by unfold agr; exact decide_eq_true hs2)]) 1048576 0 (0, M) (by omega) ⟨rfl, fun k hk => absurd hk (by omega), fr_refl⟩ (by have := hb.1; omega)
  have e : f_X8_agrees_L2 M 92 l 0 = some r := e
  obtain ⟨M', hr, hF⟩ := hr
  refine ⟨M', ?_, hF⟩
  rw [f_X8_agrees, e, bb_some, hr]
  by_cases h : agr a b n m = true
  · rw [if_pos h, h]; rfl
  · rw [if_neg h, show agr a b n m = false by simpa using h]; rfl
