/-! a day, deed by deed: the model -/
def mk (k : Nat) : Nat := if k = 4 then 20 else if k = 0 then 21 else if k = 5 then 22 else if k = 6 then 23 else if k = 1 then 24 else if k = 2 then 25 else 26
theorem mk_r (k : Nat) : 20 ≤ mk k ∧ mk k ≤ 26 := by unfold mk; (repeat' split) <;> omega
theorem mk_inj : ∀ j, j < 8 → j ≠ 3 → ∀ k, k < 8 → k ≠ 3 → mk j = mk k → j = k := by decide
def MF (M : Mem) (a u : Nat → Nat) : Prop := MR M a (kdO a) (fun d => u (10 + d)) ∧ (∀ k, k < 8 → k ≠ 3 → M.1 255 (mk k) = nI (u k)) ∧ ∀ d, d < 8 → M.1 261 d = nI (u (20 + d)) ∧ M.1 262 d = nI (u (30 + d)) ∧ M.1 259 d = nI (u (10 + d))
def SD : Nat → Nat → Prop := fun q k => (q = 255 ∧ (16 ≤ k ∧ k ≤ 18 ∨ 20 ≤ k ∧ k ≤ 26)) ∨ q = 259 ∨ q = 261 ∨ q = 262
theorem sd_q {M M' : Mem} (h : Fr SD M M') : Qf M M' := fr_q h (fun q k hh => by unfold SD at hh; unfold zT; omega)
theorem up_id (u : Nat → Nat) (k : Nat) : up u k (u k) = u := funext fun j => by unfold up; split; rename_i h; rw [h]; rfl
theorem mo_told8 {M : Mem} {a : Nat → Nat} (hM : MO M a) : ∃ M', f_X12_asTold M 255 = some M' ∧ ∀ j, j < 8 → M'.1 259 j = 0 := by
  have hS := hM.1
  obtain ⟨B, eB, lB⟩ := iter_rel (f := fun s : Int32 × Mem => f_X12_asTold_B2 s.2 255 s.1) 8 (fun i s => s.1 = nI i ∧ (∀ j, j < i → s.2.1 259 j = 0) ∧ Fr ST M s.2) (fun r => ∀ j, j < 8 → r.1 259 j = 0) (fun i s hi ⟨hs1, hs2, hs3⟩ => by
    obtain ⟨s1, s2⟩ := s
    have hs1 : s1 = nI i := hs1
    subst hs1
    have hs3 : Fr ST M s2 := hs3
    have hs2 : ∀ j, j < i → s2.1 259 j = 0 := hs2
    have hS2 := fr_sk hs3 hS
    let A := wI s2 259 i 0
    have fA : Fr ST M A := fr_put hs3 (Or.inl rfl)
    have hMA : MO A a := mo_fr hM fA (fun n k h => by unfold ST at h; omega)
    have eA : sI s2 0 259 (nI i) 0 = some A := by rw [sI_at (m_s259 hS2) hi (by omega), nar0]
    have eJ : ∀ v, f_X12_asTold_J38 A 255 (nI i) 260 (nI i) v = some (.inl (nI i + 1, wI A 260 i v)) := fun v => by
      unfold f_X12_asTold_J38
      rw [sI_at (m_s260 hMA.1) hi (by omega), nar0, bb_some]
    have n8 : ¬ 8 ≤ nI i := nI_ge (b := 8) hi (by omega)
    have key : ∀ v, (∀ j, j < i + 1 → (wI A 260 i v).1 259 j = 0) ∧ Fr ST M (wI A 260 i v) := fun v => by
      refine ⟨fun j hj => ?_, fr_put fA (Or.inr rfl)⟩
      rw [wI_rd, if_neg (by omega), wI_rd]
      by_cases e : j = i
      · subst e; rw [if_pos ⟨rfl, rfl⟩]
      · rw [if_neg (by omega)]; exact hs2 j (by omega)
    show (∃ s', f_X12_asTold_B2 s2 255 (nI i) = some (.inl s') ∧ _) ∨ _
    unfold f_X12_asTold_B2
    rw [if_neg n8, m_r14 hS2, bb_some, eA, bb_some, m_r15 hMA.1, bb_some, mo_g12 hMA, bb_some]
    by_cases hia : nI (a 0) ≤ nI i
    · rw [if_pos hia, eJ]
      exact Or.inl ⟨_, rfl, nI_1 i, key _⟩
    · rw [if_neg hia, mo_ob hMA, bb_some, mo_of0 hMA hi, bb_some, eJ]
      exact Or.inl ⟨_, rfl, nI_1 i, key _⟩) (fun s ⟨hs1, hs2, hs3⟩ => by
    obtain ⟨s1, s2⟩ := s
    have hs1 : s1 = nI 8 := hs1
    subst hs1
    exact ⟨s2, by simp [f_X12_asTold_B2, show nI 8 = 8 from rfl], hs2⟩) 1048576 0 (0, M) (by omega) ⟨rfl, fun j hj => absurd hj (by omega), fr_refl⟩ (by omega)
  have eB : f_X12_asTold_L2 M 255 0 = some B := eB
  exact ⟨B, by rw [f_X12_asTold, eB, bb_some], lB⟩
section
variable {M : Mem} {a u : Nat → Nat}
theorem mf_g (h : MF M a u) {k : Nat} (hk : k < 8) (h3 : k ≠ 3) : gI M 12 255 (mk k) = some (nI (u k)) := by rw [gI_at (m_shp h.1.1.1), h.2.1 k hk h3]
theorem mf_s (h : MF M a u) {d : Nat} (hd : d < 8) : aI M 0 261 (nI d) = some (nI (u (20 + d))) := by rw [aI_at (m_s261 h.1.1.1) hd (by omega) (by omega), (h.2.2 d hd).1]
theorem mf_d (h : MF M a u) {d : Nat} (hd : d < 8) : aI M 0 262 (nI d) = some (nI (u (30 + d))) := by rw [aI_at (m_s262 h.1.1.1) hd (by omega) (by omega), (h.2.2 d hd).2.1]
theorem mf_pg (h : MF M a u) {k : Nat} (hk : k < 8) (h3 : k ≠ 3) (v : Nat) : pI M 12 255 (mk k) (nI v) = some (wI M 255 (mk k) (nI v)) ∧ MF (wI M 255 (mk k) (nI v)) a (up u k v) ∧ Fr SD M (wI M 255 (mk k) (nI v)) := by
  have r := mk_r k
  have hF : Fr SD M (wI M 255 (mk k) (nI v)) := fr_wI (Or.inl ⟨rfl, by omega⟩)
  have hF2 : Fr (fun q j => q = 255 ∧ j = mk k) M (wI M 255 (mk k) (nI v)) := fr_wI ⟨rfl, rfl⟩
  refine ⟨pI_at (m_shp h.1.1.1) _ _, ⟨?_, fun j hj h3' => ?_, fun d hd => ?_⟩, hF⟩
  · have := mr_fr h.1 hF2 (fun n k hh => by omega)
    refine ⟨this.1, fun s hs => ?_⟩
    have h8 := this.2 s hs
    dsimp only
    rw [up_n _ _ (by omega)]
    exact h8
  · rw [wI_rd]
    by_cases e : j = k
    · subst e; rw [if_pos ⟨rfl, rfl⟩, up_s]
    · rw [if_neg (fun hh => e (mk_inj j hj h3' k hk h3 hh.2)), up_n _ _ e]; exact h.2.1 j hj h3'
  · rw [wI_rd, if_neg (by omega), wI_rd, if_neg (by omega), wI_rd, if_neg (by omega), up_n _ _ (by omega), up_n _ _ (by omega), up_n _ _ (by omega)]
    exact h.2.2 d hd
theorem mf_h8 (h : MF M a u) {d : Nat} (hd : d < 8) : aI M 0 259 (nI d) = some (nI (u (10 + d))) := by rw [aI_at (m_s259 h.1.1.1) hd (by omega) (by omega), (h.2.2 d hd).2.2]
theorem mf_ph (h : MF M a u) (hO : OkO a) {d : Nat} (hd : d < a 0) {v : Nat} (hv : v < 1000) : sI M 0 259 (nI d) (nI v) = some (wI M 259 d (nI v)) ∧ MF (wI M 259 d (nI v)) a (up u (10 + d) v) ∧ Fr SD M (wI M 259 d (nI v)) := by
  have h8 := hO.1.1
  have hF : Fr SD M (wI M 259 d (nI v)) := fr_wI (Or.inr (Or.inl rfl))
  refine ⟨by rw [sI_at (m_s259 h.1.1.1) (by omega) (by omega), nar0], ⟨⟨mo_fr h.1.1 hF (fun n k hh => by unfold SD at hh; omega), fun s hs => ?_⟩, fun j hj h3' => ?_, fun e he => ?_⟩, hF⟩
  · obtain ⟨⟨k1, k2⟩, k3, k4⟩ := h.1.2 s hs
    dsimp only
    rw [wI_rd, if_neg (by omega), wI_rd]
    by_cases e : s = d
    · subst e
      rw [if_pos ⟨rfl, rfl⟩, up_s]
      exact ⟨⟨k1, rfl⟩, k3, hv⟩
    · rw [if_neg (by omega), up_n _ _ (by omega)]
      exact ⟨⟨k1, k2⟩, k3, k4⟩
  · have r := mk_r j
    rw [wI_rd, if_neg (by omega), up_n _ _ (by omega)]; exact h.2.1 j hj h3'
  · rw [wI_rd, if_neg (by omega), wI_rd, if_neg (by omega), up_n (j := 20 + e) _ _ (by omega), up_n (j := 30 + e) _ _ (by omega)]
    refine ⟨(h.2.2 e he).1, (h.2.2 e he).2.1, ?_⟩
    rw [wI_rd]
    by_cases e' : e = d
    · subst e'; rw [if_pos ⟨rfl, rfl⟩, up_s]
    · rw [if_neg (by omega), up_n _ _ (by omega)]; exact (h.2.2 e he).2.2
theorem mf_ps (h : MF M a u) (hO : OkO a) {d : Nat} (hd : d < 8) (v : Nat) : sI M 0 261 (nI d) (nI v) = some (wI M 261 d (nI v)) ∧ MF (wI M 261 d (nI v)) a (up u (20 + d) v) ∧ Fr SD M (wI M 261 d (nI v)) := by
  have h8 := hO.1.1
  have hF : Fr SD M (wI M 261 d (nI v)) := fr_wI (Or.inr (Or.inr (Or.inl rfl)))
  refine ⟨by rw [sI_at (m_s261 h.1.1.1) (by omega) (by omega), nar0], ⟨⟨mo_fr h.1.1 hF (fun n k hh => by unfold SD at hh; omega), fun s hs => ?_⟩, fun j hj h3' => ?_, fun e he => ⟨?_, ?_, ?_⟩⟩, hF⟩
  · dsimp only
    rw [wI_rd, if_neg (by omega), wI_rd, if_neg (by omega), up_n _ _ (by omega)]
    exact h.1.2 s hs
  · have r := mk_r j
    rw [wI_rd, if_neg (by omega), up_n _ _ (by omega)]; exact h.2.1 j hj h3'
  · rw [wI_rd]
    by_cases e' : e = d
    · subst e'; rw [if_pos ⟨rfl, rfl⟩, up_s]
    · rw [if_neg (by omega), up_n _ _ (by omega)]; exact (h.2.2 e he).1
  · rw [wI_rd, if_neg (by omega), up_n _ _ (by omega)]; exact (h.2.2 e he).2.1
  · rw [wI_rd, if_neg (by omega), up_n _ _ (by omega)]; exact (h.2.2 e he).2.2
theorem mf_pd (h : MF M a u) (hO : OkO a) {d : Nat} (hd : d < 8) (v : Nat) : sI M 0 262 (nI d) (nI v) = some (wI M 262 d (nI v)) ∧ MF (wI M 262 d (nI v)) a (up u (30 + d) v) ∧ Fr SD M (wI M 262 d (nI v)) := by
  have h8 := hO.1.1
  have hF : Fr SD M (wI M 262 d (nI v)) := fr_wI (Or.inr (Or.inr (Or.inr rfl)))
  refine ⟨by rw [sI_at (m_s262 h.1.1.1) (by omega) (by omega), nar0], ⟨⟨mo_fr h.1.1 hF (fun n k hh => by unfold SD at hh; omega), fun s hs => ?_⟩, fun j hj h3' => ?_, fun e he => ⟨?_, ?_, ?_⟩⟩, hF⟩
  · dsimp only
    rw [wI_rd, if_neg (by omega), wI_rd, if_neg (by omega), up_n _ _ (by omega)]
    exact h.1.2 s hs
  · have r := mk_r j
    rw [wI_rd, if_neg (by omega), up_n _ _ (by omega)]; exact h.2.1 j hj h3'
  · rw [wI_rd, if_neg (by omega), up_n _ _ (by omega)]; exact (h.2.2 e he).1
  · rw [wI_rd]
    by_cases e' : e = d
    · subst e'; rw [if_pos ⟨rfl, rfl⟩, up_s]
    · rw [if_neg (by omega), up_n _ _ (by omega)]; exact (h.2.2 e he).2.1
  · rw [wI_rd, if_neg (by omega), up_n _ _ (by omega)]; exact (h.2.2 e he).2.2
theorem mf_fr {S : Nat → Nat → Prop} {M' : Mem} (h : MF M a u) (hF : Fr S M M') (hS : ∀ n k, S n k → n ≠ 256 ∧ ¬ (n = 255 ∧ (11 ≤ k ∧ k ≤ 13 ∨ 20 ≤ k ∧ k ≤ 26)) ∧ n ≠ 259 ∧ n ≠ 260 ∧ n ≠ 261 ∧ n ≠ 262) : MF M' a u := by
  refine ⟨mr_fr h.1 hF (fun n k hh => by have := hS n k hh; omega), fun j hj h3 => ?_, fun d hd => ?_⟩
  · have r := mk_r j
    rw [hF.2 255 _ (fun hh => by have := hS _ _ hh; omega)]; exact h.2.1 j hj h3
  · rw [hF.2 261 _ (fun hh => by have := hS _ _ hh; omega), hF.2 262 _ (fun hh => by have := hS _ _ hh; omega), hF.2 259 _ (fun hh => by have := hS _ _ hh; omega)]; exact h.2.2 d hd
end
theorem lm_fr {S : Nat → Nat → Prop} {M M' : Mem} {l : Option (Nat × Nat × Nat)} (h : LM M l) (hF : Fr S M M') (hS : ∀ n k, S n k → ¬ (n = 255 ∧ 16 ≤ k ∧ k ≤ 18)) : LM M' l := by
  have e : ∀ k, 16 ≤ k → k ≤ 18 → M'.1 255 k = M.1 255 k := fun k h1 h2 => hF.2 255 k (fun hh => hS _ _ hh ⟨rfl, h1, h2⟩)
  cases l with
  | none => exact ⟨by rw [e 16 (by omega) (by omega)]; exact h.1, by rw [e 17 (by omega) (by omega)]; exact h.2.1, by rw [e 18 (by omega) (by omega)]; exact h.2.2⟩
  | some l => obtain ⟨w, r, t⟩ := l; exact ⟨by rw [e 16 (by omega) (by omega)]; exact h.1, by rw [e 17 (by omega) (by omega)]; exact h.2.1, by rw [e 18 (by omega) (by omega)]; exact h.2.2⟩
theorem lm_wI {M : Mem} {l : Option (Nat × Nat × Nat)} {n k : Nat} {v : Int32} (h : LM M l) (hn : ¬ (n = 255 ∧ 16 ≤ k ∧ k ≤ 18)) : LM (wI M n k v) l := lm_fr (S := fun q j => q = n ∧ j = k) h (fr_wI ⟨rfl, rfl⟩) (fun q j hh => by obtain ⟨rfl, rfl⟩ := hh; exact hn)
theorem ml_pg {M : Mem} {a u : Nat → Nat} {l : Option (Nat × Nat × Nat)} (h : MF M a u) (hl : LM M l) {k : Nat} (hk : k < 8) (h3 : k ≠ 3) (v : Nat) : ∃ M', pI M 12 255 (mk k) (nI v) = some M' ∧ (MF M' a (up u k v) ∧ LM M' l) ∧ Fr SD M M' := by
  obtain ⟨p1, p2, p3⟩ := mf_pg h hk h3 v
  have r := mk_r k
  exact ⟨_, p1, ⟨p2, lm_wI hl (by omega)⟩, p3⟩
theorem ml_ph {M : Mem} {a u : Nat → Nat} {l : Option (Nat × Nat × Nat)} (h : MF M a u) (hl : LM M l) (hO : OkO a) {d : Nat} (hd : d < a 0) {v : Nat} (hv : v < 1000) : ∃ M', sI M 0 259 (nI d) (nI v) = some M' ∧ (MF M' a (up u (10 + d) v) ∧ LM M' l) ∧ Fr SD M M' := by
  obtain ⟨p1, p2, p3⟩ := mf_ph h hO hd hv
  exact ⟨_, p1, ⟨p2, lm_wI hl (by omega)⟩, p3⟩
theorem mo_J63 {M : Mem} {a u : Nat → Nat} {y : Nat} (h : MF M a u) (hy : y ≤ 1) : ∃ M', f_X12_called_J63 M 255 (nI y) = some M' ∧ MF M' a (if y = 0 then up u 5 (u 5 + 1) else up u 6 (u 6 + 1)) ∧ Fr SD M M' := by
  unfold f_X12_called_J63
  have g6 : gI M 12 255 23 = some (nI (u 6)) := mf_g h (k := 6) (by omega) (by omega)
  rw [g6, bb_some]
  rcases (show y = 0 ∨ y = 1 by omega) with rfl | rfl
  · obtain ⟨p1, p2, p3⟩ := mf_pg h (k := 6) (by omega) (by omega) (u 6 + 0)
    have p1 : pI M 12 255 23 (nI (u 6 + 0)) = some _ := p1
    rw [Nat.add_zero, up_id] at p2
    generalize wI M 255 (mk 6) (nI (u 6 + 0)) = A at p1 p2 p3
    obtain ⟨q1, q2, q3⟩ := mf_pg p2 (k := 5) (by omega) (by omega) (u 5 + 1)
    have q1 : pI A 12 255 22 (nI (u 5 + 1)) = some _ := q1
    have g5 : gI A 12 255 22 = some (nI (u 5)) := mf_g p2 (k := 5) (by omega) (by omega)
    rw [if_pos (by rfl), if_pos rfl]
    refine ⟨_, ?_, q2, fr_trans p3 q3⟩
    show (pI M 12 255 23 (nI (u 6) + nI 0)).bind _ = _
    rw [nI_add, p1, bb_some, g5, bb_some, if_pos (by rfl)]
    show (pI A 12 255 22 (nI (u 5) + nI 1)).bind _ = _
    rw [nI_add, q1, bb_some]
  · obtain ⟨p1, p2, p3⟩ := mf_pg h (k := 6) (by omega) (by omega) (u 6 + 1)
    have p1 : pI M 12 255 23 (nI (u 6 + 1)) = some _ := p1
    generalize wI M 255 (mk 6) (nI (u 6 + 1)) = A at p1 p2 p3
    obtain ⟨q1, q2, q3⟩ := mf_pg p2 (k := 5) (by omega) (by omega) (up u 6 (u 6 + 1) 5 + 0)
    have q1 : pI A 12 255 22 (nI (up u 6 (u 6 + 1) 5 + 0)) = some _ := q1
    have g5 : gI A 12 255 22 = some (nI (up u 6 (u 6 + 1) 5)) := mf_g p2 (k := 5) (by omega) (by omega)
    rw [Nat.add_zero, up_id] at q2
    rw [if_neg (by decide), if_neg (by omega)]
    refine ⟨_, ?_, q2, fr_trans p3 q3⟩
    show (pI M 12 255 23 (nI (u 6) + nI 1)).bind _ = _
    rw [nI_add, p1, bb_some, g5, bb_some, if_neg (by decide)]
    show (pI A 12 255 22 (nI (up u 6 (u 6 + 1) 5) + nI 0)).bind _ = _
    rw [nI_add, q1, bb_some, Nat.add_zero]
theorem mo_miss {M : Mem} {a u : Nat → Nat} {c : Nat} (h : MF M a u) (hO : OkO a) (hc : c < a 1) : ∃ M', ((gR M 12 255 0).bind fun v6 => (gI M 12 255 11).bind fun v7 => (aI M 0 v6 (v7 + 3)).bind fun v8 => (if v8 ≤ 0 then f_X12_called_J63 M 255 0 else (gR M 12 255 0).bind fun v10 => (gI M 12 255 11).bind fun v11 => (aI M 0 v10 (v11 + 3)).bind fun v12 => (ob M 12 255).bind fun _ => (f_X12_ofCall M 255 (nI c) 2).bind fun v13 => (if v13 < v12 then f_X12_called_J63 M 255 0 else f_X12_called_J63 M 255 1))) = some M' ∧ MF M' a (mis a c u) ∧ Fr SD M M' := by
  obtain ⟨g1, g2, g3, g4⟩ := okc hO hc
  have h10 := hO.1.2.1
  have h3 := hO.1.2.2.2.1
  have hM := h.1.1
  obtain ⟨p, p1, p2, p3⟩ := mo_rd hM
  have p33 := p3 3 (by omega)
  have e0 : nI p + 3 = nI (p + 3) := nI_add p 3
  have e1 : nI (a 3) ≤ 0 ↔ a 3 = 0 := by
    have := nI_leI (a := a 3) (b := 0) (by omega) (by omega)
    rw [nI_0] at this
    rw [this]; omega
  have e2 : nI (a (47 + 3 * c)) < nI (a 3) ↔ a (47 + 3 * c) < a 3 := nI_ltI (by omega) (by omega)
  obtain ⟨A, eA, hA, fA⟩ := mo_J63 h (y := 0) (by omega)
  obtain ⟨B, eB, hB, fB⟩ := mo_J63 h (y := 1) (by omega)
  have eA : f_X12_called_J63 M 255 0 = some A := eA
  have eB : f_X12_called_J63 M 255 1 = some B := eB
  rw [if_pos rfl] at hA
  rw [if_neg (by omega)] at hB
  unfold mis
  rw [p2, bb_some, p1, bb_some, e0, p33, bb_some, bb_some, bb_some, e0, p33, bb_some, mo_ob hM, bb_some, mo_oc2 hM (by omega), bb_some]
  by_cases h0 : a 3 = 0
  · rw [if_pos (e1.mpr h0), if_neg (by omega)]
    exact ⟨A, eA, hA, fA⟩
  · rw [if_neg (fun h => h0 (e1.mp h))]
    by_cases h1 : a (47 + 3 * c) < a 3
    · rw [if_pos (e2.mpr h1), if_neg (by omega)]
      exact ⟨A, eA, hA, fA⟩
    · rw [if_neg (fun h => h1 (e2.mp h)), if_pos (by omega)]
      exact ⟨B, eB, hB, fB⟩
theorem mo_J153 {M : Mem} {a u : Nat → Nat} {c w r t y m : Nat} (h : MF M a u) (hO : OkO a) (hc : c < a 1) (hl : LM M (some (w, r, t))) (hw : w < a 0) (hb : ∀ d, d < 8 → u (10 + d) ≤ m) (hm : m < 500) : ∃ M', f_X12_called_J153 M 255 (nI (a (45 + 3 * c))) 255 (nI (u 7)) (nI y) = some M' ∧ MF M' a (hit3 a (a (45 + 3 * c)) w (up u 7 (u 7 + y))) ∧ Fr SD M M' := by
  obtain ⟨g1, g2, g3, g4⟩ := okc hO hc
  have h8 := hO.1.1
  obtain ⟨A, eA, ⟨hA, lA⟩, fA⟩ := ml_pg h hl (k := 7) (by omega) (by omega) (u 7 + y)
  have eA : pI M 12 255 26 (nI (u 7 + y)) = some A := eA
  have bx : up u 7 (u 7 + y) (10 + w) ≤ m := by rw [up_n _ _ (by omega)]; exact hb w (by omega)
  unfold f_X12_called_J153 hit3
  rw [nI_add, eA, bb_some, gI_at (m_shp hA.1.1.1), bb_some, lA.1]
  generalize up u 7 (u 7 + y) = x at hA bx
  by_cases he : w = a (45 + 3 * c)
  · rw [if_pos (by rw [he]), if_pos he]
    exact ⟨A, rfl, hA, fA⟩
  · rw [if_neg (nI_nq (by omega) (by omega) he), if_neg he]
    obtain ⟨B, eB, ⟨hB, lB⟩, fB⟩ := ml_ph hA lA hO hw (v := x (10 + w) + 1) (by omega)
    obtain ⟨C, eC, ⟨hC, lC⟩, fC⟩ := ml_pg hB lB (k := 2) (by omega) (by omega) (x 2 + a (8 + 5 * w))
    have eC : pI B 12 255 25 (nI (x 2 + a (8 + 5 * w))) = some C := eC
    have e2 : up x (10 + w) (x (10 + w) + 1) 2 = x 2 := up_n _ _ (by omega)
    have gB : gI B 12 255 25 = some (nI (x 2)) := by have := mf_g hB (k := 2) (by omega) (by omega); rw [e2] at this; exact this
    have e3 : up (up x (10 + w) (x (10 + w) + 1)) 2 (x 2 + a (8 + 5 * w)) (20 + a (45 + 3 * c)) = x (20 + a (45 + 3 * c)) := by rw [up_n _ _ (by omega), up_n _ _ (by omega)]
    obtain ⟨q1, q2, q3⟩ := mf_ps hC hO (d := a (45 + 3 * c)) (by omega) (x (20 + a (45 + 3 * c)) + 1)
    rw [m_r14 hA.1.1.1, bb_some, bb_some, mr_h hA.1 hO hw, bb_some, nI_1, eB, bb_some, gB, bb_some, gI_at (m_shp hB.1.1.1), bb_some, lB.1, mo_ob hB.1.1, bb_some, mo_of3 hB.1.1 (by omega), bb_some, nI_add, eC, bb_some, m_r28 hC.1.1.1, bb_some, mf_s hC (by omega), bb_some, e3, nI_1, q1, bb_some]
    exact ⟨_, rfl, q2, fr_trans fA (fr_trans fB (fr_trans fC q3))⟩
theorem mo_called {M : Mem} {a u : Nat → Nat} {c m : Nat} (h : MF M a u) (hO : OkO a) (hc : c < a 1) (hu : FOk a m u) (hm : m < 500) : ∃ M', f_X12_called M 255 (nI c) = some M' ∧ MF M' a (ringD a c u) ∧ Fr SD M M' := by
  obtain ⟨g1, g2, g3, g4⟩ := okc hO hc
  have h8 := hO.1.1
  have p8 := pw8 h8
  have h10 := hO.1.2.1
  have h4 := hO.1.2.2.2.2
  obtain ⟨⟨b4, b0, b1⟩, bh, bz⟩ := hu
  obtain ⟨Z, eZ, lZ, fZ⟩ := mo_rings h.1 hO g1 b4
  have hZ : MF Z a u := mf_fr h fZ (fun n k hh => by have := hh.1; have := hh.2; omega)
  have fZ' : Fr SD M Z := fr_mono fZ (fun n k hh => Or.inl ⟨hh.1, by have := hh.2; omega⟩)
  have lk := lok_lft (kd := kdO a) (h := fun d => u (10 + d)) (m := u 4) hO g1 (fun s hs => by have := (bh s (by omega)).1; show u (10 + s) < 1000; omega)
  have g20 : gI M 12 255 20 = some (nI (u 4)) := mf_g h (k := 4) (by omega) (by omega)
  obtain ⟨N, eN, hN, fN⟩ := mo_miss hZ hO hc
  rw [mo_ob hZ.1.1] at eN
  unfold f_X12_called ringD
  rw [mo_ob h.1.1, bb_some, mo_oc0 h.1.1 (by omega), bb_some, g20, bb_some, bb_some, eZ, bb_some, mo_ob hZ.1.1, bb_some, mo_isLifted hZ.1.1 hO hc lZ lk, bb_some]
  generalize lft a (kdO a) (fun d => u (10 + d)) (a (45 + 3 * c)) (u 4) = l at lZ lk
  cases l with
  | none =>
    rw [show iT a c (rr none) = false from iT0 a c, if_pos (by rfl)]
    exact ⟨N, eN, hN, fr_trans fZ' fN⟩
  | some l =>
    obtain ⟨w, r, t⟩ := l
    obtain ⟨k1, k2, k3, k4⟩ := lk
    show ∃ M', (if bI (iT a c r) = 0 then _ else _) = some M' ∧ MF M' a (if iT a c r = true then hit a c w r t u else mis a c u) ∧ _
    by_cases hi : iT a c r = true
    · rw [hi, if_neg (by decide), if_pos rfl]
      obtain ⟨A, eA, ⟨hA, lA⟩, fA⟩ := ml_pg hZ lZ (k := 0) (by omega) (by omega) (u 0 ||| 2 ^ c)
      have eA : pI Z 12 255 21 (nI (u 0 ||| 2 ^ c)) = some A := eA
      obtain ⟨B, eB, ⟨hB, lB⟩, fB⟩ := ml_pg hA lA (k := 1) (by omega) (by omega) (u 1 + gtN a c r)
      have eB : pI A 12 255 24 (nI (u 1 + gtN a c r)) = some B := eB
      have g21 : gI Z 12 255 21 = some (nI (u 0)) := mf_g hZ (k := 0) (by omega) (by omega)
      have e1 : up u 0 (u 0 ||| 2 ^ c) 1 = u 1 := up_n _ _ (by omega)
      have g24 : gI A 12 255 24 = some (nI (u 1)) := by have := mf_g hA (k := 1) (by omega) (by omega); rw [e1] at this; exact this
      have g17 : gI A 12 255 17 = some (nI r) := by rw [gI_at (m_shp hA.1.1.1), lA.2.1]
      have g26 : gI B 12 255 26 = some (nI (hit1 a c r u 7)) := mf_g hB (k := 7) (by omega) (by omega)
      have g18 : gI B 12 255 18 = some (if t = 2 ^ w then 0 else 1) := by rw [gI_at (m_shp hB.1.1.1), lB.2.2]
      have hB : MF B a (hit1 a c r u) := hB
      have bb : ∀ d, d < 8 → hit1 a c r u (10 + d) ≤ m := fun d hd => by unfold hit1; rw [up_n _ _ (by omega), up_n _ _ (by omega)]; exact (bh d hd).1
      rw [g21, bb_some, one_sl (by omega), or_at, eA, bb_some, g24, bb_some, mo_ob hA.1.1, bb_some, mo_oc1 hA.1.1 (by omega), bb_some, g17, bb_some, bb_some, mo_got hA.1.1 hO hc k2.2 hi, bb_some, nI_add, eB, bb_some, g26, bb_some, g18, bb_some]
      unfold hit hit2
      by_cases ht : t = 2 ^ w
      · rw [if_pos ht, if_pos rfl, if_pos ht]
        obtain ⟨D, eD, hD, fD⟩ := mo_J153 (y := 0) hB hO hc lB k1 bb hm
        rw [Nat.add_zero, up_id] at hD
        exact ⟨D, eD, hD, fr_trans fZ' (fr_trans fA (fr_trans fB fD))⟩
      · rw [if_neg ht, if_neg (by decide), if_neg ht]
        obtain ⟨D, eD, hD, fD⟩ := mo_J153 (y := 1) hB hO hc lB k1 bb hm
        exact ⟨D, eD, hD, fr_trans fZ' (fr_trans fA (fr_trans fB fD))⟩
    · rw [if_neg hi, show iT a c r = false by simpa using hi, if_pos (by rfl)]
      exact ⟨N, eN, hN, fr_trans fZ' fN⟩
theorem mo_does {M : Mem} {e n m : Nat} {a u : Nat → Nat} (h : MF M a u) (hO : OkO a) (hu : FOk a m u) (hm : m < 500) (he : e ≤ 3) (hn : n ≤ 9) : ∃ M', (f_X12_does M 255 (nI e) (nI n) = some (match dod a e n u with | none => (0, M') | some _ => (1, M'))) ∧ MF M' a (match dod a e n u with | none => u | some u' => u') ∧ Fr SD M M' := by
  have h8 := hO.1.1
  have h10 := hO.1.2.1
  have p8 := pw8 h8
  have p10 := pw10 h10
  have hM := h.1.1
  have hu' := hu
  obtain ⟨⟨b4, b0, b1⟩, bh, bz⟩ := hu
  have g20 : gI M 12 255 20 = some (nI (u 4)) := mf_g h (k := 4) (by omega) (by omega)
  have g21 : gI M 12 255 21 = some (nI (u 0)) := mf_g h (k := 0) (by omega) (by omega)
  unfold f_X12_does dod
  by_cases h0 : e = 0
  · subst h0
    rw [nI_0, if_pos rfl, if_pos rfl, mo_ob hM, bb_some]
    by_cases hc : n < a 1
    · rw [mo_isCall hM hO hc, bb_some, if_neg (by decide), g21, bb_some, m_holds M (show u 0 < 2 ^ 31 by omega) (show n < 32 by omega), bb_some]
      by_cases hb : (u 0).testBit n = true
      · rw [if_pos hb, if_neg (by decide), if_neg (by rw [hb]; simp)]
        exact ⟨M, rfl, h, fr_refl⟩
      · have hb' : (u 0).testBit n = false := by simpa using hb
        obtain ⟨A, eA, hA, fA⟩ := mo_called h hO hc hu' hm
        rw [if_neg hb, if_pos rfl, if_pos ⟨hc, hb'⟩, bb_some, eA, bb_some]
        exact ⟨A, rfl, hA, fA⟩
    · rw [mo_noCall hM hO (Or.inr (nI_le (by omega) (by omega))), bb_some, if_pos rfl, if_neg (by omega)]
      exact ⟨M, rfl, h, fr_refl⟩
  · rw [if_neg (nI_ne0 (by omega) (by omega)), if_neg h0, mo_ob hM, bb_some]
    by_cases hd : n < a 0
    · rw [mo_isDesk hM hO hd, bb_some, if_neg (by decide), g20, bb_some, m_holds M (show u 4 < 2 ^ 31 by omega) (show n < 32 by omega), bb_some]
      have e2 : nI e = 2 ↔ e = 2 := nI_eq (b := 2) (by omega) (by omega)
      have e3 : nI e = 3 ↔ e = 3 := nI_eq (b := 3) (by omega) (by omega)
      have key : ∀ X : Option (Int32 × Mem), (if nI e = 2 then (if (if (u 4).testBit n = true then (1 : Int32) else 0) = 0 then X else some (0, M)) else (if (if (u 4).testBit n = true then (1 : Int32) else 0) = 1 then X else some (0, M))) = (if (u 4).testBit n = decide (e ≠ 2) then X else some (0, M)) := fun X => by
        by_cases h2 : e = 2
        · rw [if_pos (e2.mpr h2)]
          cases (u 4).testBit n <;> simp [h2]
        · rw [if_neg (fun h => h2 (e2.mp h))]
          cases (u 4).testBit n <;> simp [h2]
      unfold f_X12_does_J58
      rw [key]
      by_cases hc : (u 4).testBit n = decide (e ≠ 2)
      · rw [if_pos hc, if_pos (show n < a 0 ∧ (u 4).testBit n = decide (e ≠ 2) from ⟨hd, hc⟩)]
        by_cases h3 : e = 3
        · rw [if_pos (e3.mpr h3), if_pos h3]
          have hsn := (bh n (by omega)).2
          have es : nI (u (20 + n)) = 0 ↔ u (20 + n) = 0 := nI_eq (b := 0) (by omega) (by omega)
          rw [m_r28 hM.1, bb_some, mf_s h (by omega), bb_some]
          by_cases h4 : u (20 + n) = 0
          · rw [if_pos (es.mpr h4), if_pos h4]
            exact ⟨M, rfl, h, fr_refl⟩
          · rw [if_neg (fun h => h4 (es.mp h)), if_neg h4, m_r29 hM.1, bb_some, mf_d h (by omega), bb_some, bb_some, mf_s h (by omega), bb_some, nI_add]
            obtain ⟨p1, p2, p3⟩ := mf_pd h hO (d := n) (by omega) (u (30 + n) + u (20 + n))
            rw [p1, bb_some]
            generalize wI M 262 n (nI (u (30 + n) + u (20 + n))) = A at p2 p3
            obtain ⟨q1, q2, q3⟩ := mf_ps p2 hO (d := n) (by omega) 0
            rw [nI_0] at q1 q2 q3
            rw [m_r28 p2.1.1.1, bb_some, q1, bb_some]
            exact ⟨_, rfl, q2, fr_trans p3 q3⟩
        · rw [if_neg (fun h => h3 (e3.mp h)), if_neg h3, g20, bb_some, one_sl (by omega), xor_at]
          obtain ⟨p1, p2, p3⟩ := mf_pg h (k := 4) (by omega) (by omega) (u 4 ^^^ 2 ^ n)
          have p1 : pI M 12 255 20 (nI (u 4 ^^^ 2 ^ n)) = some _ := p1
          rw [p1, bb_some]
          exact ⟨_, rfl, p2, p3⟩
      · rw [if_neg hc, if_neg (show ¬ (n < a 0 ∧ (u 4).testBit n = decide (e ≠ 2)) from fun h => hc h.2)]
        exact ⟨M, rfl, h, fr_refl⟩
    · rw [mo_noDesk hM hO (Or.inr (nI_le (by omega) (by omega))), bb_some, if_pos rfl, if_neg (by omega)]
      exact ⟨M, rfl, h, fr_refl⟩
