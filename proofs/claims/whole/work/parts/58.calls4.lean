/-! simple reads -/
/-- two loops side by side -/
theorem iter_two {σ ρ τ κ : Type} {f : σ → Option (σ ⊕ ρ)} {g : τ → Option (τ ⊕ κ)} (n : Nat) (St : Nat → σ → τ → Prop) (Out : ρ → κ → Prop)
    (hs : ∀ i s t, i < n → St i s t → (∃ s' t', f s = some (.inl s') ∧ g t = some (.inl t') ∧ St (i + 1) s' t') ∨ (∃ r q, f s = some (.inr r) ∧ g t = some (.inr q) ∧ Out r q))
    (hx : ∀ s t, St n s t → ∃ r q, f s = some (.inr r) ∧ g t = some (.inr q) ∧ Out r q) : ∀ (F k : Nat) (s : σ) (t : τ), k ≤ n → St k s t → n - k < F → ∃ r q, iter f F s = some r ∧ iter g F t = some q ∧ Out r q := by
  intro F
  induction F with
  | zero => intro k s t _ _ h; omega
  | succ F ih =>
    intro k s t hk hS hF
    have hend : (∃ r q, f s = some (.inr r) ∧ g t = some (.inr q) ∧ Out r q) → ∃ r q, iter f (F + 1) s = some r ∧ iter g (F + 1) t = some q ∧ Out r q := fun ⟨r, q, h1, h2, h3⟩ => ⟨r, q, iter_end h1, iter_end h2, h3⟩
    rcases Nat.lt_or_ge k n with h | h
    · rcases hs k s t h hS with ⟨s', t', h1, h2, h3⟩ | h1
      · obtain ⟨r, q, h4, h5, h6⟩ := ih (k + 1) s' t' (by omega) h3 (by omega)
        exact ⟨r, q, by rw [iter_step h1]; exact h4, by rw [iter_step h2]; exact h5, h6⟩
      · exact hend h1
    · have : k = n := by omega
      subst this
      exact hend (hx s t hS)
theorem nI_nq {n k : Nat} (hn : n < 2 ^ 31) (hk : k < 2 ^ 31) (h : n ≠ k) : ¬ nI n = nI k := fun e => h ((nI_eq hn hk).mp e)
theorem neg_nq {x : Int32} (hx : x < 0) {k : Nat} (hk : k < 2 ^ 31) : ¬ x = nI k := fun e => by subst e; exact nI_pos hk hx
theorem neg_nle {x : Int32} (hx : x < 0) {k : Nat} (hk : k < 2 ^ 31) : ¬ nI k ≤ x := by
  have := nI_toInt hk
  rw [Int32.lt_iff_toInt_lt] at hx
  rw [Int32.le_iff_toInt_le]
  have : (0 : Int32).toInt = 0 := rfl
  omega
theorem dv10 {n : Nat} (hn : n < 2 ^ 31) : dvI (nI n) 10 = some (nI (n / 10)) := by
  have e : nI n / 10 = nI (n / 10) := pk_div hn (d := 10) (by omega) (by omega)
  rw [dvI, if_neg (by decide), e]
theorem rm10 {n : Nat} (hn : n < 2 ^ 31) : rmI (nI n) 10 = some (nI (n % 10)) := by
  have e : nI n - nI n / 10 * 10 = nI (n % 10) := pk_rem hn (d := 10) (by omega) (by omega)
  rw [rmI, if_neg (by decide), e]
theorem rm10_some (x : Int32) : rmI x 10 = some (x - x / 10 * 10) := by rw [rmI, if_neg (by decide)]
theorem co_tellD {M : Mem} {o : Nat} {a : Nat → Nat} (hC : CO M o a) (hO : OkO a) {d j : Nat} (hd : d < a 0) (hj : j < 5) : f_X5_tellDesk M o (nI (j + 1)) (nI d) = some (nI (a (5 + 5 * d + j))) := by
  have e := co_d hC hO hd hj
  rcases (show j = 0 ∨ j = 1 ∨ j = 2 ∨ j = 3 ∨ j = 4 by omega) with rfl | rfl | rfl | rfl | rfl
  · have e : aI M 0 (o + 1) (nI d) = some (nI (a (5 + 5 * d + 0))) := e
    show f_X5_tellDesk M o 1 (nI d) = _
    simp [f_X5_tellDesk, co_r5 hC, e]
  · have e : aI M 0 (o + 2) (nI d) = some (nI (a (5 + 5 * d + 1))) := e
    show f_X5_tellDesk M o 2 (nI d) = _
    simp [f_X5_tellDesk, co_r6 hC, e]
  · have e : aI M 0 (o + 3) (nI d) = some (nI (a (5 + 5 * d + 2))) := e
    show f_X5_tellDesk M o 3 (nI d) = _
    simp [f_X5_tellDesk, co_r7 hC, e]
  · have e : aI M 0 (o + 4) (nI d) = some (nI (a (5 + 5 * d + 3))) := e
    show f_X5_tellDesk M o 4 (nI d) = _
    simp [f_X5_tellDesk, co_r8 hC, e]
  · have e : aI M 0 (o + 5) (nI d) = some (nI (a (5 + 5 * d + 4))) := e
    show f_X5_tellDesk M o 5 (nI d) = _
    simp [f_X5_tellDesk, co_r9 hC, e]
theorem co_tellC {M : Mem} {o : Nat} {a : Nat → Nat} (hC : CO M o a) (hO : OkO a) {c j : Nat} (hc : c < a 1) (hj : j < 3) : f_X5_tellCall M o (nI (j + 6)) (nI c) = some (nI (a (45 + 3 * c + j))) := by
  have e := co_c hC hO hc hj
  rcases (show j = 0 ∨ j = 1 ∨ j = 2 by omega) with rfl | rfl | rfl
  · have e : aI M 0 (o + 6) (nI c) = some (nI (a (45 + 3 * c + 0))) := e
    show f_X5_tellCall M o 6 (nI c) = _
    simp [f_X5_tellCall, co_r10 hC, e]
  · have e : aI M 0 (o + 7) (nI c) = some (nI (a (45 + 3 * c + 1))) := e
    show f_X5_tellCall M o 7 (nI c) = _
    simp [f_X5_tellCall, co_r11 hC, e]
  · have e : aI M 0 (o + 8) (nI c) = some (nI (a (45 + 3 * c + 2))) := e
    show f_X5_tellCall M o 8 (nI c) = _
    simp [f_X5_tellCall, co_r12 hC, e]
theorem co_tellX {M : Mem} {o q c : Nat} (hq : 9 ≤ q) (hq2 : q < 2 ^ 31) : f_X5_tellCall M o (nI q) (nI c) = some (-1) := by
  have h6 : ¬ nI q = 6 := nI_nq (k := 6) hq2 (by omega) (by omega)
  have h7 : ¬ nI q = 7 := nI_nq (k := 7) hq2 (by omega) (by omega)
  have h8 : ¬ nI q = 8 := nI_nq (k := 8) hq2 (by omega) (by omega)
  simp [f_X5_tellCall, h6, h7, h8]
theorem call_office {M : Mem} (hI : Inv M) (a1 a2 : Int32)  : ∃ (r : Int32) (M1 M2 : Mem), (f_X11_office M 1 a1 a2 = some r ∧ M1 = M) ∧ shp M1 255 = some (.inl 12) ∧ f_X12_office M1 255 a1 a2 = some (r, M2) ∧ Inv M2 := by
  have hS := hI.1
  exact qp hI a1 (fC := f_X11_office M 1 a1 a2) (fM := fun M => f_X12_office M 255 a1 a2) (bad := -1) (fun e1 e2 => ⟨by simp [f_X11_office, d_r0 hS, t_ob hS, e1], by simp [f_X12_office, ob_at (m_shp hS), e2]⟩) (fun o a M2 ho hO e1 hC e3 hM => by
    have h8 := hO.1.1
    have h10 := hO.1.2.1
    suffices H : ∃ r, f_X5_tell M o a2 = some r ∧ f_X12_office M 255 a1 a2 = some (r, M2) by
      obtain ⟨r, r1, r2⟩ := H
      exact ⟨r, by simp [f_X11_office, d_r0 hS, t_ob hS, e1, ho, ob_at (co_shp hC), r1], M2, r2, qf_refl⟩
    by_cases hneg : a2 < 0
    · refine ⟨-1, ?_, ?_⟩
      · have z0 : ¬ a2 = 0 := neg_nq hneg (k := 0) (by omega)
        have z1 : ¬ a2 = 1 := neg_nq hneg (k := 1) (by omega)
        have z2 : ¬ a2 = 2 := neg_nq hneg (k := 2) (by omega)
        have z3 : ¬ a2 = 3 := neg_nq hneg (k := 3) (by omega)
        have z4 : ¬ a2 = 4 := neg_nq hneg (k := 4) (by omega)
        have z5 : ¬ 10 ≤ a2 := neg_nle hneg (k := 10) (by omega)
        simp only [f_X5_tell, if_neg z0, if_neg z1, if_neg z2, if_neg z3, if_neg z4, if_neg z5]
      · simp [f_X12_office, ob_at (m_shp hS), e3, ii_neg M2 hneg (L := 0) (U := 4) (by decide), ii_neg M2 hneg (L := 10) (U := 59) (by decide), ii_neg M2 hneg (L := 60) (U := 89) (by decide), rm10_some]
    · obtain ⟨n, hn, rfl⟩ := nI_of hneg
      have i1 := ii_n M2 (x := n) (l := 0) (u := 4) (L := 0) (U := 4) rfl rfl hn (by omega) (by omega)
      by_cases h5 : n < 5
      · rw [if_pos (by omega)] at i1
        obtain ⟨p, g1, g2, g3⟩ := mo_rd hM
        have g3 := g3 n (by omega)
        refine ⟨nI (a n), ?_, ?_⟩
        · rcases (show n = 0 ∨ n = 1 ∨ n = 2 ∨ n = 3 ∨ n = 4 by omega) with rfl | rfl | rfl | rfl | rfl
          · show f_X5_tell M o 0 = _
            simp [f_X5_tell, co_g0 hC]
          · show f_X5_tell M o 1 = _
            simp [f_X5_tell, co_g1 hC]
          · show f_X5_tell M o 2 = _
            simp [f_X5_tell, co_g2 hC]
          · show f_X5_tell M o 3 = _
            simp [f_X5_tell, co_g3 hC]
          · show f_X5_tell M o 4 = _
            simp [f_X5_tell, co_g4 hC]
        · simp [f_X12_office, ob_at (m_shp hS), e3, i1, g1, g2, nI_add, g3]
      · rw [if_neg (by omega)] at i1
        have i2 := ii_n M2 (x := n) (l := 10) (u := 59) (L := 10) (U := 59) rfl rfl hn (by omega) (by omega)
        have i3 := ii_n M2 (x := n) (l := 60) (u := 89) (L := 60) (U := 89) rfl rfl hn (by omega) (by omega)
        have z0 : ¬ nI n = 0 := nI_nq (k := 0) hn (by omega) (by omega)
        have z1 : ¬ nI n = 1 := nI_nq (k := 1) hn (by omega) (by omega)
        have z2 : ¬ nI n = 2 := nI_nq (k := 2) hn (by omega) (by omega)
        have z3 : ¬ nI n = 3 := nI_nq (k := 3) hn (by omega) (by omega)
        have z4 : ¬ nI n = 4 := nI_nq (k := 4) hn (by omega) (by omega)
        by_cases h9 : n < 10
        · rw [if_neg (by omega)] at i2 i3
          have z5 : ¬ 10 ≤ nI n := nI_ge (b := 10) h9 (by omega)
          refine ⟨-1, by simp only [f_X5_tell, if_neg z0, if_neg z1, if_neg z2, if_neg z3, if_neg z4, if_neg z5], ?_⟩
          simp [f_X12_office, ob_at (m_shp hS), e3, i1, i2, i3, rm10 hn]
        · have z5 : 10 ≤ nI n := nI_le (a := 10) (by omega) hn
          have ct : f_X5_tell M o (nI n) = f_X5_tellRow M o (nI (n / 10)) (nI (n % 10)) := by
            simp only [f_X5_tell, if_neg z0, if_neg z1, if_neg z2, if_neg z3, if_neg z4, if_pos z5, dv10 hn, rm10 hn, bb_some, ob_at (co_shp hC)]
            cases f_X5_tellRow M o (nI (n / 10)) (nI (n % 10)) <;> rfl
          rw [ct]
          by_cases h60 : n < 60
          · rw [if_pos (by omega)] at i2
            have z6 : ¬ 6 ≤ nI (n / 10) := nI_ge (b := 6) (by omega) (by omega)
            by_cases hd : n % 10 < a 0
            · obtain ⟨j, hj⟩ : ∃ j, n / 10 = j + 1 := ⟨n / 10 - 1, by omega⟩
              refine ⟨nI (a (5 + 5 * (n % 10) + j)), ?_, ?_⟩
              · simp [f_X5_tellRow, z6, ob_at (co_shp hC), c_hasDesk hC hO hd, hj, co_tellD hC hO hd (show j < 5 by omega)]
                rw [hj] at z6
                simp [z6]
              · have e : nI (n / 10) - 1 = nI j := by rw [hj]; exact nI_pred j
                simp [f_X12_office, ob_at (m_shp hS), e3, i1, i2, rm10 hn, dv10 hn, mo_ob hM, mo_isDesk hM hO hd, e, mo_of hM (show n % 10 < 8 by omega) (show j < 5 by omega)]
            · have ho' : outO (nI (n % 10)) (a 0) := Or.inr (nI_le (by omega) (by omega))
              refine ⟨-1, ?_, ?_⟩
              · simp [f_X5_tellRow, z6, ob_at (co_shp hC), c_noDesk hC ho']
              · simp [f_X12_office, ob_at (m_shp hS), e3, i1, i2, rm10 hn, mo_ob hM, mo_noDesk hM hO ho']
          · rw [if_neg (by omega)] at i2
            have z6 : 6 ≤ nI (n / 10) := nI_le (a := 6) (by omega) (by omega)
            by_cases h90 : n < 90
            · rw [if_pos (by omega)] at i3
              by_cases hd : n % 10 < a 1
              · obtain ⟨j, hj⟩ : ∃ j, n / 10 = j + 6 := ⟨n / 10 - 6, by omega⟩
                refine ⟨nI (a (45 + 3 * (n % 10) + j)), ?_, ?_⟩
                · rw [hj] at z6 ⊢
                  simp [f_X5_tellRow, z6, ob_at (co_shp hC), c_hasCall hC hO hd, co_tellC hC hO hd (show j < 3 by omega)]
                · have e : nI (n / 10) - 6 = nI j := by
                    rw [hj]
                    have := pk_sub (a := j + 6) (b := 6) (by omega)
                    rwa [show j + 6 - 6 = j by omega] at this
                  simp [f_X12_office, ob_at (m_shp hS), e3, i1, i2, i3, rm10 hn, dv10 hn, mo_ob hM, mo_isCall hM hO hd, e, mo_oc hM (show n % 10 < 10 by omega) (show j < 3 by omega)]
              · have ho' : outO (nI (n % 10)) (a 1) := Or.inr (nI_le (by omega) (by omega))
                refine ⟨-1, ?_, ?_⟩
                · simp [f_X5_tellRow, z6, ob_at (co_shp hC), c_noCall hC ho']
                · simp [f_X12_office, ob_at (m_shp hS), e3, i1, i2, i3, rm10 hn, mo_ob hM, mo_noCall hM hO ho']
            · rw [if_neg (by omega)] at i3
              refine ⟨-1, ?_, by simp [f_X12_office, ob_at (m_shp hS), e3, i1, i2, i3, rm10 hn]⟩
              by_cases hd : n % 10 < a 1
              · simp [f_X5_tellRow, z6, ob_at (co_shp hC), c_hasCall hC hO hd, co_tellX (M := M) (o := o) (c := n % 10) (show 9 ≤ n / 10 by omega) (by omega)]
              · have ho' : outO (nI (n % 10)) (a 1) := Or.inr (nI_le (by omega) (by omega))
                simp [f_X5_tellRow, z6, ob_at (co_shp hC), c_noCall hC ho'])
/-! days and logs -/
def CD (M : Mem) (o : Nat) (a : Nat → Nat) : Prop := Sk M ∧ (o = 19 ∨ o = 37) ∧ DC M o a
def MD (M : Mem) (a : Nat → Nat) : Prop := Sk M ∧ ∃ p, p ≤ 3000 ∧ M.1 255 19 = nI p ∧ MS M p 81 a
def OkL (b : Nat → Int32) : Prop := ∃ n, n ≤ 8 ∧ b 0 = nI n ∧ ∀ k, k < n → (∃ d, d ≤ 7 ∧ b (2 + 4 * k) = nI d) ∧ ((b (1 + 4 * k) = 0 ∧ b (3 + 4 * k) = -1 ∧ b (4 + 4 * k) = -1) ∨ (b (1 + 4 * k) = 1 ∧ ∃ w r, w ≤ 7 ∧ 1 ≤ r ∧ r ≤ 12 ∧ b (3 + 4 * k) = nI w ∧ b (4 + 4 * k) = nI r))
def CL (M : Mem) (o : Nat) (b : Nat → Int32) : Prop := Sk M ∧ (o = 22 ∨ o = 40) ∧ M.1 o 0 = b 0 ∧ ∀ k, nI k < b 0 → k < 8 → M.1 (o + 1) k = b (2 + 4 * k) ∧ M.1 (o + 2) k = b (3 + 4 * k) ∧ M.1 (o + 3) k = b (4 + 4 * k)
def ML (M : Mem) (b : Nat → Int32) : Prop := Sk M ∧ ∃ p, p ≤ 3000 ∧ M.1 255 35 = nI p ∧ ∀ i, i < 33 → M.1 256 (p + i) = b i
section
variable {M : Mem} {o : Nat} {a : Nat → Nat} {b : Nat → Int32}
theorem cd_shp (h : CD M o a) : shp M o = some (.inl 1) ∧ shp M (o + 1) = some (.inr (0, 40)) ∧ shp M (o + 2) = some (.inr (0, 40)) := by
  rcases h.2.1 with rfl | rfl <;> exact ⟨sk_shp h.1 (by omega) rfl, sk_shp h.1 (by omega) rfl, sk_shp h.1 (by omega) rfl⟩
theorem cd_r (h : CD M o a) : gR M 1 o 1 = some (o + 1) ∧ gR M 1 o 2 = some (o + 2) := by
  rw [gR_at (cd_shp h).1, gR_at (cd_shp h).1]
  rcases h.2.1 with rfl | rfl
  · rw [h.1.2 (19, 1, 20) (by decide), h.1.2 (19, 2, 21) (by decide)]; exact ⟨rfl, rfl⟩
  · rw [h.1.2 (37, 1, 38) (by decide), h.1.2 (37, 2, 39) (by decide)]; exact ⟨rfl, rfl⟩
theorem cd_g0 (h : CD M o a) : gI M 1 o 0 = some (nI (a 0)) := by rw [gI_at (cd_shp h).1, h.2.2.1]
theorem cd_deed (h : CD M o a) (hO : OkD a) {k : Nat} (hk : k < a 0) : aI M 0 (o + 1) (nI k) = some (nI (a (1 + 2 * k))) := by
  have := hO.1; have := h.2.1
  rw [aI_at (cd_shp h).2.1 (by omega) (by omega) (by omega), (h.2.2.2 k hk).1]
theorem cd_num (h : CD M o a) (hO : OkD a) {k : Nat} (hk : k < a 0) : aI M 0 (o + 2) (nI k) = some (nI (a (2 + 2 * k))) := by
  have := hO.1; have := h.2.1
  rw [aI_at (cd_shp h).2.2 (by omega) (by omega) (by omega), (h.2.2.2 k hk).2]
theorem md_rd (h : MD M a) : ∃ p, gI M 12 255 19 = some (nI p) ∧ ∀ i, i < 81 → aI M 0 256 (nI (p + i)) = some (nI (a i)) := by
  obtain ⟨h1, p, h2, h3, h4⟩ := h
  exact ⟨p, by rw [gI_at (m_shp h1), h3], fun i hi => by rw [m_all h1 (by omega), h4 i hi]⟩
theorem cl_shp (h : CL M o b) : shp M o = some (.inl 4) ∧ shp M (o + 1) = some (.inr (0, 8)) ∧ shp M (o + 2) = some (.inr (0, 8)) ∧ shp M (o + 3) = some (.inr (0, 8)) := by
  rcases h.2.1 with rfl | rfl <;> exact ⟨sk_shp h.1 (by omega) rfl, sk_shp h.1 (by omega) rfl, sk_shp h.1 (by omega) rfl, sk_shp h.1 (by omega) rfl⟩
theorem cl_r (h : CL M o b) : gR M 4 o 1 = some (o + 1) ∧ gR M 4 o 2 = some (o + 2) ∧ gR M 4 o 3 = some (o + 3) := by
  rw [gR_at (cl_shp h).1, gR_at (cl_shp h).1, gR_at (cl_shp h).1]
  rcases h.2.1 with rfl | rfl
  · rw [h.1.2 (22, 1, 23) (by decide), h.1.2 (22, 2, 24) (by decide), h.1.2 (22, 3, 25) (by decide)]; exact ⟨rfl, rfl, rfl⟩
  · rw [h.1.2 (40, 1, 41) (by decide), h.1.2 (40, 2, 42) (by decide), h.1.2 (40, 3, 43) (by decide)]; exact ⟨rfl, rfl, rfl⟩
theorem cl_g0 (h : CL M o b) : gI M 4 o 0 = some (b 0) := by rw [gI_at (cl_shp h).1, h.2.2.1]
theorem cl_at (h : CL M o b) {n k : Nat} (h0 : b 0 = nI n) (hn : n ≤ 8) (hk : k < n) : aI M 0 (o + 1) (nI k) = some (b (2 + 4 * k)) ∧ aI M 0 (o + 2) (nI k) = some (b (3 + 4 * k)) ∧ aI M 0 (o + 3) (nI k) = some (b (4 + 4 * k)) := by
  have := h.2.1
  obtain ⟨g1, g2, g3⟩ := h.2.2.2 k (by rw [h0]; exact nI_lt hk (by omega)) (by omega)
  rw [aI_at (cl_shp h).2.1 (by omega) (by omega) (by omega), aI_at (cl_shp h).2.2.1 (by omega) (by omega) (by omega), aI_at (cl_shp h).2.2.2 (by omega) (by omega) (by omega), g1, g2, g3]
  exact ⟨rfl, rfl, rfl⟩
theorem ml_rd (h : ML M b) : ∃ p, gI M 12 255 35 = some (nI p) ∧ ∀ i, i < 33 → aI M 0 256 (nI (p + i)) = some (b i) := by
  obtain ⟨h1, p, h2, h3, h4⟩ := h
  exact ⟨p, by rw [gI_at (m_shp h1), h3], fun i hi => by rw [m_all h1 (by omega), h4 i hi]⟩
end
theorem dys {M : Mem} (hI : Inv M) (x : Int32) :
    (f_X9_dayAt M 2 x = some 0 ∧ ∀ M1, Qf M M1 → f_X12_isDay M1 255 x = some (0, M1)) ∨
    (∃ o a, o ≠ 0 ∧ OkD a ∧ f_X9_dayAt M 2 x = some o ∧ CD M o a ∧ ∀ M1, Qf M M1 → ∃ M2, f_X12_isDay M1 255 x = some (1, M2) ∧ Fr (fun n k => n = 255 ∧ k = 19) M1 M2 ∧ MD M2 a) := by
  obtain ⟨hS, ⟨_, _, _, _, c, hc, _, h0, _⟩, _⟩ := hI
  have hc : cnt M 1 (c 1) := hc 1 (by omega)
  have hc2 := hc.1
  rcases io_cases x (n := c 1) (by omega) with hx | ⟨k, hk, rfl⟩
  · left
    refine ⟨?_, fun M1 hq => ?_⟩
    · unfold f_X9_dayAt
      rcases hx with hx | hx
      · rw [if_pos hx]
      · have e : aI M 0 4 1 = some (nI (c 1)) := t_cnt hS (s := 1) (by omega) hc
        simp [t_r4 hS, e, hx]
    · have e : f_X12_isOf M1 255 1 x = some 0 := m_noOf (hq.1 hS) (s := 1) (by omega) (cnt_q hq hc) hx
      simp [f_X12_isDay, ob_at (m_shp (hq.1 hS)), e]
  · right
    obtain ⟨a, hO, hm, hC⟩ := h0 k hk
    have hC : DC M (19 + 18 * k) a := by rw [show 19 + 18 * k = 2 + 17 + 18 * k by omega]; exact hC
    refine ⟨19 + 18 * k, a, by omega, hO, ?_, ⟨hS, by omega, hC⟩, fun M1 hq => ?_⟩
    · have e : aI M 0 4 1 = some (nI (c 1)) := t_cnt hS (s := 1) (by omega) hc
      obtain ⟨g1, g2⟩ := t_in hS (by omega) hc hk
      simp [f_X9_dayAt, t_r4 hS, t_r6 hS, e, g1, g2, (t_row hS (show k < 2 by omega)).2.1]
    · have hS1 := hq.1 hS
      have e : f_X12_isOf M1 255 1 (nI k) = some 1 := m_isOf hS1 (s := 1) (by omega) (cnt_q hq hc) hk
      have hm1 : MS M1 (760 + 81 * k) 81 a := fun i hi => by rw [hq.2 256 _ (by unfold zT; omega)]; have := hm i hi; rwa [show 0 + 760 + 81 * k + i = 760 + 81 * k + i by omega] at this
      have e2 : (760 : Int32) + 81 * nI k = nI (760 + 81 * k) := by
        show nI 760 + nI 81 * nI k = _
        rw [pk_mul, nI_add]
      have hF : Fr (fun n k => n = 255 ∧ k = 19) M1 (wI M1 255 19 (nI (760 + 81 * k))) := fr_wI ⟨rfl, rfl⟩
      refine ⟨_, ?_, hF, fr_sk hF hS1, 760 + 81 * k, by omega, by simp [wI], ms_cong (fun j => hF.2 256 j (by omega)) hm1⟩
      simp only [f_X12_isDay, ob_at (m_shp hS1), bb_some, e, if_neg (show ¬ (1 : Int32) = 0 by decide), f_X12_placeOf, if_true, e2, pI_at (m_shp hS1)]
theorem lgs {M : Mem} (hI : Inv M) (x : Int32) :
    (f_X9_logAt M 2 x = some 0 ∧ ∀ M1, Qf M M1 → f_X12_isLog M1 255 x = some (0, M1)) ∨
    (∃ o b, o ≠ 0 ∧ OkL b ∧ f_X9_logAt M 2 x = some o ∧ CL M o b ∧ ∀ M1, Qf M M1 → ∃ M2, f_X12_isLog M1 255 x = some (1, M2) ∧ Fr (fun n k => n = 255 ∧ k = 35) M1 M2 ∧ ML M2 b) := by
  obtain ⟨hS, ⟨_, _, _, _, c, hc, _, _, h0⟩, _⟩ := hI
  have hc : cnt M 2 (c 2) := hc 2 (by omega)
  have hc2 := hc.1
  rcases io_cases x (n := c 2) (by omega) with hx | ⟨k, hk, rfl⟩
  · left
    refine ⟨?_, fun M1 hq => ?_⟩
    · unfold f_X9_logAt
      rcases hx with hx | hx
      · rw [if_pos hx]
      · have e : aI M 0 4 2 = some (nI (c 2)) := t_cnt hS (s := 2) (by omega) hc
        simp [t_r4 hS, e, hx]
    · have e : f_X12_isOf M1 255 2 x = some 0 := m_noOf (hq.1 hS) (s := 2) (by omega) (cnt_q hq hc) hx
      simp [f_X12_isLog, ob_at (m_shp (hq.1 hS)), e]
  · right
    obtain ⟨n, hn, g0, g1, g2⟩ := h0 k hk
    rw [show 0 + 922 + 33 * k = 922 + 33 * k by omega] at g0 g2
    rw [show 2 + 20 + 18 * k = 22 + 18 * k by omega] at g1 g2
    refine ⟨22 + 18 * k, fun i => M.1 256 (922 + 33 * k + i), by omega, ⟨n, hn, g0, fun j hj => ?_⟩, ?_, ⟨hS, by omega, by rw [g1]; exact g0.symm, fun j hj h8 => ?_⟩, fun M1 hq => ?_⟩
    · obtain ⟨⟨d, d1, d2, d3⟩, e1, e2, e3⟩ := g2 j hj
      rw [e1, e2] at e3
      simp only [← Nat.add_assoc]
      exact ⟨⟨d, d1, d2⟩, e3⟩
    · have e : aI M 0 4 2 = some (nI (c 2)) := t_cnt hS (s := 2) (by omega) hc
      obtain ⟨g1, g2⟩ := t_in hS (by omega) hc hk
      simp [f_X9_logAt, t_r4 hS, t_r7 hS, e, g1, g2, (t_row hS (show k < 2 by omega)).2.2]
    · have hj : j < n := by
        have hj : nI j < M.1 256 (922 + 33 * k) := hj
        rw [g0, nI_ltI (by omega) (by omega)] at hj
        exact hj
      obtain ⟨⟨d, d1, d2, d3⟩, e1, e2, e3⟩ := g2 j hj
      simp only [← Nat.add_assoc]
      exact ⟨by rw [d3, d2], e1, e2⟩
    · have hS1 := hq.1 hS
      have e : f_X12_isOf M1 255 2 (nI k) = some 1 := m_isOf hS1 (s := 2) (by omega) (cnt_q hq hc) hk
      have e2 : (922 : Int32) + 33 * nI k = nI (922 + 33 * k) := by
        show nI 922 + nI 33 * nI k = _
        rw [pk_mul, nI_add]
      have hF : Fr (fun n k => n = 255 ∧ k = 35) M1 (wI M1 255 35 (nI (922 + 33 * k))) := fr_wI ⟨rfl, rfl⟩
      refine ⟨_, ?_, hF, fr_sk hF hS1, 922 + 33 * k, by omega, by simp [wI], fun i hi => ?_⟩
      · simp only [f_X12_isLog, ob_at (m_shp hS1), bb_some, e, if_neg (show ¬ (1 : Int32) = 0 by decide), f_X12_placeOf, if_neg (show ¬ (2 : Int32) = 0 by decide), if_neg (show ¬ (2 : Int32) = 1 by decide), e2, pI_at (m_shp hS1)]
      · rw [hF.2 256 _ (by omega), hq.2 256 _ (by unfold zT; omega)]
theorem idf_q {M M1 : Mem} {j : Nat} (h : Fr (fun n k => n = 255 ∧ k = j) M M1) : Qf M M1 := fr_q h (by unfold zT; omega)
theorem m1_n {x : Int32} (h : x = -1) : x < 0 := by subst h; decide
theorem call_deed {M : Mem} (hI : Inv M) (a1 a2 a3 : Int32)  : ∃ (r : Int32) (M1 M2 : Mem), (f_X11_deed M 1 a1 a2 a3 = some r ∧ M1 = M) ∧ shp M1 255 = some (.inl 12) ∧ f_X12_deed M1 255 a1 a2 a3 = some (r, M2) ∧ Inv M2 := by
  have hS := hI.1
  rcases dys hI a1 with ⟨e1, e2⟩ | ⟨o, a, ho, hO, e1, hC, e2⟩
  · refine ⟨-2, M, M, ⟨?_, rfl⟩, m_shp hS, ?_, hI⟩
    · simp [f_X11_deed, d_r0 hS, t_ob hS, e1]
    · simp [f_X12_deed, ob_at (m_shp hS), e2 M qf_refl]
  · obtain ⟨M2, e3, hF, hM⟩ := e2 M qf_refl
    have hI2 := inv_q hI (idf_q hF)
    have hS2 := hI2.1
    obtain ⟨p, p1, p2⟩ := md_rd hM
    have p0 := p2 0 (by omega)
    rw [Nat.add_zero] at p0
    have h40 := hO.1
    suffices H : ∃ r, f_X11_deed M 1 a1 a2 a3 = some r ∧ f_X12_deed M 255 a1 a2 a3 = some (r, M2) by
      obtain ⟨r, r1, r2⟩ := H
      exact ⟨r, M, M2, ⟨r1, rfl⟩, m_shp hS, r2, hI2⟩
    by_cases hm1 : a2 = -1
    · by_cases h3 : a3 = 0
      · exact ⟨nI (a 0), by simp [f_X11_deed, d_r0 hS, t_ob hS, e1, ho, hm1, h3, cd_g0 hC], by simp [f_X12_deed, ob_at (m_shp hS), e3, hm1, h3, m_r0 hS2, p1, p0]⟩
      · have := m1_n hm1
        exact ⟨-2, by simp [f_X11_deed, d_r0 hS, t_ob hS, e1, ho, hm1, h3, f_X11_deed_J33, ob_at (cd_shp hC).1, f_X1_tell], by simp [f_X12_deed, ob_at (m_shp hS), e3, hm1, h3]⟩
    · have cc : f_X11_deed M 1 a1 a2 a3 = f_X1_tell M o a2 a3 := by
        simp only [f_X11_deed, d_r0 hS, t_ob hS, e1, bb_some, if_neg ho, if_neg hm1, f_X11_deed_J33, ob_at (cd_shp hC).1]
        cases f_X1_tell M o a2 a3 <;> rfl
      rw [cc]
      rcases io_cases a2 (n := a 0) (by omega) with hx | ⟨k, hk, rfl⟩
      · refine ⟨-2, ?_, by simp [f_X12_deed, ob_at (m_shp hS), e3, hm1, m_r0 hS2, p1, p0, ii_out M2 hx (show a 0 < 2 ^ 30 by omega)]⟩
        unfold f_X1_tell
        rcases hx with hx | hx
        · rw [if_pos hx]
        · simp [cd_g0 hC, hx]
      · have g1 : ¬ nI k < 0 := nI_pos (by omega)
        have g2 : ¬ nI (a 0) ≤ nI k := nI_ge hk (by omega)
        have i1 := ii_in M2 hk (show a 0 < 2 ^ 30 by omega)
        rcases io_cases a3 (n := 2) (by omega) with hx | ⟨j, hj, rfl⟩
        · have i2 := ii_out M2 hx (by omega)
          rw [show nI 2 - 1 = 1 from rfl] at i2
          refine ⟨-2, ?_, by simp [f_X12_deed, ob_at (m_shp hS), e3, hm1, m_r0 hS2, p1, p0, i1, i2]⟩
          rcases hx with hx | hx
          · simp [f_X1_tell, g1, g2, cd_g0 hC, hx]
          · have : ¬ a3 ≤ 1 := by
              rw [Int32.le_iff_toInt_le] at hx ⊢
              have : (nI 2).toInt = 2 := rfl
              have : (1 : Int32).toInt = 1 := rfl
              omega
            simp [f_X1_tell, g1, g2, cd_g0 hC, this]
        · have i2 := ii_in M2 hj (by omega)
          rw [show nI 2 - 1 = 1 from rfl] at i2
          have e4 : nI p + 1 + 2 * nI k + nI j = nI (p + (1 + 2 * k + j)) := by
            show nI p + nI 1 + nI 2 * nI k + nI j = _
            rw [pk_mul, nI_add, nI_add, nI_add]
            congr 1; omega
          refine ⟨nI (a (1 + 2 * k + j)), ?_, by simp [f_X12_deed, ob_at (m_shp hS), e3, hm1, m_r0 hS2, p1, p0, i1, i2, e4, p2 (1 + 2 * k + j) (by omega)]⟩
          rcases (show j = 0 ∨ j = 1 by omega) with rfl | rfl
          · rw [nI_0]
            simp [f_X1_tell, g1, g2, cd_g0 hC, (cd_r hC).1, cd_deed hC hO hk]
          · rw [show nI 1 = 1 from rfl, show 1 + 2 * k + 1 = 2 + 2 * k by omega]
            simp [f_X1_tell, g1, g2, cd_g0 hC, (cd_r hC).2, cd_num hC hO hk]
theorem call_fact {M : Mem} (hI : Inv M) (a1 a2 a3 : Int32)  : ∃ (r : Int32) (M1 M2 : Mem), (f_X11_fact M 1 a1 a2 a3 = some r ∧ M1 = M) ∧ shp M1 255 = some (.inl 12) ∧ f_X12_fact M1 255 a1 a2 a3 = some (r, M2) ∧ Inv M2 := by
  have hS := hI.1
  rcases lgs hI a1 with ⟨e1, e2⟩ | ⟨o, b, ho, ⟨n, hn, b0, hb⟩, e1, hC, e2⟩
  · refine ⟨-2, M, M, ⟨?_, rfl⟩, m_shp hS, ?_, hI⟩
    · simp [f_X11_fact, d_r0 hS, t_ob hS, e1]
    · simp [f_X12_fact, ob_at (m_shp hS), e2 M qf_refl]
  · obtain ⟨M2, e3, hF, hM⟩ := e2 M qf_refl
    have hI2 := inv_q hI (idf_q hF)
    have hS2 := hI2.1
    obtain ⟨p, p1, p2⟩ := ml_rd hM
    have p0 := p2 0 (by omega)
    rw [Nat.add_zero, b0] at p0
    have cg := cl_g0 hC
    rw [b0] at cg
    suffices H : ∃ r, f_X11_fact M 1 a1 a2 a3 = some r ∧ f_X12_fact M 255 a1 a2 a3 = some (r, M2) by
      obtain ⟨r, r1, r2⟩ := H
      exact ⟨r, M, M2, ⟨r1, rfl⟩, m_shp hS, r2, hI2⟩
    by_cases hm1 : a2 = -1
    · by_cases h3 : a3 = 0
      · exact ⟨nI n, by simp [f_X11_fact, d_r0 hS, t_ob hS, e1, ho, hm1, h3, cg], by simp [f_X12_fact, ob_at (m_shp hS), e3, hm1, h3, m_r0 hS2, p1, p0]⟩
      · exact ⟨-2, by simp [f_X11_fact, d_r0 hS, t_ob hS, e1, ho, hm1, h3, f_X11_fact_J33, ob_at (cl_shp hC).1, f_X4_tell], by simp [f_X12_fact, ob_at (m_shp hS), e3, hm1, h3]⟩
    · have cc : f_X11_fact M 1 a1 a2 a3 = f_X4_tell M o a2 a3 := by
        simp only [f_X11_fact, d_r0 hS, t_ob hS, e1, bb_some, if_neg ho, if_neg hm1, f_X11_fact_J33, ob_at (cl_shp hC).1]
        cases f_X4_tell M o a2 a3 <;> rfl
      rw [cc]
      rcases io_cases a2 (n := n) (by omega) with hx | ⟨k, hk, rfl⟩
      · refine ⟨-2, ?_, by simp [f_X12_fact, ob_at (m_shp hS), e3, hm1, m_r0 hS2, p1, p0, ii_out M2 hx (show n < 2 ^ 30 by omega)]⟩
        unfold f_X4_tell
        rcases hx with hx | hx
        · rw [if_pos hx]
        · have hx' : ¬ a2 < nI n := by rw [Int32.le_iff_toInt_le] at hx; rw [Int32.lt_iff_toInt_lt]; omega
          simp [cg, hx']
      · have g1 : ¬ nI k < 0 := nI_pos (by omega)
        have g2 : nI k < nI n := nI_lt hk (by omega)
        have i1 := ii_in M2 hk (show n < 2 ^ 30 by omega)
        obtain ⟨q1, q2, q3⟩ := cl_at hC b0 hn hk
        rcases io_cases a3 (n := 4) (by omega) with hx | ⟨j, hj, rfl⟩
        · have i2 := ii_out M2 hx (by omega)
          rw [show nI 4 - 1 = 3 from rfl] at i2
          refine ⟨-2, ?_, by simp [f_X12_fact, ob_at (m_shp hS), e3, hm1, m_r0 hS2, p1, p0, i1, i2]⟩
          have z : ∀ j, j < 4 → ¬ a3 = nI j := fun j hj e => by
            subst e
            rcases hx with hx | hx
            · exact nI_pos (by omega) hx
            · exact nI_ge hj (by omega) hx
          have z0 : ¬ a3 = 0 := z 0 (by omega)
          have z1 : ¬ a3 = 1 := z 1 (by omega)
          have z2 : ¬ a3 = 2 := z 2 (by omega)
          have z3 : ¬ a3 = 3 := z 3 (by omega)
          simp [f_X4_tell, g1, g2, cg, z0, z1, z2, z3]
        · have i2 := ii_in M2 hj (by omega)
          rw [show nI 4 - 1 = 3 from rfl] at i2
          have e4 : nI p + 1 + 4 * nI k + nI j = nI (p + (1 + 4 * k + j)) := by
            show nI p + nI 1 + nI 4 * nI k + nI j = _
            rw [pk_mul, nI_add, nI_add, nI_add]
            congr 1; omega
          refine ⟨b (1 + 4 * k + j), ?_, by simp [f_X12_fact, ob_at (m_shp hS), e3, hm1, m_r0 hS2, p1, p0, i1, i2, e4, p2 (1 + 4 * k + j) (by omega)]⟩
          rcases (show j = 0 ∨ j = 1 ∨ j = 2 ∨ j = 3 by omega) with rfl | rfl | rfl | rfl
          · rw [nI_0, Nat.add_zero]
            rcases (hb k hk).2 with ⟨u1, u2, u3⟩ | ⟨u1, w, r, w1, r1, r2, u2, u3⟩
            · simp [f_X4_tell, g1, g2, cg, (cl_r hC).2.1, q2, u1, u2]
            · have : ¬ nI w = -1 := fun h => nI_pos (n := w) (by omega) (by rw [h]; decide)
              simp [f_X4_tell, g1, g2, cg, (cl_r hC).2.1, q2, u1, u2, this]
          · rw [show nI 1 = 1 from rfl, show 1 + 4 * k + 1 = 2 + 4 * k by omega]
            simp [f_X4_tell, g1, g2, cg, (cl_r hC).1, q1]
          · rw [show nI 2 = 2 from rfl, show 1 + 4 * k + 2 = 3 + 4 * k by omega]
            simp [f_X4_tell, g1, g2, cg, (cl_r hC).2.1, q2]
          · rw [show nI 3 = 3 from rfl, show 1 + 4 * k + 3 = 4 + 4 * k by omega]
            simp [f_X4_tell, g1, g2, cg, (cl_r hC).2.2, q3]
/-- those of m and those who hear one of them -/
def whs (a : Nat → Nat) (m : Nat) : Nat := fo (fun s v => if m.testBit s = true then v ||| hb a s else v) (a 0) m
theorem whs_lt {a : Nat → Nat} {m : Nat} (hm : m < 2 ^ a 0) : whs a m < 2 ^ a 0 := fo_inv (fun _ v => v < 2 ^ a 0) hm (fun s v hs hv => by
  show (if m.testBit s = true then v ||| hb a s else v) < 2 ^ a 0
  split
  · exact or_lt hv (hb_lt s)
  · exact hv)
theorem c_with {M : Mem} {o : Nat} {a : Nat → Nat} (hC : CO M o a) (hO : OkO a) {m : Nat} (hm : m < 2 ^ a 0) : f_X5_withHearers M o (nI m) = some (nI (whs a m)) := by
  have h8 := hO.1.1
  have p8 := pw8 h8
  have e : f_X5_withHearers_L4 M o (nI m) (nI m) 0 = some (nI (whs a m)) := by
    refine lp (α := Nat) (a 0) _ nI nI m (fun i v hi => ?_) (fun v => ?_) (by omega)
    · simp only [f_X5_withHearers_B4, co_g0 hC, if_neg (nI_ge hi (show a 0 < 2 ^ 31 by omega)), bb_some, bit_0 (show m < 2 ^ 31 by omega) (show i < 32 by omega), co_r13 hC, co_hear hC hO hi, or_at]
      by_cases hb : m.testBit i = true
      · rw [if_neg (by rw [hb]; decide), if_pos hb]
      · rw [if_pos (by simpa using hb), if_neg hb]
    · simp [f_X5_withHearers_B4, co_g0 hC]
  simp [f_X5_withHearers, e]
theorem hb_or {a : Nat → Nat} (d v : Nat) : fo (fun s acc => if hr a s d = true then acc ||| 2 ^ s else acc) (a 0) v = v ||| hb a d := by
  refine Nat.eq_of_testBit_eq (fun i => ?_)
  rw [fo_or (p := fun s => hr a s d), Nat.testBit_or, hb_bit]
theorem mo_with {M : Mem} {a : Nat → Nat} (hM : MO M a) (hO : OkO a) {m : Nat} (hm : m < 2 ^ a 0) (x3 x5 : Int32) : f_X12_passed_L60 M 255 x3 (nI m) x5 (nI m) 0 = some (nI (whs a m)) := by
  have h8 := hO.1.1
  have p8 := pw8 h8
  refine lp (α := Nat) (a 0) _ nI nI m (fun i v hi => ?_) (fun v => ?_) (by omega)
  · have e : f_X12_passed_L72 M 255 x3 (nI m) x5 (nI i) (nI v) 0 = some (nI (if m.testBit i = true then v ||| hb a i else v)) := by
      by_cases hb : m.testBit i = true
      · rw [if_pos hb, ← hb_or i v]
        refine lp (α := Nat) (a 0) _ nI nI v (fun j w hj => ?_) (fun w => ?_) (by omega)
        · simp only [f_X12_passed_B72, mo_g12 hM, if_neg (nI_ge hj (show a 0 < 2 ^ 31 by omega)), bb_some, m_holds M (show m < 2 ^ 31 by omega) (show i < 32 by omega), if_pos hb, mo_ob hM, mo_hears hM hO hj hi, if_neg (show ¬ (1 : Int32) = 0 by decide), one_sl (show j < 32 by omega), or_at]
          by_cases hh : hr a j i = true
          · simp [hh]
          · simp [hh]
        · simp [f_X12_passed_B72, mo_g12 hM]
      · rw [if_neg hb]
        have := lp (f := fun s : Int32 × Int32 => f_X12_passed_B72 M 255 x3 (nI m) x5 (nI i) s.1 s.2) (α := Nat) (a 0) (fun _ w => w) nI nI v (fun j w hj => by
          simp only [f_X12_passed_B72, mo_g12 hM, if_neg (nI_ge hj (show a 0 < 2 ^ 31 by omega)), bb_some, m_holds M (show m < 2 ^ 31 by omega) (show i < 32 by omega), if_neg hb, if_true]
          rw [show nI w ||| 0 = nI w by rw [show (0 : Int32) = nI 0 from rfl, or_at, Nat.or_zero]]) (fun w => by simp [f_X12_passed_B72, mo_g12 hM]) (by omega)
        rw [show fo (fun _ w => w) (a 0) v = v from fo_inv (fun _ w => w = v) rfl (fun _ w _ h => h)] at this
        exact this
    simp only [f_X12_passed_B60, mo_g12 hM, if_neg (nI_ge hi (show a 0 < 2 ^ 31 by omega)), bb_some, e]
  · simp [f_X12_passed_B60, mo_g12 hM]
theorem call_passed {M : Mem} (hI : Inv M) (a1 a2 a3 : Int32)  : ∃ (r : Int32) (M1 M2 : Mem), (f_X11_passed M 1 a1 a2 a3 = some r ∧ M1 = M) ∧ shp M1 255 = some (.inl 12) ∧ f_X12_passed M1 255 a1 a2 a3 = some (r, M2) ∧ Inv M2 := by
  have hS := hI.1
  exact qp hI a1 (fC := f_X11_passed M 1 a1 a2 a3) (fM := fun M => f_X12_passed M 255 a1 a2 a3) (bad := -1) (fun e1 e2 => ⟨by simp [f_X11_passed, d_r0 hS, t_ob hS, e1], by simp [f_X12_passed, ob_at (m_shp hS), e2]⟩) (fun o a M2 ho hO e1 hC e3 hM => by
    have h8 := hO.1.1
    have p8 := pw8 h8
    rcases io_cases a2 (n := a 0) (by omega) with hx | ⟨s, hs, rfl⟩
    · exact ⟨-1, by simp [f_X11_passed, d_r0 hS, t_ob hS, e1, ho, ob_at (co_shp hC), c_noDesk hC hx], M2, by simp [f_X12_passed, ob_at (m_shp hS), e3, mo_ob hM, mo_noDesk hM hO hx], qf_refl⟩
    rcases io_cases a3 (n := a 0) (by omega) with hx | ⟨d, hd, rfl⟩
    · exact ⟨-1, by simp [f_X11_passed, d_r0 hS, t_ob hS, e1, ho, ob_at (co_shp hC), c_hasDesk hC hO hs, c_noDesk hC hx], M2, by simp [f_X12_passed, ob_at (m_shp hS), e3, mo_ob hM, mo_isDesk hM hO hs, mo_noDesk hM hO hx], qf_refl⟩
    have hb : ∀ m i, m < 2 ^ a 0 → f_X5_passesBetween_B7 M o (nI d) (nI m) i = f_X12_passed_B34 M2 255 (nI d) (nI m) i := fun m i hm => by
      simp only [f_X5_passesBetween_B7, f_X12_passed_B34, ob_at (co_shp hC), c_with hC hO hm, mo_with hM hO hm, bb_some, bit_0 (show m < 2 ^ 31 by omega) (show d < 32 by omega), m_holds M2 (show m < 2 ^ 31 by omega) (show d < 32 by omega)]
      by_cases hh : m.testBit d = true
      · simp [hh]
      · simp [hh]
    have hl : f_X5_passesBetween_L7 M o (nI d) (nI (2 ^ s)) 0 = f_X12_passed_L34 M2 255 (nI d) (nI (2 ^ s)) 0 := by
      refine iter_cg (fun t => ∃ m, m < 2 ^ a 0 ∧ t.1 = nI m) (fun t ⟨m, hm, ht⟩ => ?_) 1048576 (nI (2 ^ s), 0) ⟨2 ^ s, pw_lt hs, rfl⟩
      obtain ⟨t1, t2⟩ := t
      have ht : t1 = nI m := ht
      subst ht
      refine ⟨hb m t2 hm, fun s' h => ?_⟩
      have h : f_X5_passesBetween_B7 M o (nI d) (nI m) t2 = some (.inl s') := h
      simp only [f_X5_passesBetween_B7, ob_at (co_shp hC), c_with hC hO hm, bb_some] at h
      split at h
      · cases h
      · split at h
        · cases h
          exact ⟨_, whs_lt hm, rfl⟩
        · cases h
    have hr : ∃ r, f_X5_passesBetween_L7 M o (nI d) (nI (2 ^ s)) 0 = some r := by
      obtain ⟨r, h, -⟩ := iter_rel (f := fun s : Int32 × Int32 => f_X5_passesBetween_B7 M o (nI d) s.1 s.2) 8 (fun i t => ∃ m, m < 2 ^ a 0 ∧ t = (nI m, nI i)) (fun _ => True) (fun i t hi ⟨m, hm, ht⟩ => by
        subst ht
        have h8' : ¬ 8 ≤ nI i := nI_ge (b := 8) hi (by omega)
        simp only [f_X5_passesBetween_B7, if_neg h8', ob_at (co_shp hC), c_with hC hO hm, bb_some]
        split
        · exact Or.inl ⟨_, rfl, _, whs_lt hm, by rw [nI_1]⟩
        · exact Or.inr ⟨_, rfl, trivial⟩) (fun t ⟨m, hm, ht⟩ => by
        subst ht
        exact ⟨.inr (), by simp [f_X5_passesBetween_B7, show nI 8 = 8 from rfl], trivial⟩) 1048576 0 (nI (2 ^ s), 0) (by omega) ⟨2 ^ s, pw_lt hs, rfl⟩ (by omega)
      exact ⟨r, h⟩
    obtain ⟨r, hr⟩ := hr
    have hr2 := hl ▸ hr
    have o1 : (1 : Int32) <<< (nI s &&& 31) = nI (2 ^ s) := one_sl (by omega)
    cases r with
    | inl r => exact ⟨r, by simp [f_X11_passed, d_r0 hS, t_ob hS, e1, ho, ob_at (co_shp hC), c_hasDesk hC hO hs, c_hasDesk hC hO hd, f_X5_passesBetween, o1, hr], M2, by simp [f_X12_passed, ob_at (m_shp hS), e3, mo_ob hM, mo_isDesk hM hO hs, mo_isDesk hM hO hd, o1, hr2], qf_refl⟩
    | inr r => exact ⟨-1, by simp [f_X11_passed, d_r0 hS, t_ob hS, e1, ho, ob_at (co_shp hC), c_hasDesk hC hO hs, c_hasDesk hC hO hd, f_X5_passesBetween, o1, hr], M2, by simp [f_X12_passed, ob_at (m_shp hS), e3, mo_ob hM, mo_isDesk hM hO hs, mo_isDesk hM hO hd, o1, hr2], qf_refl⟩)
