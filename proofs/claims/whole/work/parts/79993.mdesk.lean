/-! the model reads a line: a desk's -/
section
variable {M M' N : Mem} {k r v : Nat → Nat} {n p i w s c x j : Nat} {F : Nat × Int32}
/-- after j numbers: all of them there, or broken -/
def W4 (M : Mem) (k : Nat → Nat) (n i j : Nat) (F : Nat × Int32) : Prop := (nums k i j ∧ MtG M k n (i + 1 + j) F) ∨ (∃ q, q < j ∧ nums k i q ∧ tD k (i + 1 + q) ≠ 1 ∧ MtB M k n (i + 1 + q))
def PF (F : Nat × Int32) (q : Nat) : Prop := F.1 ≠ 0 → ∃ a, F.2 = nI a ∧ a < q
theorem pf_fb (h : PF F x) : FtB F c x := fun hh => by obtain ⟨a, h1, h2⟩ := h hh; exact ⟨a, h1, Or.inl h2⟩
theorem pf_mk (h : PF F x) (hx : x < p) (q : Nat) (hq : q < p) : PF (mkF F c (nI q)) p := by
  intro hh
  unfold mkF at hh ⊢
  by_cases h0 : F.1 = 0
  · rw [if_pos h0]; exact ⟨q, rfl, hq⟩
  · rw [if_neg h0]; obtain ⟨a, h1, h2⟩ := h h0; exact ⟨a, h1, by omega⟩
theorem pf_up (h : PF F x) (hx : x ≤ p) : PF F p := fun hh => by obtain ⟨a, h1, h2⟩ := h hh; exact ⟨a, h1, by omega⟩
theorem pf_mn (h : PF F x) (hx : x < p) {a b u : Nat} : PF (mnF F a b u x) p := by
  unfold mnF
  by_cases hr : a ≤ u ∧ u ≤ b
  · rw [if_pos hr]; exact pf_up h (by omega)
  · rw [if_neg hr]; exact pf_mk h hx x hx
theorem pf_fl (hT : TX k n) (h : PF F (tA k (i + 1))) : ∀ j, nums k i j → PF (fl k i w F j) (tA k (i + 1 + j)) := by
  intro j
  induction j with
  | zero => intro _; exact h
  | succ j ih =>
    intro hn
    have h1 := ih (fun q hq => hn q (by omega))
    have h2 := (tA_lt hT (i := i + 1 + j) (by have := hn j (by omega); omega)).1
    unfold fl
    by_cases hr : okb w (lv k i) j = true
    · rw [if_pos hr]; exact pf_up h1 (Nat.le_of_lt h2)
    · rw [if_neg hr]; exact pf_mk h1 h2 _ h2
theorem m_numj (h : W4 M k n i j F) (hB : nums k i j → PF F (tA k (i + 1 + j))) {a b : Nat} (ha : a ≤ b) (hb : b ≤ 99) : ∃ y M', f_X12_numbered M 255 (nI a) (nI b) = some (nI y, M') ∧ Fr Sm7 M M' ∧ (a ≤ y ∧ y ≤ b) ∧ (nums k i (j + 1) → y = mcl a b (tV k (i + 1 + j))) ∧ W4 M' k n i (j + 1) (mnF F a b (tV k (i + 1 + j)) (tA k (i + 1 + j))) := by
  have hcl : ∀ u, a ≤ mcl a b u ∧ mcl a b u ≤ b := by
    intro u
    unfold mcl
    by_cases hr : a ≤ u ∧ u ≤ b
    · rw [if_pos hr]; exact hr
    · rw [if_neg hr]; omega
  rcases h with ⟨h1, h2⟩ | ⟨q, h1, h2, h3, h4⟩
  · obtain ⟨z, M1, b1, b2, b3⟩ := m_num h2 (pf_fb (hB h1)) (a := a) (b := b) (by omega) hb
    rcases b3 with ⟨b3, b4, b5⟩ | ⟨b3, b4, b5⟩
    · subst b4
      refine ⟨_, M1, b1, b2, hcl _, fun _ => rfl, Or.inl ⟨fun q hq => ?_, b5⟩⟩
      rcases Nat.eq_or_lt_of_le (show q ≤ j by omega) with e | e
      · rw [e]; exact b3
      · exact h1 q e
    · subst b4
      exact ⟨_, M1, b1, b2, ⟨Nat.le_refl _, ha⟩, fun hh => absurd (hh j (by omega)) b3, Or.inr ⟨j, by omega, h1, b3, b5⟩⟩
  · exact ⟨_, M, m_num1 h4 _ _, fr_refl, ⟨Nat.le_refl _, ha⟩, fun hh => absurd (hh q (by omega)) h3, Or.inr ⟨q, by omega, h2, h3, h4⟩⟩
theorem fl_mn (h : ¬ (w = 13 ∧ j = 1)) : fl k i w F (j + 1) = mnF (fl k i w F j) (lo w j) (hi w j) (tV k (i + 1 + j)) (tA k (i + 1 + j)) := by
  show (if okb w (lv k i) j = true then fl k i w F j else mkF (fl k i w F j) 2 (nI (tA k (i + 1 + j)))) = _
  unfold mnF
  by_cases hr : lo w j ≤ tV k (i + 1 + j) ∧ tV k (i + 1 + j) ≤ hi w j
  · rw [if_pos (okb_iff.mpr ⟨hr.1, hr.2, fun hh => h ⟨hh.1, hh.2.1⟩⟩), if_pos hr]
  · rw [if_neg (fun hh => hr ⟨(okb_iff.mp hh).1, (okb_iff.mp hh).2.1⟩), if_neg hr]
theorem mk_nz {c : Nat} {q : Int32} (hc : 0 < c) : ¬ (mkF F c q).1 = 0 := by
  unfold mkF
  by_cases h0 : F.1 = 0
  · rw [if_pos h0]; show ¬ c = 0; omega
  · rw [if_neg h0]; exact h0
theorem fl_ok {w : Nat} : ∀ m, (fl k i w F m).1 = 0 → ∀ j, j < m → okn w (lv k i) j := by
  intro m
  induction m with
  | zero => intro _ j hj; omega
  | succ m ih =>
    intro hh j hj
    have hh2 : (if okb w (lv k i) m = true then fl k i w F m else mkF (fl k i w F m) 2 (nI (tA k (i + 1 + m)))).1 = 0 := hh
    by_cases hr : okb w (lv k i) m = true
    · rw [if_pos hr] at hh2
      rcases Nat.eq_or_lt_of_le (show j ≤ m by omega) with e | e
      · rw [e]; exact okb_iff.mp hr
      · exact ih hh2 j e
    · rw [if_neg hr] at hh2; exact absurd hh2 (mk_nz (by omega))
theorem rwS (h : Sk N) {x : Nat} (hx : x < 81) (v : Int32) : sI N 0 258 (nI x) v = some (wI N 258 x v) := by rw [sI_at (m_s258 h) hx (by omega), nar0]
theorem rwG (h : Sk N) {x : Nat} (hx : x < 81) : aI N 0 258 (nI x) = some (N.1 258 x) := aI_at (m_s258 h) hx (by omega) (by omega)
/-- the model's row of what is read -/
def RW (M : Mem) (s : Nat) (F : Nat × Int32) (r : Nat → Nat) : Prop := (∃ c, M.1 258 0 = nI c ∧ c ≤ (if s = 1 then 40 else 8)) ∧ (s = 0 → ∃ c, M.1 258 1 = nI c ∧ c ≤ 10) ∧ (F.1 = 0 → ∀ x, x < 81 → M.1 258 x = nI (r x))
def SMl (a b : Nat) : Prop := Sm7 a b ∨ a = 258 ∨ (a = 255 ∧ b = 9)
theorem mt_258 (h : MT M k n) (hF : Fr (fun a b => a = 258 ∨ (a = 255 ∧ b = 9)) M M') : MT M' k n := by
  obtain ⟨h1, h2, h3, h4⟩ := h
  refine ⟨fr_sk hF h1, ?_, h3, fun i hi => ?_⟩
  · rw [hF.2 255 2 (by omega)]; exact h2
  · rw [hF.2 256 (10 + i) (by omega)]; exact h4 i hi
theorem w4_258 (h : W4 M k n i j F) (hF : Fr (fun a b => a = 258 ∨ (a = 255 ∧ b = 9)) M M') : W4 M' k n i j F := by
  have g : ∀ x, x ≠ 9 → M'.1 255 x = M.1 255 x := fun x hx => hF.2 255 x (by omega)
  have g6 : ∀ x, M'.1 256 x = M.1 256 x := fun x => hF.2 256 x (by omega)
  rcases h with ⟨h1, ⟨a1, a2, a3, a4, a5, a6⟩, a7, a8⟩ | ⟨q, h1, h2, h3, b1, b2, b3, b4⟩
  · exact Or.inl ⟨h1, ⟨mt_258 a1 hF, by rw [g 4 (by omega)]; exact a2, by rw [g 3 (by omega)]; exact a3, by rw [g 5 (by omega)]; exact a4, fun e => by rw [g 6 (by omega)]; exact a5 e, fun e => by rw [g 7 (by omega)]; exact a6 e⟩, by rw [g 8 (by omega)]; exact a7, by rw [g6]; exact a8.1, by rw [g6]; exact a8.2.1, a8.2.2⟩
  · exact Or.inr ⟨q, h1, h2, h3, mt_258 b1 hF, by rw [g 8 (by omega)]; exact b2, by rw [g6]; exact b3, by rw [g6]; exact b4⟩
theorem w4_sk (h : W4 M k n i j F) : Sk M := by
  rcases h with ⟨_, h⟩ | ⟨q, _, _, _, h⟩
  · exact h.1.1.1
  · exact h.1.1
/-- the place for a line, and the fault then -/
theorem m_room (h : MtG M k n (i + 1) F) (hT : TX k n) (hP : PF F (tA k i)) (hA : tA k i < tA k (i + 1)) : ∃ M', f_X12_also M 255 3 (nI (tA k i)) = some M' ∧ Fr S56 M M' ∧ MtG M' k n (i + 1) (mkF F 3 (nI (tA k i))) ∧ PF (mkF F 3 (nI (tA k i))) (tA k (i + 1)) := by
  have hle := tA_le hT i
  have hn := hT.1
  obtain ⟨M1, c1, c2, c3⟩ := m_also h.1.1.1 h.2.1 h.2.2 (c := 3) (by omega) (show tA k i ≤ 600 by omega) (pf_fb hP)
  exact ⟨M1, c1, c3, ⟨mtk_56 h.1 c3, by rw [c3.2 255 8 (by unfold S56; omega)]; exact h.2.1, c2⟩, pf_mk hP hA _ hA⟩
end
