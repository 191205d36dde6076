/-! the model's tokens -/
theorem lN_inj {a b : Nat} (ha : a < 2 ^ 63) (hb : b < 2 ^ 63) (h : lN a = lN b) : a = b := by
  have h1 : (lN a).toInt = a := lg_ofNat_toInt (by omega)
  have h2 : (lN b).toInt = b := lg_ofNat_toInt (by omega)
  rw [h] at h1
  omega
def wf (c : Nat) : Nat := if c = 17171758 then 0 else if c = 638164 then 1 else if c = 136230 then 2 else if c = 197938 then 3 else if c = 463922 then 4 else if c = 99724 then 5 else if c = 5170 then 6 else if c = 13995615685 then 7 else if c = 197765 then 8 else if c = 599495 then 9 else if c = 56377 then 10 else if c = 66667 then 11 else if c = 594980 then 12 else if c = 647370196 then 14 else if c = 412307620 then 13 else 99
def mc (w : Nat) : Nat := if w = 99 then 99 else if w = 13 then 15 else if w = 14 then 14 else w + 1
def wcd (w : Nat) : Nat := cd (wc w) (wlen w)
theorem wf_wcd : ∀ w, w < 15 → wf (wcd w) = w := by decide +kernel
theorem wf_c (c : Nat) : (wf c < 15 ∧ c = wcd (wf c)) ∨ wf c = 99 := by
  unfold wf
  by_cases h0 : c = 17171758
  · rw [if_pos h0]; exact Or.inl ⟨by omega, h0.trans (by decide +kernel)⟩
  rw [if_neg h0]
  by_cases h1 : c = 638164
  · rw [if_pos h1]; exact Or.inl ⟨by omega, h1.trans (by decide +kernel)⟩
  rw [if_neg h1]
  by_cases h2 : c = 136230
  · rw [if_pos h2]; exact Or.inl ⟨by omega, h2.trans (by decide +kernel)⟩
  rw [if_neg h2]
  by_cases h3 : c = 197938
  · rw [if_pos h3]; exact Or.inl ⟨by omega, h3.trans (by decide +kernel)⟩
  rw [if_neg h3]
  by_cases h4 : c = 463922
  · rw [if_pos h4]; exact Or.inl ⟨by omega, h4.trans (by decide +kernel)⟩
  rw [if_neg h4]
  by_cases h5 : c = 99724
  · rw [if_pos h5]; exact Or.inl ⟨by omega, h5.trans (by decide +kernel)⟩
  rw [if_neg h5]
  by_cases h6 : c = 5170
  · rw [if_pos h6]; exact Or.inl ⟨by omega, h6.trans (by decide +kernel)⟩
  rw [if_neg h6]
  by_cases h7 : c = 13995615685
  · rw [if_pos h7]; exact Or.inl ⟨by omega, h7.trans (by decide +kernel)⟩
  rw [if_neg h7]
  by_cases h8 : c = 197765
  · rw [if_pos h8]; exact Or.inl ⟨by omega, h8.trans (by decide +kernel)⟩
  rw [if_neg h8]
  by_cases h9 : c = 599495
  · rw [if_pos h9]; exact Or.inl ⟨by omega, h9.trans (by decide +kernel)⟩
  rw [if_neg h9]
  by_cases h10 : c = 56377
  · rw [if_pos h10]; exact Or.inl ⟨by omega, h10.trans (by decide +kernel)⟩
  rw [if_neg h10]
  by_cases h11 : c = 66667
  · rw [if_pos h11]; exact Or.inl ⟨by omega, h11.trans (by decide +kernel)⟩
  rw [if_neg h11]
  by_cases h12 : c = 594980
  · rw [if_pos h12]; exact Or.inl ⟨by omega, h12.trans (by decide +kernel)⟩
  rw [if_neg h12]
  by_cases h14 : c = 647370196
  · rw [if_pos h14]; exact Or.inl ⟨by omega, h14.trans (by decide +kernel)⟩
  rw [if_neg h14]
  by_cases h13 : c = 412307620
  · rw [if_pos h13]; exact Or.inl ⟨by omega, h13.trans (by decide +kernel)⟩
  rw [if_neg h13]
  exact Or.inr rfl
theorem wf_iff {c w : Nat} (hw : w < 15) : wf c = w ↔ c = wcd w := by
  constructor
  · intro h
    rcases wf_c c with h1 | h1
    · rw [← h]; exact h1.2
    · omega
  · intro h; rw [h]; exact wf_wcd w hw
theorem wo0 (M : Mem) : f_X12_eight M 0 0 0 16 12 1 9 14 = some (lN 17171758) := by
  simp only [f_X12_eight, f_X12_four, bb_some]
  exact congrArg some (by decide +kernel)
theorem wo1 (M : Mem) : f_X12_four M 19 15 6 20 = some (lN 638164) := by
  simp only [f_X12_eight, f_X12_four, bb_some]
  exact congrArg some (by decide +kernel)
theorem wo2 (M : Mem) : f_X12_four M 4 5 1 6 = some (lN 136230) := by
  simp only [f_X12_eight, f_X12_four, bb_some]
  exact congrArg some (by decide +kernel)
theorem wo3 (M : Mem) : f_X12_four M 6 1 9 18 = some (lN 197938) := by
  simp only [f_X12_eight, f_X12_four, bb_some]
  exact congrArg some (by decide +kernel)
theorem wo4 (M : Mem) : f_X12_four M 14 5 1 18 = some (lN 463922) := by
  simp only [f_X12_eight, f_X12_four, bb_some]
  exact congrArg some (by decide +kernel)
theorem wo5 (M : Mem) : f_X12_four M 3 1 12 12 = some (lN 99724) := by
  simp only [f_X12_eight, f_X12_four, bb_some]
  exact congrArg some (by decide +kernel)
theorem wo6 (M : Mem) : f_X12_four M 0 5 1 18 = some (lN 5170) := by
  simp only [f_X12_eight, f_X12_four, bb_some]
  exact congrArg some (by decide +kernel)
theorem wo7 (M : Mem) : f_X12_eight M 0 13 1 3 8 9 14 5 = some (lN 13995615685) := by
  simp only [f_X12_eight, f_X12_four, bb_some]
  exact congrArg some (by decide +kernel)
theorem wo8 (M : Mem) : f_X12_four M 6 1 4 5 = some (lN 197765) := by
  simp only [f_X12_eight, f_X12_four, bb_some]
  exact congrArg some (by decide +kernel)
theorem wo9 (M : Mem) : f_X12_four M 18 9 14 7 = some (lN 599495) := by
  simp only [f_X12_eight, f_X12_four, bb_some]
  exact congrArg some (by decide +kernel)
theorem wo10 (M : Mem) : f_X12_four M 1 23 1 25 = some (lN 56377) := by
  simp only [f_X12_eight, f_X12_four, bb_some]
  exact congrArg some (by decide +kernel)
theorem wo11 (M : Mem) : f_X12_four M 2 1 3 11 = some (lN 66667) := by
  simp only [f_X12_eight, f_X12_four, bb_some]
  exact congrArg some (by decide +kernel)
theorem wo12 (M : Mem) : f_X12_four M 18 5 1 4 = some (lN 594980) := by
  simp only [f_X12_eight, f_X12_four, bb_some]
  exact congrArg some (by decide +kernel)
theorem wo13 (M : Mem) : f_X12_eight M 0 0 19 9 12 5 14 20 = some (lN 647370196) := by
  simp only [f_X12_eight, f_X12_four, bb_some]
  exact congrArg some (by decide +kernel)
theorem wo14 (M : Mem) : f_X12_eight M 0 0 12 9 6 20 5 4 = some (lN 412307620) := by
  simp only [f_X12_eight, f_X12_four, bb_some]
  exact congrArg some (by decide +kernel)
theorem m_word (M : Mem) {c : Nat} (hc : c < 2 ^ 63) : f_X12_wordOf M (lN c) = some (nI (mc (wf c))) := by
  unfold f_X12_wordOf wf
  rw [wo0, bb_some]
  by_cases h0 : c = 17171758
  · rw [if_pos ((lg_cmp_eq _ _).mpr (by rw [h0])), if_pos h0]; rfl
  rw [if_neg (fun hh => h0 (lN_inj hc (by omega) ((lg_cmp_eq _ _).mp hh))), if_neg h0]
  rw [wo1, bb_some]
  by_cases h1 : c = 638164
  · rw [if_pos ((lg_cmp_eq _ _).mpr (by rw [h1])), if_pos h1]; rfl
  rw [if_neg (fun hh => h1 (lN_inj hc (by omega) ((lg_cmp_eq _ _).mp hh))), if_neg h1]
  rw [wo2, bb_some]
  by_cases h2 : c = 136230
  · rw [if_pos ((lg_cmp_eq _ _).mpr (by rw [h2])), if_pos h2]; rfl
  rw [if_neg (fun hh => h2 (lN_inj hc (by omega) ((lg_cmp_eq _ _).mp hh))), if_neg h2]
  rw [wo3, bb_some]
  by_cases h3 : c = 197938
  · rw [if_pos ((lg_cmp_eq _ _).mpr (by rw [h3])), if_pos h3]; rfl
  rw [if_neg (fun hh => h3 (lN_inj hc (by omega) ((lg_cmp_eq _ _).mp hh))), if_neg h3]
  rw [wo4, bb_some]
  by_cases h4 : c = 463922
  · rw [if_pos ((lg_cmp_eq _ _).mpr (by rw [h4])), if_pos h4]; rfl
  rw [if_neg (fun hh => h4 (lN_inj hc (by omega) ((lg_cmp_eq _ _).mp hh))), if_neg h4]
  rw [wo5, bb_some]
  by_cases h5 : c = 99724
  · rw [if_pos ((lg_cmp_eq _ _).mpr (by rw [h5])), if_pos h5]; rfl
  rw [if_neg (fun hh => h5 (lN_inj hc (by omega) ((lg_cmp_eq _ _).mp hh))), if_neg h5]
  rw [wo6, bb_some]
  by_cases h6 : c = 5170
  · rw [if_pos ((lg_cmp_eq _ _).mpr (by rw [h6])), if_pos h6]; rfl
  rw [if_neg (fun hh => h6 (lN_inj hc (by omega) ((lg_cmp_eq _ _).mp hh))), if_neg h6]
  rw [wo7, bb_some]
  by_cases h7 : c = 13995615685
  · rw [if_pos ((lg_cmp_eq _ _).mpr (by rw [h7])), if_pos h7]; rfl
  rw [if_neg (fun hh => h7 (lN_inj hc (by omega) ((lg_cmp_eq _ _).mp hh))), if_neg h7]
  rw [wo8, bb_some]
  by_cases h8 : c = 197765
  · rw [if_pos ((lg_cmp_eq _ _).mpr (by rw [h8])), if_pos h8]; rfl
  rw [if_neg (fun hh => h8 (lN_inj hc (by omega) ((lg_cmp_eq _ _).mp hh))), if_neg h8]
  rw [wo9, bb_some]
  by_cases h9 : c = 599495
  · rw [if_pos ((lg_cmp_eq _ _).mpr (by rw [h9])), if_pos h9]; rfl
  rw [if_neg (fun hh => h9 (lN_inj hc (by omega) ((lg_cmp_eq _ _).mp hh))), if_neg h9]
  rw [wo10, bb_some]
  by_cases h10 : c = 56377
  · rw [if_pos ((lg_cmp_eq _ _).mpr (by rw [h10])), if_pos h10]; rfl
  rw [if_neg (fun hh => h10 (lN_inj hc (by omega) ((lg_cmp_eq _ _).mp hh))), if_neg h10]
  rw [wo11, bb_some]
  by_cases h11 : c = 66667
  · rw [if_pos ((lg_cmp_eq _ _).mpr (by rw [h11])), if_pos h11]; rfl
  rw [if_neg (fun hh => h11 (lN_inj hc (by omega) ((lg_cmp_eq _ _).mp hh))), if_neg h11]
  rw [wo12, bb_some]
  by_cases h12 : c = 594980
  · rw [if_pos ((lg_cmp_eq _ _).mpr (by rw [h12])), if_pos h12]; rfl
  rw [if_neg (fun hh => h12 (lN_inj hc (by omega) ((lg_cmp_eq _ _).mp hh))), if_neg h12]
  rw [wo13, bb_some]
  by_cases h13 : c = 647370196
  · rw [if_pos ((lg_cmp_eq _ _).mpr (by rw [h13])), if_pos h13]; rfl
  rw [if_neg (fun hh => h13 (lN_inj hc (by omega) ((lg_cmp_eq _ _).mp hh))), if_neg h13]
  rw [wo14, bb_some]
  by_cases h14 : c = 412307620
  · rw [if_pos ((lg_cmp_eq _ _).mpr (by rw [h14])), if_pos h14]; rfl
  rw [if_neg (fun hh => h14 (lN_inj hc (by omega) ((lg_cmp_eq _ _).mp hh))), if_neg h14]
  rfl
