/-! text -/
section
variable {M M' N P : Mem} {k r v : Nat → Nat} {n p i w s c x j d m q o : Nat} {F F' : Nat × Int32}
theorem tg (h : Sk N) (x : Nat) : gI N 9 2 x = some (N.1 2 x) := gI_at (t_shp h).2 x
theorem tP (h : Sk N) (x : Nat) (v : Int32) : pI N 9 2 x v = some (wI N 2 x v) := pI_at (t_shp h).2 x v
theorem rg7 (h : Sk N) (x : Nat) : gI N 7 46 x = some (N.1 46 x) := gI_at (sk_shp h (by omega) rfl) x
theorem ro7 (h : Sk N) : ob N 7 46 = some () := ob_at (sk_shp h (by omega) rfl)
/-- which slot a text is for: the class and the model -/
def Slt (c : Nat → Nat) (s : Nat) (a2 : Int32) (q : Nat) : Prop := q < 2 ∧ q ≤ c s ∧ ((a2 = -1 ∧ q = c s) ∨ (a2 = nI q ∧ q < c s))
theorem slot_cases (a1 a2 : Int32) (c : Nat → Nat) (hc : ∀ s, s < 3 → c s ≤ 2) (hA : ∀ s, s < 3 → M.1 4 s = nI (c s)) (hS : Sk M) : (∃ s q, s < 3 ∧ a1 = nI s ∧ Slt c s a2 q ∧ f_X9_slotFor M 2 a1 a2 = some (nI q)) ∨ (f_X9_slotFor M 2 a1 a2 = some (-1) ∧ (outO a1 3 ∨ ∃ s, s < 3 ∧ a1 = nI s ∧ ((a2 = -1 ∧ c s = 2) ∨ (a2 ≠ -1 ∧ outO a2 (c s))))) := by
  unfold f_X9_slotFor
  rcases io_cases a1 (n := 3) (by omega) with hx | ⟨s, hs, rfl⟩
  · refine Or.inr ⟨?_, Or.inl hx⟩
    rcases hx with hx | hx
    · rw [if_pos hx]
    · have hx : (3 : Int32) ≤ a1 := hx
      have h1 : ¬ a1 < 3 := Int32.not_lt.mpr hx
      by_cases h0 : a1 < 0
      · rw [if_pos h0]
      · rw [if_neg h0, if_neg h1]
  · have a4 : aI M 0 4 (nI s) = some (nI (c s)) := by rw [aI_at (sk_shp hS (n := 4) (by omega) rfl) hs (by omega) (by omega), hA s hs]
    have h2 := hc s hs
    rw [if_neg (nI_pos (by omega)), if_pos (show nI s < 3 from nI_lt (b := 3) hs (by omega))]
    simp only [t_r4 hS, a4, bb_some]
    by_cases e : a2 = -1
    · rw [if_pos e]
      by_cases e2 : c s = 2
      · rw [if_pos (by rw [e2]; decide)]
        exact Or.inr ⟨rfl, Or.inr ⟨s, hs, rfl, Or.inl ⟨e, e2⟩⟩⟩
      · rw [if_neg (show ¬ (2 : Int32) ≤ nI (c s) from nI_ge (b := 2) (by omega) (by omega))]
        exact Or.inl ⟨s, c s, hs, rfl, ⟨by omega, Nat.le_refl _, Or.inl ⟨e, rfl⟩⟩, rfl⟩
    · rw [if_neg e]
      rcases io_cases a2 (n := c s) (by omega) with hx | ⟨q, hq, hq2⟩
      · refine Or.inr ⟨?_, Or.inr ⟨s, hs, rfl, Or.inr ⟨e, hx⟩⟩⟩
        rcases hx with hx | hx
        · rw [if_pos hx]
        · by_cases h0 : a2 < 0
          · rw [if_pos h0]
          · rw [if_neg h0, if_pos hx]
      · subst hq2
        rw [if_neg (nI_pos (by omega)), if_neg (nI_ge hq (by omega))]
        exact Or.inl ⟨s, q, hs, rfl, ⟨by omega, by omega, Or.inr ⟨rfl, hq⟩⟩, rfl⟩
/-- the model's memory before it reads -/
def Mp (Z : Mem) (n : Nat) : Mem := wI (wI (wI (wI Z 255 2 (nI n)) 256 4 0) 256 5 0) 256 6 (-1)
theorem mp_pro {Z : Mem} (hS : Sk Z) (h4 : Z.1 256 4 = nI n) (a1 a2 : Int32) : f_X12_text Z 255 a1 a2 = (f_X12_isIn (Mp Z n) a1 0 2).bind fun v10 => (if v10 = 0 then
    some ((-2 : Int32), Mp Z n)
  else
    (if a2 = (-1 : Int32) then
      (gR (Mp Z n) 12 255 0).bind fun v13 =>
      (aI (Mp Z n) 0 v13 a1).bind fun v14 =>
      (if v14 < (2 : Int32) then
        f_X12_text_J71 (Mp Z n) 255 a1 a2 
      else
        some ((-2 : Int32), Mp Z n))
    else
      (ob (Mp Z n) 12 255).bind fun _ => (f_X12_isOf (Mp Z n) 255 a1 a2).bind fun v16 =>
      (if v16 = 0 then
        some ((-2 : Int32), Mp Z n)
      else
        f_X12_text_J71 (Mp Z n) 255 a1 a2 ))) := by
  have p4 : ∀ N : Mem, Sk N → sI N 0 256 4 0 = some (wI N 256 4 0) := fun N h => m_put h (i := 4) (by omega) _
  have p5 : ∀ N : Mem, Sk N → sI N 0 256 5 0 = some (wI N 256 5 0) := fun N h => m_put h (i := 5) (by omega) _
  have p6 : ∀ N : Mem, Sk N → sI N 0 256 6 (-1) = some (wI N 256 6 (-1)) := fun N h => m_put h (i := 6) (by omega) _
  have g4 : aI Z 0 256 4 = some (nI n) := by have := m_get hS (i := 4) (by omega); rw [h4] at this; exact this
  unfold f_X12_text
  rw [m_r0 hS, bb_some, g4, bb_some, mP hS, bb_some, m_r0 (M := wI Z 255 2 (nI n)) hS, bb_some, p4 (wI Z 255 2 (nI n)) hS, bb_some, m_r0 (M := wI (wI Z 255 2 (nI n)) 256 4 0) hS, bb_some, p5 (wI (wI Z 255 2 (nI n)) 256 4 0) hS, bb_some, m_r0 (M := wI (wI (wI Z 255 2 (nI n)) 256 4 0) 256 5 0) hS, bb_some, p6 (wI (wI (wI Z 255 2 (nI n)) 256 4 0) 256 5 0) hS, bb_some]
  rfl
theorem mp_rd (Z : Mem) (n a b : Nat) (h : ¬ (a = 255 ∧ b = 2)) (h' : ¬ (a = 256 ∧ (b = 4 ∨ b = 5 ∨ b = 6))) : (Mp Z n).1 a b = Z.1 a b := by
  unfold Mp
  rw [wI_rd, if_neg (by omega), wI_rd, if_neg (by omega), wI_rd, if_neg (by omega), wI_rd, if_neg (by omega)]
theorem mp_no {Z : Mem} (hS : Sk Z) (h4 : Z.1 256 4 = nI n) {a1 a2 : Int32} {c : Nat → Nat} (hc : ∀ s, s < 3 → c s ≤ 2 ∧ Z.1 256 s = nI (c s)) (h : outO a1 3 ∨ ∃ s, s < 3 ∧ a1 = nI s ∧ ((a2 = -1 ∧ c s = 2) ∨ (a2 ≠ -1 ∧ outO a2 (c s)))) : f_X12_text Z 255 a1 a2 = some (-2, Mp Z n) := by
  have hP : Sk (Mp Z n) := hS
  rw [mp_pro hS h4]
  rcases h with h | ⟨s, hs, rfl, h⟩
  · have i1 := ii_out (Mp Z n) h (by omega)
    rw [show nI 3 - 1 = 2 from rfl] at i1
    rw [i1, bb_some, if_pos rfl]
  · have i1 := ii_in (Mp Z n) hs (n := 3) (by omega)
    rw [show nI 3 - 1 = 2 from rfl] at i1
    have hcs : (Mp Z n).1 256 s = nI (c s) := by rw [mp_rd Z n 256 s (by omega) (by omega)]; exact (hc s hs).2
    rw [i1, bb_some, if_neg (by decide)]
    rcases h with ⟨h1, h2⟩ | ⟨h1, h2⟩
    · rw [if_pos h1, m_r0 hP, bb_some, m_get hP (by omega), bb_some, hcs, h2, if_neg (by decide)]
    · have io : f_X12_isOf (Mp Z n) 255 (nI s) a2 = some 0 := by
        unfold f_X12_isOf
        rw [m_r0 hP, bb_some, m_get hP (by omega), bb_some, hcs, ii_out _ h2 (by have := (hc s hs).1; omega), bb_some, zr_at (Or.inl rfl), bb_some]
      rw [if_neg h1, ob_at (m_shp hP), bb_some, io, bb_some, if_pos rfl]
theorem mp_yes {Z : Mem} {c' : Nat} (hS : Sk Z) (h4 : Z.1 256 4 = nI n) {a2 : Int32} (hs : s < 3) (hc : Z.1 256 s = nI c') (h : (a2 = -1 ∧ c' < 2) ∨ (∃ q, a2 = nI q ∧ q < c' ∧ c' ≤ 2)) : f_X12_text Z 255 (nI s) a2 = f_X12_text_J71 (Mp Z n) 255 (nI s) a2 := by
  have hP : Sk (Mp Z n) := hS
  rw [mp_pro hS h4]
  have i1 := ii_in (Mp Z n) hs (n := 3) (by omega)
  rw [show nI 3 - 1 = 2 from rfl] at i1
  have hcs : (Mp Z n).1 256 s = nI c' := by rw [mp_rd Z n 256 s (by omega) (by omega)]; exact hc
  rw [i1, bb_some, if_neg (by decide)]
  rcases h with ⟨h1, h2⟩ | ⟨q, h1, h2, h3⟩
  · rw [if_pos h1, m_r0 hP, bb_some, m_get hP (by omega), bb_some, hcs, if_pos (show nI c' < 2 from nI_lt (b := 2) h2 (by omega))]
  · subst h1
    have io : f_X12_isOf (Mp Z n) 255 (nI s) (nI q) = some 1 := by
      unfold f_X12_isOf
      rw [m_r0 hP, bb_some, m_get hP (by omega), bb_some, hcs, ii_in _ h2 (by omega), bb_some, zr_at (Or.inr rfl), bb_some]
    rw [if_neg (nI_nm1 (by omega)), ob_at (m_shp hP), bb_some, io, bb_some, if_neg (by decide)]
theorem tb_no {R : Mem} (hT : TB M 2 0) (h4 : ∀ s, s < 3 → R.1 4 s = M.1 4 s) (hw : ∀ a b, 8 ≤ a → a < 44 → R.1 a b = M.1 a b) (h6 : ∀ b, b < 3 ∨ 610 ≤ b → R.1 256 b = M.1 256 b) : TB R 2 0 := tb_move (fun s hs => h4 s hs) (fun q hq hq' k _ => hw (2 + q) k (by omega) (by omega)) (fun i hi _ => by rw [Nat.zero_add]; exact h6 i hi) hT
theorem jno {R : Mem} {a2 : Int32} (hS : Sk R) (h5 : ¬ R.1 256 5 = 0) : f_X12_text_J228 R 255 (nI s) a2 = some (-1, R) := by
  have e5 : aI R 0 256 5 = some (R.1 256 5) := m_get hS (i := 5) (by omega)
  unfold f_X12_text_J228
  rw [m_r0 hS, bb_some, e5, bb_some, if_neg h5]
end
