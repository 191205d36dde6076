/-! which word stands here, in the class -/
section
variable {M M' : Mem} {k : Nat → Nat} {n p i : Nat}
theorem sp_at (M : Mem) {w : Nat} (hw : w < 15) : f_X7_spelling M (nI w) = some (2000 + w) := (wl_ok w hw).2.2.2
theorem ls_in (hT : TX k n) (hp : p ≤ n) (hl : 33 ≤ k (ts k p)) : ∀ j, j < te k p - ts k p → 33 ≤ k (ts k p + j) ∧ k (ts k p + j) ≤ 58 ∧ ts k p + j < n := by
  intro j hj
  obtain ⟨i1, i2, i3, i4, i5, i6⟩ := tk_in hT hp
  have h1 : te k p = sc pLt k 700 (ts k p) := by
    show ee k (ts k p) = _
    unfold ee
    rw [if_neg (by omega), if_pos hl]
  obtain ⟨a1, a2, a3, a4⟩ := sc_ok (P := pLt) rfl hT.2.1 700 (ts k p) (by omega) (by have := hT.1; omega)
  have := of_decide_eq_true (a3 (ts k p + j) (by omega) (by omega))
  have h2 := hT.2.2 (ts k p + j) (by omega)
  exact ⟨this, h2.2.1, by omega⟩
theorem wx_iff (hT : TX k n) (hp : p ≤ n) (hl : 33 ≤ k (ts k p)) {w : Nat} (hw : w < 15) : wx k p = w ↔ (te k p - ts k p = wlen w ∧ ∀ j, j < wlen w → lt k (ts k p) j = wc w j) := by
  have hin := ls_in hT hp hl
  obtain ⟨g1, g2, g3, g4⟩ := wl_ok w hw
  unfold wx
  constructor
  · intro h
    by_cases h8 : te k p - ts k p ≤ 8
    · rw [if_pos h8, wf_iff hw] at h
      obtain ⟨e1, e2⟩ := cd_inj _ _ (fun j hj => by have := hin j hj; show 1 ≤ k (ts k p + j) - 32 ∧ k (ts k p + j) - 32 ≤ 26; omega) (fun j hj => (g3 j hj).2) h
      exact ⟨e1, fun j hj => e2 j (by omega)⟩
    · rw [if_neg h8] at h; omega
  · intro ⟨h1, h2⟩
    rw [if_pos (by omega), wf_iff hw, h1]
    unfold wcd
    have : ∀ m, m ≤ wlen w → cd (lt k (ts k p)) m = cd (wc w) m := by
      intro m
      induction m with
      | zero => intro _; rfl
      | succ m ih =>
        intro hm
        show 32 * cd (lt k (ts k p)) m + lt k (ts k p) m = 32 * cd (wc w) m + wc w m
        rw [ih (by omega), h2 m (by omega)]
    exact this _ (Nat.le_refl _)
theorem c_here (h : CT M k n) (hp : p ≤ n) (hl : 33 ≤ k (ts k p)) (h9 : M.1 46 9 = nI (ts k p)) (h10 : M.1 46 10 = nI (te k p)) {w : Nat} (hw : w < 15) : f_X7_isHere M 46 (2000 + w) = some (if wx k p = w then 1 else 0) := by
  have hT := ct_tx h
  have hn := hT.1
  obtain ⟨i1, i2, i3, i4, i5, i6⟩ := tk_in hT hp
  have hin := ls_in hT hp hl
  have hw2 := wx_iff hT hp hl hw
  obtain ⟨g1, g2, g3, g4⟩ := wl_ok w hw
  unfold f_X7_isHere
  rw [gI_at (ct_shp h), bb_some, gI_at (ct_shp h), bb_some, g1, bb_some, h9, h10, nI_sb i2]
  by_cases hlen : te k p - ts k p = wlen w
  · rw [if_pos (by rw [hlen])]
    have hloop : ∃ r, f_X7_isHere_L20 M 46 (2000 + w) 0 = some r ∧ ((wx k p = w ∧ r = .inr ()) ∨ (wx k p ≠ w ∧ r = .inl ())) := by
      refine iter_rel (f := fun s : Int32 => f_X7_isHere_B20 M 46 (2000 + w) s) (wlen w) (fun j x => x = nI j ∧ ∀ q, q < j → lt k (ts k p) q = wc w q) (fun r => (wx k p = w ∧ r = .inr ()) ∨ (wx k p ≠ w ∧ r = .inl ())) ?_ ?_ 1048576 0 0 (Nat.zero_le _) ⟨rfl, fun q hq => absurd hq (by omega)⟩ (by omega)
      · intro j x hj ⟨q1, q2⟩
        have hj3 := hin j (by omega)
        obtain ⟨a1, a2, a3⟩ := g3 j hj
        have hv := (KV_f (h.2.2.2.2.2 _ hj3.2.2)).2.2.2.2.1 hj3.1
        have hB : f_X7_isHere_B20 M 46 (2000 + w) x = if nI (k (ts k p + j) + 64) = nI (96 + wc w j) then some (.inl (nI j + 1)) else some (.inr (.inl ())) := by
          rw [q1]
          unfold f_X7_isHere_B20
          rw [g1, bb_some, if_neg (nI_ge hj (by omega)), ct_r5 h, bb_some, gI_at (ct_shp h), bb_some, h9, nI_add, ct_at h hj3.2.2, bb_some, a1, bb_some, hv]
        by_cases he : lt k (ts k p) j = wc w j
        · left
          have he' : k (ts k p + j) - 32 = wc w j := he
          refine ⟨nI j + 1, ?_, by rw [nI_1], fun q hq => ?_⟩
          · show f_X7_isHere_B20 M 46 (2000 + w) x = _
            rw [hB, if_pos (by congr 1; omega)]
          · rcases Nat.eq_or_lt_of_le (show q ≤ j by omega) with e | e
            · rw [e]; exact he
            · exact q2 q e
        · right
          refine ⟨.inl (), ?_, Or.inr ⟨fun hh => he ((hw2.mp hh).2 j hj), rfl⟩⟩
          show f_X7_isHere_B20 M 46 (2000 + w) x = _
          have he' : ¬ k (ts k p + j) - 32 = wc w j := he
          rw [hB, if_neg (nI_nq (by omega) (by omega) (by omega))]
      · intro x ⟨q1, q2⟩
        refine ⟨.inr (), ?_, Or.inl ⟨hw2.mpr ⟨hlen, q2⟩, rfl⟩⟩
        show f_X7_isHere_B20 M 46 (2000 + w) x = _
        rw [q1]
        unfold f_X7_isHere_B20
        rw [g1, bb_some, if_pos (nI_le (Nat.le_refl _) (by omega))]
    obtain ⟨r, e1, e2⟩ := hloop
    rw [e1, bb_some]
    rcases e2 with ⟨e3, e4⟩ | ⟨e3, e4⟩
    · subst e4; rw [if_pos e3]
    · subst e4; rw [if_neg e3]
  · rw [if_neg (nI_nq (by omega) (by omega) hlen), if_neg (fun hh => hlen (hw2.mp hh).1)]
def fw (s : Nat) : Nat := if s = 0 then 0 else if s = 1 then 9 else if s = 2 then 13 else 15
theorem a1001 (M : Mem) : ∀ s, s < 4 → aI M 0 1001 (nI s) = some (nI (fw s)) := by
  intro s hs
  rcases (show s = 0 ∨ s = 1 ∨ s = 2 ∨ s = 3 by omega) with rfl | rfl | rfl | rfl <;> rfl
theorem fw_le {s : Nat} (hs : s < 3) : fw s ≤ fw (s + 1) ∧ fw (s + 1) ≤ 15 := by
  rcases (show s = 0 ∨ s = 1 ∨ s = 2 by omega) with rfl | rfl | rfl <;> decide
theorem c_word (h : CT M k n) (hp : p ≤ n) (hl : 33 ≤ k (ts k p)) (h9 : M.1 46 9 = nI (ts k p)) (h10 : M.1 46 10 = nI (te k p)) {s : Nat} (hs : s < 3) : f_X7_wordHere M 46 (nI s) = some (if fw s ≤ wx k p ∧ wx k p < fw (s + 1) then nI (wx k p) else -1) := by
  have hf := fw_le hs
  unfold f_X7_wordHere
  rw [a1001 M s (by omega), bb_some]
  have hloop : ∃ r, f_X7_wordHere_L6 M 46 (nI s) (nI (fw s)) = some r ∧ (((fw s ≤ wx k p ∧ wx k p < fw (s + 1)) ∧ r = .inl (nI (wx k p))) ∨ (¬ (fw s ≤ wx k p ∧ wx k p < fw (s + 1)) ∧ r = .inr ())) := by
    refine iter_rel (f := fun x : Int32 => f_X7_wordHere_B6 M 46 (nI s) x) (fw (s + 1)) (fun j x => x = nI j ∧ fw s ≤ j ∧ (wx k p < fw s ∨ j ≤ wx k p)) (fun r => ((fw s ≤ wx k p ∧ wx k p < fw (s + 1)) ∧ r = .inl (nI (wx k p))) ∨ (¬ (fw s ≤ wx k p ∧ wx k p < fw (s + 1)) ∧ r = .inr ())) ?_ ?_ 1048576 (fw s) (nI (fw s)) hf.1 ⟨rfl, Nat.le_refl _, by omega⟩ (by omega)
    · intro j x hj ⟨q1, q2, q3⟩
      have hB : f_X7_wordHere_B6 M 46 (nI s) x = if wx k p = j then some (.inr (.inl (nI j))) else some (.inl (nI j + 1)) := by
        rw [q1]
        unfold f_X7_wordHere_B6
        rw [nI_1, a1001 M (s + 1) (by omega), bb_some, if_neg (nI_ge hj (by omega)), sp_at M (by omega), bb_some, ob_at (ct_shp h), bb_some, c_here h hp hl h9 h10 (by omega), bb_some]
        by_cases he : wx k p = j
        · rw [if_pos he, if_pos he, if_neg (by decide)]
        · rw [if_neg he, if_neg he, if_pos rfl]
      by_cases he : wx k p = j
      · right
        exact ⟨.inl (nI j), by show f_X7_wordHere_B6 M 46 (nI s) x = _; rw [hB, if_pos he], Or.inl ⟨by omega, by rw [he]⟩⟩
      · left
        exact ⟨nI j + 1, by show f_X7_wordHere_B6 M 46 (nI s) x = _; rw [hB, if_neg he], by rw [nI_1], by omega, by omega⟩
    · intro x ⟨q1, q2, q3⟩
      refine ⟨.inr (), ?_, Or.inr ⟨by omega, rfl⟩⟩
      show f_X7_wordHere_B6 M 46 (nI s) x = _
      rw [q1]
      unfold f_X7_wordHere_B6
      rw [nI_1, a1001 M (s + 1) (by omega), bb_some, if_pos (nI_le (Nat.le_refl _) (by omega))]
  obtain ⟨r, e1, e2⟩ := hloop
  rw [e1, bb_some]
  rcases e2 with ⟨e3, e4⟩ | ⟨e3, e4⟩
  · subst e4; rw [if_pos e3]
  · subst e4; rw [if_neg e3]
/-- the tokens, one after another -/
def tp (k : Nat → Nat) : Nat → Nat
  | 0 => 0
  | i + 1 => te k (tp k i)
theorem tp_le (hT : TX k n) : ∀ i, tp k i ≤ n
  | 0 => Nat.zero_le _
  | i + 1 => (tk_in hT (tp_le hT i)).2.2.1
def tD (k : Nat → Nat) (i : Nat) : Nat := td k (tp k i)
def tA (k : Nat → Nat) (i : Nat) : Nat := ts k (tp k i)
def tV (k : Nat → Nat) (i : Nat) : Nat := nv k (ts k (tp k i)) (te k (tp k i) - ts k (tp k i))
def tW (k : Nat → Nat) (i : Nat) : Nat := wx k (tp k i)
theorem tA_le (hT : TX k n) (i : Nat) : tA k i ≤ n := by
  obtain ⟨i1, i2, i3, i4, i5, i6⟩ := tk_in hT (tp_le hT i)
  exact Nat.le_trans i2 i3
theorem td_0 (k : Nat → Nat) (p : Nat) : td k p = 0 ↔ k (ts k p) = 0 := by
  unfold td
  by_cases h : k (ts k p) = 0
  · rw [if_pos h]; exact ⟨fun _ => h, fun _ => rfl⟩
  · rw [if_neg h]
    refine ⟨fun hh => ?_, fun hh => absurd hh h⟩
    repeat' split at hh
    all_goals omega
theorem tA_lt (hT : TX k n) {i : Nat} (h : tD k i ≠ 0) : tA k i < tA k (i + 1) ∧ tp k i < tp k (i + 1) := by
  obtain ⟨i1, i2, i3, i4, i5, i6⟩ := tk_in hT (tp_le hT i)
  obtain ⟨j1, j2, j3, j4, j5, j6⟩ := tk_in hT (tp_le hT (i + 1))
  have : tp k (i + 1) = te k (tp k i) := rfl
  have h1 := i4 (fun hh => h ((td_0 k (tp k i)).mpr hh))
  exact ⟨show ts k (tp k i) < ts k (tp k (i + 1)) by omega, by omega⟩
theorem tA_n (hT : TX k n) {i : Nat} (h : tD k i = 0) : tA k i = n := by
  obtain ⟨i1, i2, i3, i4, i5, i6⟩ := tk_in hT (tp_le hT i)
  have h1 := (td_0 k (tp k i)).mp h
  rcases Nat.lt_or_ge (ts k (tp k i)) n with h' | h'
  · have := hT.2.2 _ h'; omega
  · exact show ts k (tp k i) = n by omega
end
