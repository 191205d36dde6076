/-! a line is stored, in the class -/
section
variable {M M' N : Mem} {k r v : Nat → Nat} {n p i w s c : Nat} {F : Nat × Int32}
theorem sk_wI (a b : Nat) (x : Int32) : Sk (wI N a b x) ↔ Sk N := Iff.rfl
theorem og (h : Sk N) (x : Nat) : gI N 5 47 x = some (N.1 47 x) := gI_at (sk_shp h (by omega) rfl) x
theorem oP (h : Sk N) (x : Nat) (v : Int32) : pI N 5 47 x v = some (wI N 47 x v) := pI_at (sk_shp h (by omega) rfl) x v
theorem or5 (h : Sk N) : gR N 5 47 5 = some 48 := by rw [gR_at (sk_shp h (by omega) rfl), h.2 (47, 5, 48) (by decide)]
theorem or6 (h : Sk N) : gR N 5 47 6 = some 49 := by rw [gR_at (sk_shp h (by omega) rfl), h.2 (47, 6, 49) (by decide)]
theorem or7 (h : Sk N) : gR N 5 47 7 = some 50 := by rw [gR_at (sk_shp h (by omega) rfl), h.2 (47, 7, 50) (by decide)]
theorem or8 (h : Sk N) : gR N 5 47 8 = some 51 := by rw [gR_at (sk_shp h (by omega) rfl), h.2 (47, 8, 51) (by decide)]
theorem or9 (h : Sk N) : gR N 5 47 9 = some 52 := by rw [gR_at (sk_shp h (by omega) rfl), h.2 (47, 9, 52) (by decide)]
theorem or10 (h : Sk N) : gR N 5 47 10 = some 53 := by rw [gR_at (sk_shp h (by omega) rfl), h.2 (47, 10, 53) (by decide)]
theorem or11 (h : Sk N) : gR N 5 47 11 = some 54 := by rw [gR_at (sk_shp h (by omega) rfl), h.2 (47, 11, 54) (by decide)]
theorem or12 (h : Sk N) : gR N 5 47 12 = some 55 := by rw [gR_at (sk_shp h (by omega) rfl), h.2 (47, 12, 55) (by decide)]
theorem oa0 (h : Sk N) : aI N 0 66 0 = some (N.1 66 0) := aI_at (i := 0) (s66 h) (by omega) (by omega) (by omega)
theorem oa1 (h : Sk N) : aI N 0 66 1 = some (N.1 66 1) := aI_at (i := 1) (s66 h) (by omega) (by omega) (by omega)
theorem oa2 (h : Sk N) : aI N 0 66 2 = some (N.1 66 2) := aI_at (i := 2) (s66 h) (by omega) (by omega) (by omega)
theorem oa3 (h : Sk N) : aI N 0 66 3 = some (N.1 66 3) := aI_at (i := 3) (s66 h) (by omega) (by omega) (by omega)
theorem os_ {a L : Nat} (h : Sk N) (ha : 0 < a ∧ SH[a - 1]? = some (.inr (0, L))) (hL : L < 2 ^ 31) (hc : c < L) (x : Int32) : sI N 0 a (nI c) x = some (wI N a c x) := by rw [sI_at (sk_shp h ha.1 ha.2) hc hL, nar0]
theorem os8 (h : Sk N) (hc : c < 8) (x : Int32) : sI N 0 48 (nI c) x = some (wI N 48 c x) ∧ sI N 0 49 (nI c) x = some (wI N 49 c x) ∧ sI N 0 50 (nI c) x = some (wI N 50 c x) ∧ sI N 0 51 (nI c) x = some (wI N 51 c x) ∧ sI N 0 52 (nI c) x = some (wI N 52 c x) := ⟨os_ h ⟨by omega, rfl⟩ (by omega) hc x, os_ h ⟨by omega, rfl⟩ (by omega) hc x, os_ h ⟨by omega, rfl⟩ (by omega) hc x, os_ h ⟨by omega, rfl⟩ (by omega) hc x, os_ h ⟨by omega, rfl⟩ (by omega) hc x⟩
theorem os10 (h : Sk N) (hc : c < 10) (x : Int32) : sI N 0 53 (nI c) x = some (wI N 53 c x) ∧ sI N 0 54 (nI c) x = some (wI N 54 c x) ∧ sI N 0 55 (nI c) x = some (wI N 55 c x) := ⟨os_ h ⟨by omega, rfl⟩ (by omega) hc x, os_ h ⟨by omega, rfl⟩ (by omega) hc x, os_ h ⟨by omega, rfl⟩ (by omega) hc x⟩
theorem c_addDesk (h : Sk M) (hc : M.1 47 0 = nI c) (h8 : c < 8) (x : Int32) : f_X5_addDesk M 47 x 66 = some (wI (wI (wI (wI (wI (wI M 48 c x) 49 c (M.1 66 0)) 50 c (M.1 66 1)) 51 c (M.1 66 2)) 52 c (M.1 66 3)) 47 0 (nI (c + 1))) := by
  unfold f_X5_addDesk
  have hlt : nI c < 8 := nI_lt (b := 8) h8 (by omega)
  simp [hlt, og, oP, or5, or6, or7, or8, or9, oa0, oa1, oa2, oa3, os8, sk_wI, h, hc, h8, wI_rd, nI_1, bb_some]
theorem c_addCall (h : Sk M) (hc : M.1 47 1 = nI c) (h8 : c < 10) : f_X5_addCall M 47 66 = some (wI (wI (wI (wI M 53 c (M.1 66 0)) 54 c (M.1 66 1)) 55 c (M.1 66 2)) 47 1 (nI (c + 1))) := by
  unfold f_X5_addCall
  have hlt : nI c < 10 := nI_lt (b := 10) h8 (by omega)
  simp [hlt, og, oP, or10, or11, or12, oa0, oa1, oa2, os10, sk_wI, h, hc, h8, wI_rd, nI_1, bb_some]
theorem dyg (h : Sk N) (x : Nat) : gI N 1 58 x = some (N.1 58 x) := gI_at (sk_shp h (by omega) rfl) x
theorem dP (h : Sk N) (x : Nat) (v : Int32) : pI N 1 58 x v = some (wI N 58 x v) := pI_at (sk_shp h (by omega) rfl) x v
theorem dr1 (h : Sk N) : gR N 1 58 1 = some 59 := by rw [gR_at (sk_shp h (by omega) rfl), h.2 (58, 1, 59) (by decide)]
theorem dr2 (h : Sk N) : gR N 1 58 2 = some 60 := by rw [gR_at (sk_shp h (by omega) rfl), h.2 (58, 2, 60) (by decide)]
theorem ds40 (h : Sk N) (hc : c < 40) (x : Int32) : sI N 0 59 (nI c) x = some (wI N 59 c x) ∧ sI N 0 60 (nI c) x = some (wI N 60 c x) := ⟨os_ h ⟨by omega, rfl⟩ (by omega) hc x, os_ h ⟨by omega, rfl⟩ (by omega) hc x⟩
theorem c_addDay (h : Sk M) (hc : M.1 58 0 = nI c) (h8 : c < 40) (x y : Int32) : f_X1_add M 58 x y = some (wI (wI (wI M 59 c x) 60 c y) 58 0 (nI (c + 1))) := by
  unfold f_X1_add
  have hlt : nI c < 40 := nI_lt (b := 40) h8 (by omega)
  simp [hlt, dyg, dP, dr1, dr2, ds40, sk_wI, h, hc, h8, wI_rd, nI_1, bb_some]
theorem gg (h : Sk N) (x : Nat) : gI N 4 61 x = some (N.1 61 x) := gI_at (sk_shp h (by omega) rfl) x
theorem gP (h : Sk N) (x : Nat) (v : Int32) : pI N 4 61 x v = some (wI N 61 x v) := pI_at (sk_shp h (by omega) rfl) x v
theorem gr1 (h : Sk N) : gR N 4 61 1 = some 62 := by rw [gR_at (sk_shp h (by omega) rfl), h.2 (61, 1, 62) (by decide)]
theorem gr2 (h : Sk N) : gR N 4 61 2 = some 63 := by rw [gR_at (sk_shp h (by omega) rfl), h.2 (61, 2, 63) (by decide)]
theorem gr3 (h : Sk N) : gR N 4 61 3 = some 64 := by rw [gR_at (sk_shp h (by omega) rfl), h.2 (61, 3, 64) (by decide)]
theorem gs8 (h : Sk N) (hc : c < 8) (x : Int32) : sI N 0 62 (nI c) x = some (wI N 62 c x) ∧ sI N 0 63 (nI c) x = some (wI N 63 c x) ∧ sI N 0 64 (nI c) x = some (wI N 64 c x) := ⟨os_ h ⟨by omega, rfl⟩ (by omega) hc x, os_ h ⟨by omega, rfl⟩ (by omega) hc x, os_ h ⟨by omega, rfl⟩ (by omega) hc x⟩
theorem c_addLog (h : Sk M) (hc : M.1 61 0 = nI c) (h8 : c < 8) (x y z : Int32) : f_X4_add M 61 x y z = some (wI (wI (wI (wI M 62 c x) 63 c y) 64 c z) 61 0 (nI (c + 1))) := by
  unfold f_X4_add
  have hlt : nI c < 8 := nI_lt (b := 8) h8 (by omega)
  simp [hlt, gg, gP, gr1, gr2, gr3, gs8, sk_wI, h, hc, h8, wI_rd, nI_1, bb_some]
def OCs (M : Mem) (r : Nat → Nat) : Prop := (∀ i, i < 5 → M.1 47 i = nI (r i)) ∧ (∀ d, d < r 0 → ∀ j, j < 5 → M.1 (48 + j) d = nI (r (5 + 5 * d + j))) ∧ ∀ c, c < r 1 → ∀ j, j < 3 → M.1 (53 + j) c = nI (r (45 + 3 * c + j))
def LCs (M : Mem) (r : Nat → Nat) : Prop := M.1 61 0 = nI (r 0) ∧ ∀ c, c < r 0 → ∀ j, j < 3 → M.1 (62 + j) c = nI (r (2 + 4 * c + j))
/-- what is read so far stands in the class's reader -/
def CS (M : Mem) (s : Nat) (r : Nat → Nat) : Prop := (s = 0 → OCs M r ∧ r 0 ≤ 8 ∧ r 1 ≤ 10) ∧ (s = 1 → DC M 58 r ∧ r 0 ≤ 40) ∧ (s = 2 → LCs M r ∧ r 0 ≤ 8)
theorem cs_cong (h : ∀ a b, 47 ≤ a → a ≤ 64 → M'.1 a b = M.1 a b) (hS : CS M s r) : CS M' s r := by
  refine ⟨fun e => ⟨⟨fun i hi => ?_, fun d hd j hj => ?_, fun c hc j hj => ?_⟩, (hS.1 e).2⟩, fun e => ⟨⟨?_, fun d hd => ⟨?_, ?_⟩⟩, (hS.2.1 e).2⟩, fun e => ⟨⟨?_, fun c hc j hj => ?_⟩, (hS.2.2 e).2⟩⟩
  · rw [h _ _ (by omega) (by omega)]; exact (hS.1 e).1.1 i hi
  · rw [h _ _ (by omega) (by omega)]; exact (hS.1 e).1.2.1 d hd j hj
  · rw [h _ _ (by omega) (by omega)]; exact (hS.1 e).1.2.2 c hc j hj
  · rw [h _ _ (by omega) (by omega)]; exact (hS.2.1 e).1.1
  · rw [h _ _ (by omega) (by omega)]; exact ((hS.2.1 e).1.2 d hd).1
  · rw [h _ _ (by omega) (by omega)]; exact ((hS.2.1 e).1.2 d hd).2
  · rw [h _ _ (by omega) (by omega)]; exact (hS.2.2 e).1.1
  · rw [h _ _ (by omega) (by omega)]; exact (hS.2.2 e).1.2 c hc j hj
def cap (w : Nat) : Nat := if w < 5 then 8 else if w = 5 then 10 else if w < 9 then 100 else if w < 13 then 40 else 8
def cntw (w : Nat) (r : Nat → Nat) : Nat := if w = 5 then r 1 else r 0
theorem lt01 {a b : Nat} (ha : a ≤ 100) (hb : b ≤ 100) : (if nI a < nI b then (some 0 : Option Int32) else some 1) = some (if b ≤ a then 1 else 0) := by
  by_cases h : a < b
  · rw [if_pos (nI_lt h (by omega)), if_neg (by omega)]
  · rw [if_neg (nI_nlt (by omega) (by omega)), if_pos (by omega)]
theorem c_full (h : CT M k n) (hs : s < 3) (hw : fw s ≤ w ∧ w < fw (s + 1)) (hS : CS M s r) : f_X7_isFull M 46 (nI w) = some (if cap w ≤ cntw w r then 1 else 0) := by
  have a1 : aI M 0 1001 1 = some 9 := rfl
  have a2 : aI M 0 1001 2 = some 13 := rfl
  have hr := r46 h
  have hf := fw_le hs
  unfold f_X7_isFull cap cntw
  by_cases h5 : 5 ≤ w
  · rw [if_pos (show (5 : Int32) ≤ nI w from nI_le h5 (by omega)), if_neg (show ¬ w < 5 by omega)]
    by_cases e5 : w = 5
    · subst e5
      have e0 : s = 0 := by
        rcases (show s = 0 ∨ s = 1 ∨ s = 2 by omega) with e | e | e
        · exact e
        · rw [e] at hw; exact absurd hw.1 (by decide)
        · rw [e] at hw; exact absurd hw.1 (by decide)
      have hO := hS.1 e0
      rw [if_pos (show nI 5 = 5 from rfl), hr.1, bb_some, og h.1, bb_some, hO.1.1 1 (by omega), if_pos rfl, if_pos rfl]
      exact lt01 (b := 10) (by omega) (by omega)
    · rw [if_neg (show ¬ nI w = 5 from nI_nq (k := 5) (by omega) (by omega) e5), if_neg e5, if_neg e5, a1, bb_some]
      by_cases h9 : 9 ≤ w
      · rw [if_pos (show (9 : Int32) ≤ nI w from nI_le h9 (by omega)), if_neg (show ¬ w < 9 by omega), a2, bb_some]
        by_cases h13 : 13 ≤ w
        · have e2 : s = 2 := by
            rcases (show s = 0 ∨ s = 1 ∨ s = 2 by omega) with e | e | e
            · rw [e] at hw; have : w < 9 := hw.2; omega
            · rw [e] at hw; have : w < 13 := hw.2; omega
            · exact e
          have hO := hS.2.2 e2
          rw [if_pos (show (13 : Int32) ≤ nI w from nI_le h13 (by omega)), if_neg (show ¬ w < 13 by omega), hr.2.2.1, bb_some, gg h.1, bb_some, hO.1.1]
          exact lt01 (b := 8) (by omega) (by omega)
        · have e1 : s = 1 := by
            rcases (show s = 0 ∨ s = 1 ∨ s = 2 by omega) with e | e | e
            · rw [e] at hw; have : w < 9 := hw.2; omega
            · exact e
            · rw [e] at hw; have : 13 ≤ w := hw.1; omega
          have hO := hS.2.1 e1
          rw [if_neg (show ¬ (13 : Int32) ≤ nI w from nI_ge (b := 13) (by omega) (by omega)), if_pos (show w < 13 by omega), hr.2.1, bb_some, dyg h.1, bb_some, hO.1.1]
          exact lt01 (b := 40) (by omega) (by omega)
      · have e0 : s = 0 := by
          rcases (show s = 0 ∨ s = 1 ∨ s = 2 by omega) with e | e | e
          · exact e
          · rw [e] at hw; have : 9 ≤ w := hw.1; omega
          · rw [e] at hw; have : 13 ≤ w := hw.1; omega
        have hO := hS.1 e0
        rw [if_neg (show ¬ (9 : Int32) ≤ nI w from nI_ge (b := 9) (by omega) (by omega)), if_pos (show w < 9 by omega), if_neg (by omega)]
  · have e0 : s = 0 := by
      rcases (show s = 0 ∨ s = 1 ∨ s = 2 by omega) with e | e | e
      · exact e
      · rw [e] at hw; have : 9 ≤ w := hw.1; omega
      · rw [e] at hw; have : 13 ≤ w := hw.1; omega
    have hO := hS.1 e0
    rw [if_neg (show ¬ (5 : Int32) ≤ nI w from nI_ge (b := 5) (by omega) (by omega)), if_pos (show w < 5 by omega), if_neg (show ¬ w = 5 by omega), hr.1, bb_some, og h.1, bb_some, hO.1.1 0 (by omega)]
    exact lt01 (b := 8) (by omega) (by omega)
end
