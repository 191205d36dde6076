/-! the invariant between the class's memory and the model's -/
/-- how far off two desks are; who hear a desk, as bits (a: an office's 75 numbers) -/
def gp (a : Nat → Nat) (s d : Nat) : Nat := if a (6 + 5 * d) ≤ a (6 + 5 * s) then a (6 + 5 * s) - a (6 + 5 * d) else a (6 + 5 * d) - a (6 + 5 * s)
def hr (a : Nat → Nat) (s d : Nat) : Bool := decide (s ≠ d ∧ gp a s d ≤ a 2)
def hb (a : Nat → Nat) (d : Nat) : Nat := fo (fun s acc => if hr a s d = true then acc ||| 2 ^ s else acc) (a 0) 0
def OkO (a : Nat → Nat) : Prop := (a 0 ≤ 8 ∧ a 1 ≤ 10 ∧ a 2 ≤ 30 ∧ a 3 ≤ 20 ∧ a 4 ≤ 9) ∧ (∀ d, d < a 0 → a (5 + 5 * d) ≤ 4 ∧ a (6 + 5 * d) ≤ 30 ∧ (1 ≤ a (7 + 5 * d) ∧ a (7 + 5 * d) ≤ 12) ∧ a (8 + 5 * d) ≤ 20 ∧ a (9 + 5 * d) ≤ 10) ∧ ∀ c, c < a 1 → a (45 + 3 * c) < a 0 ∧ a (46 + 3 * c) ≤ 99 ∧ 1 ≤ a (47 + 3 * c) ∧ a (47 + 3 * c) ≤ 20
/-- the class's office o holds a -/
def OC (M : Mem) (o : Nat) (a : Nat → Nat) : Prop := (∀ i, i < 5 → M.1 o i = nI (a i)) ∧ (∀ d, d < a 0 → ∀ j, j < 5 → M.1 (o + 1 + j) d = nI (a (5 + 5 * d + j))) ∧ (∀ c, c < a 1 → ∀ j, j < 3 → M.1 (o + 6 + j) c = nI (a (45 + 3 * c + j))) ∧ (∀ d, d < a 0 → M.1 (o + 9) d = nI (hb a d)) ∧ ∀ d, d < a 0 → ∀ s, s < a 0 → M.1 (o + 10) (8 * d + s) = nI (gp a s d)
/-- the model's numbers from p on are a -/
def MS (M : Mem) (p n : Nat) (a : Nat → Nat) : Prop := ∀ i, i < n → M.1 256 (p + i) = nI (a i)
def OR (M : Mem) (o p : Nat) : Prop := ∃ a, OkO a ∧ MS M p 75 a ∧ OC M o a
def OkD (a : Nat → Nat) : Prop := a 0 ≤ 40 ∧ ∀ k, k < a 0 → a (1 + 2 * k) ≤ 3 ∧ a (2 + 2 * k) ≤ 9
def DC (M : Mem) (o : Nat) (a : Nat → Nat) : Prop := M.1 o 0 = nI (a 0) ∧ ∀ k, k < a 0 → M.1 (o + 1) k = nI (a (1 + 2 * k)) ∧ M.1 (o + 2) k = nI (a (2 + 2 * k))
def DR (M : Mem) (o p : Nat) : Prop := ∃ a, OkD a ∧ MS M p 81 a ∧ DC M o a
def LR (M : Mem) (o p : Nat) : Prop := ∃ n, n ≤ 8 ∧ M.1 256 p = nI n ∧ M.1 o 0 = nI n ∧ ∀ k, k < n → (∃ d, d ≤ 7 ∧ M.1 256 (p + 2 + 4 * k) = nI d ∧ M.1 (o + 1) k = nI d) ∧ M.1 (o + 2) k = M.1 256 (p + 3 + 4 * k) ∧ M.1 (o + 3) k = M.1 256 (p + 4 + 4 * k) ∧ ((M.1 256 (p + 1 + 4 * k) = 0 ∧ M.1 (o + 2) k = -1 ∧ M.1 (o + 3) k = -1) ∨ (M.1 256 (p + 1 + 4 * k) = 1 ∧ ∃ w r, w ≤ 7 ∧ 1 ≤ r ∧ r ≤ 12 ∧ M.1 (o + 2) k = nI w ∧ M.1 (o + 3) k = nI r))
/-- all that is told: the class's Told T, the model's numbers from B on -/
def TR (M : Mem) (T B : Nat) : Prop :=
  (∃ n, n ≤ 600 ∧ M.1 T 1 = nI n ∧ M.1 256 (B + 4) = nI n ∧ ∀ i, i < n → M.1 256 (B + 10 + i) = M.1 (T + 1) i &&& 255) ∧ (∀ i, i < 600 → fits .byte (.int (M.1 (T + 1) i)) = true) ∧
  M.1 256 (B + 5) = M.1 T 2 ∧ M.1 256 (B + 6) = M.1 T 3 ∧
  ∃ c : Nat → Nat, (∀ s, s < 3 → c s ≤ 2 ∧ M.1 (T + 2) s = nI (c s) ∧ M.1 256 (B + s) = nI (c s)) ∧ (∀ k, k < c 0 → OR M (T + 6 + 18 * k) (B + 610 + 75 * k)) ∧ (∀ k, k < c 1 → DR M (T + 17 + 18 * k) (B + 760 + 81 * k)) ∧ ∀ k, k < c 2 → LR M (T + 20 + 18 * k) (B + 922 + 33 * k)
def Inv (M : Mem) : Prop := Sk M ∧ TR M 2 0 ∧ ∀ j, j < 3 → (M.1 45 j = 0 ∨ M.1 45 j = 1) ∧ M.1 257 j = M.1 45 j ∧ (M.1 45 j = 1 → TR M (129 + 42 * j) (988 * (j + 1)))
theorem inv_ini {M : Mem} (hS : Sk M) (hI : ∀ q ∈ intTab, M.1 q.1 q.2.1 = q.2.2) (h3 : ∀ i, i < 600 → M.1 3 i = 0) : Inv M := by
  have g : ∀ n k v, (n, k, v) ∈ intTab → M.1 n k = v := fun n k v h => hI (n, k, v) h
  refine ⟨hS, ⟨⟨0, by omega, g 2 1 0 (by decide), g 256 4 0 (by decide), fun i hi => absurd hi (by omega)⟩, fun i hi => ?_, ?_, ?_, ⟨fun _ => 0, fun s hs => ?_, fun k hk => absurd hk (Nat.not_lt_zero k), fun k hk => absurd hk (Nat.not_lt_zero k), fun k hk => absurd hk (Nat.not_lt_zero k)⟩⟩, fun j hj => ?_⟩
  · show fits .byte (.int (M.1 3 i)) = true
    rw [h3 i hi]
    rfl
  · rw [g 2 2 0 (by decide)]; exact g 256 5 0 (by decide)
  · rw [g 2 3 (-1) (by decide)]; exact g 256 6 (-1) (by decide)
  · refine ⟨Nat.zero_le _, ?_⟩
    rcases (show s = 0 ∨ s = 1 ∨ s = 2 by omega) with rfl | rfl | rfl
    · exact ⟨g 4 0 0 (by decide), g 256 0 0 (by decide)⟩
    · exact ⟨g 4 1 0 (by decide), g 256 1 0 (by decide)⟩
    · exact ⟨g 4 2 0 (by decide), g 256 2 0 (by decide)⟩
  · rcases (show j = 0 ∨ j = 1 ∨ j = 2 by omega) with rfl | rfl | rfl
    · have e := g 45 0 0 (by decide)
      exact ⟨Or.inl e, by rw [e]; exact g 257 0 0 (by decide), fun h => by rw [e] at h; exact absurd h (by decide)⟩
    · have e := g 45 1 0 (by decide)
      exact ⟨Or.inl e, by rw [e]; exact g 257 1 0 (by decide), fun h => by rw [e] at h; exact absurd h (by decide)⟩
    · have e := g 45 2 0 (by decide)
      exact ⟨Or.inl e, by rw [e]; exact g 257 2 0 (by decide), fun h => by rw [e] at h; exact absurd h (by decide)⟩
theorem sk_shp {M : Mem} (h : Sk M) {n : Nat} {x : Sh} (hn : 0 < n) (hx : SH[n - 1]? = some x) : shp M n = some x := by
  unfold shp
  rw [if_neg (by omega), h.1]
  exact hx
