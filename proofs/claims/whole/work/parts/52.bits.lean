/-! sets as bits -/
theorem sl31 : ∀ n, n < 32 → ((nI n &&& 31).toBitVec.smod 32).toNat = n := by decide
theorem or_at (a b : Nat) : nI a ||| nI b = nI (a ||| b) := by
  apply Int32.toBitVec_inj.mp
  simp [nI, BitVec.ofNat_or]
theorem and_at (a b : Nat) : nI a &&& nI b = nI (a &&& b) := by
  apply Int32.toBitVec_inj.mp
  simp [nI, BitVec.ofNat_and]
theorem xor_at (a b : Nat) : nI a ^^^ nI b = nI (a ^^^ b) := by
  apply Int32.toBitVec_inj.mp
  simp [nI, BitVec.ofNat_xor]
theorem bit_at {m s : Nat} (hm : m < 2 ^ 31) (hs : s < 32) : ((nI m >>> (nI s &&& 31)) &&& 1) = if m.testBit s = true then 1 else 0 := by
  rw [pk_shrN hm _ s (sl31 s hs), pk_andN (k := 1) (by have := Nat.div_le_self m (2 ^ s); omega) rfl, Nat.testBit_eq_decide_div_mod_eq]
  rcases Nat.mod_two_eq_zero_or_one (m / 2 ^ s) with h | h <;> simp [h] <;> rfl
theorem bit_0 {m s : Nat} (hm : m < 2 ^ 31) (hs : s < 32) : ((nI m >>> (nI s &&& 31)) &&& 1) = 0 ↔ m.testBit s = false := by
  rw [bit_at hm hs]
  cases m.testBit s <;> decide
theorem bit_1 {m s : Nat} (hm : m < 2 ^ 31) (hs : s < 32) : ((nI m >>> (nI s &&& 31)) &&& 1) = 1 ↔ m.testBit s = true := by
  rw [bit_at hm hs]
  cases m.testBit s <;> decide
theorem one_sl {s : Nat} (hs : s < 32) : (1 : Int32) <<< (nI s &&& 31) = nI (2 ^ s) := by
  have h := pk_shlN (n := 1) (nI s &&& 31) s (sl31 s hs) (by
    have : 2 ^ s ≤ 2 ^ 31 := Nat.pow_le_pow_right (by omega) (by omega)
    omega)
  rw [show (1 : Int32) = nI 1 from rfl, h, Nat.one_mul]
theorem all_sl {n : Nat} (hs : n < 31) : (1 : Int32) <<< (nI n &&& 31) - 1 = nI (2 ^ n - 1) := by
  rw [one_sl (by omega)]
  exact pk_sub (b := 1) (Nat.one_le_two_pow)
/-- a set without one -/
def clr (m s : Nat) : Nat := m &&& (4294967295 ^^^ 2 ^ s)
theorem clr_at (m : Nat) {s : Nat} (hs : s < 32) : nI m &&& ((1 : Int32) <<< (nI s &&& 31) ^^^ -1) = nI (clr m s) := by
  rw [one_sl hs, show (-1 : Int32) = nI 4294967295 from rfl, xor_at, and_at, Nat.xor_comm]
  rfl
theorem clr_bit {m s i : Nat} (hi : i < 32) : (clr m s).testBit i = (m.testBit i && !decide (i = s)) := by
  unfold clr
  rw [Nat.testBit_and, Nat.testBit_xor, show (4294967295 : Nat) = 2 ^ 32 - 1 from rfl, Nat.testBit_two_pow_sub_one, Nat.testBit_two_pow]
  by_cases h : s = i
  · subst h; simp [hi]
  · simp [hi, h, Ne.symm h]
theorem clr_le (m s : Nat) : clr m s ≤ m := Nat.and_le_left
/-- a set without some -/
def dif (m k : Nat) : Nat := m &&& (4294967295 ^^^ k)
theorem dif_at (m k : Nat) : nI m &&& (nI k ^^^ -1) = nI (dif m k) := by
  rw [show (-1 : Int32) = nI 4294967295 from rfl, xor_at, and_at, Nat.xor_comm]
  rfl
theorem dif_bit {m k i : Nat} (hi : i < 32) : (dif m k).testBit i = (m.testBit i && !k.testBit i) := by
  unfold dif
  rw [Nat.testBit_and, Nat.testBit_xor, show (4294967295 : Nat) = 2 ^ 32 - 1 from rfl, Nat.testBit_two_pow_sub_one]
  simp [hi]
theorem dif_le (m k : Nat) : dif m k ≤ m := Nat.and_le_left
theorem all_bit {n i : Nat} : (2 ^ n - 1).testBit i = decide (i < n) := Nat.testBit_two_pow_sub_one n i
theorem pw8 {n : Nat} (h : n ≤ 8) : 2 ^ n ≤ 256 := by
  have : 2 ^ n ≤ 2 ^ 8 := Nat.pow_le_pow_right (by omega) h
  omega
theorem pw10 {n : Nat} (h : n ≤ 10) : 2 ^ n ≤ 1024 := by
  have : 2 ^ n ≤ 2 ^ 10 := Nat.pow_le_pow_right (by omega) h
  omega
theorem or_lt {a b n : Nat} (ha : a < 2 ^ n) (hb : b < 2 ^ n) : a ||| b < 2 ^ n := Nat.or_lt_two_pow ha hb
theorem pw_lt {a b : Nat} (h : a < b) : 2 ^ a < 2 ^ b := Nat.pow_lt_pow_right (by omega) h
theorem fo_or {p : Nat → Bool} {n i : Nat} (m : Nat) : (fo (fun s acc => if p s = true then acc ||| 2 ^ s else acc) n m).testBit i = (m.testBit i || (decide (i < n) && p i)) := by
  induction n with
  | zero => simp [fo]
  | succ n ih =>
    show (if p n = true then _ else _ : Nat).testBit i = _
    by_cases h : p n = true
    · rw [if_pos h, Nat.testBit_or, ih, Nat.testBit_two_pow]
      by_cases h2 : n = i
      · subst h2; simp [h]
      · have e : decide (i < n + 1) = decide (i < n) := by by_cases h3 : i < n <;> simp [h3] <;> omega
        simp [h2, e]
    · rw [if_neg h, ih]
      by_cases h2 : n = i
      · subst h2; simp [h]
      · have e : decide (i < n + 1) = decide (i < n) := by by_cases h3 : i < n <;> simp [h3] <;> omega
        simp [e]
theorem fo_orlt {p : Nat → Bool} {n N : Nat} {m : Nat} (hm : m < 2 ^ N) (hn : n ≤ N) : fo (fun s acc => if p s = true then acc ||| 2 ^ s else acc) n m < 2 ^ N := by
  induction n with
  | zero => exact hm
  | succ n ih =>
    show (if p n = true then _ else _ : Nat) < _
    have := ih (by omega)
    split
    · exact or_lt this (pw_lt (by omega))
    · exact this
/-- how many are in a set of at most ten -/
def pc (m : Nat) : Nat := m % 2 + m / 2 % 2 + m / 4 % 2 + m / 8 % 2 + m / 16 % 2 + m / 32 % 2 + m / 64 % 2 + m / 128 % 2 + m / 256 % 2 + m / 512 % 2
set_option maxRecDepth 100000 in
theorem pc_at (M : Mem) : ∀ m, m < 1024 → f_J6_bitCount_0f7a4 M (nI m) = some (nI (pc m)) := by
  have h : ∀ m, m < 1024 → f_J6_bitCount_0f7a4 Mem0 (nI m) = some (nI (pc m)) := by decide +kernel
  exact h
