/-! the text: characters and tokens -/
def kf (v : Int32) : Nat := if v = 10 ∨ v = 32 then 1 else if v = 59 then 2 else if 48 ≤ v ∧ v ≤ 57 then 10 + (v - 48).toNatClampNeg else if 97 ≤ v ∧ v ≤ 122 then 33 + (v - 97).toNatClampNeg else 3
def kv (i : Nat) : Int32 := nI i - 128
theorem kf_all : ∀ i : Fin 384, ((kv i = 10 ∨ kv i = 32) ↔ kf (kv i) = 1) ∧ (kv i = 59 ↔ kf (kv i) = 2) ∧ ((¬ kv i < 97 ∧ ¬ 122 < kv i) ↔ 33 ≤ kf (kv i)) ∧ ((¬ kv i < 48 ∧ ¬ 57 < kv i) ↔ (10 ≤ kf (kv i) ∧ kf (kv i) ≤ 19)) ∧ (33 ≤ kf (kv i) → kv i = nI (kf (kv i) + 64)) ∧ (10 ≤ kf (kv i) → kf (kv i) ≤ 19 → kv i = nI (kf (kv i) + 38)) ∧ (1 ≤ kf (kv i) ∧ kf (kv i) ≤ 58 ∧ (kf (kv i) ≤ 3 ∨ (10 ≤ kf (kv i) ∧ kf (kv i) ≤ 19) ∨ 33 ≤ kf (kv i))) := by decide +kernel
theorem kf_and : ∀ i : Fin 256, kf (kv i &&& 255) = kf (kv i) ∧ kv i &&& 255 = kv ((kv i &&& 255).toNatClampNeg + 128) ∧ (kv i &&& 255).toNatClampNeg < 256 ∧ ¬ (kv i &&& 255) < 0 := by decide +kernel
def KV (v : Int32) (c : Nat) : Prop := ∃ i, i < 384 ∧ v = kv i ∧ c = kf v
theorem KV_f {v : Int32} {c : Nat} (h : KV v c) : ((v = 10 ∨ v = 32) ↔ c = 1) ∧ (v = 59 ↔ c = 2) ∧ ((¬ v < 97 ∧ ¬ 122 < v) ↔ 33 ≤ c) ∧ ((¬ v < 48 ∧ ¬ 57 < v) ↔ (10 ≤ c ∧ c ≤ 19)) ∧ (33 ≤ c → v = nI (c + 64)) ∧ (10 ≤ c → c ≤ 19 → v = nI (c + 38)) ∧ (1 ≤ c ∧ c ≤ 58 ∧ (c ≤ 3 ∨ (10 ≤ c ∧ c ≤ 19) ∨ 33 ≤ c)) := by
  obtain ⟨i, hi, h1, h2⟩ := h
  subst h2; subst h1
  exact kf_all ⟨i, hi⟩
theorem KV_b {v : Int32} (h : fits .byte (.int v) = true) : KV v (kf v) ∧ KV (v &&& 255) (kf v) ∧ ¬ (v &&& 255) < 0 := by
  have h1 : -128 ≤ v.toInt ∧ v.toInt ≤ 127 := by
    simp [fits] at h
    simp only [Int32.le_iff_toInt_le] at h
    have e1 : (-128 : Int32).toInt = -128 := rfl
    have e2 : (127 : Int32).toInt = 127 := rfl
    omega
  obtain ⟨i, hi⟩ : ∃ i : Nat, v.toInt = (i : Int) - 128 := ⟨(v.toInt + 128).toNat, by omega⟩
  have hl : i < 256 := by omega
  have e : v = kv i := by
    apply Int32.toInt_inj.mp
    rw [hi]
    unfold kv
    have := nI_toInt (show i < 2 ^ 31 by omega)
    rw [Int32.toInt_sub, this]
    have e1 : (128 : Int32).toInt = 128 := rfl
    rw [e1, Int.bmod_eq_of_le (by omega) (by omega)]
  subst e
  obtain ⟨g1, g2, g3, g4⟩ := kf_and ⟨i, hl⟩
  exact ⟨⟨i, by omega, rfl, rfl⟩, ⟨_, by omega, g2, g1.symm⟩, g4⟩
theorem KV_let {v : Int32} {c : Nat} (h : KV v c) (M : Mem) : f_X7_isLetter M v = some (if 33 ≤ c then 1 else 0) ∧ f_X12_isLetter M v = some (if 33 ≤ c then 1 else 0) := by
  have := (KV_f h).2.2.1
  unfold f_X7_isLetter f_X12_isLetter
  by_cases h1 : v < 97
  · rw [if_pos h1, if_neg (fun hh => (this.mpr hh).1 h1)]; exact ⟨rfl, rfl⟩
  · by_cases h2 : 122 < v
    · rw [if_neg h1, if_pos h2, if_neg (fun hh => (this.mpr hh).2 h2)]; exact ⟨rfl, rfl⟩
    · rw [if_neg h1, if_neg h2, if_pos (this.mp ⟨h1, h2⟩)]; exact ⟨rfl, rfl⟩
theorem KV_dig {v : Int32} {c : Nat} (h : KV v c) (M : Mem) : f_X7_isDigit M v = some (if 10 ≤ c ∧ c ≤ 19 then 1 else 0) ∧ f_X12_isDigit M v = some (if 10 ≤ c ∧ c ≤ 19 then 1 else 0) := by
  have := (KV_f h).2.2.2.1
  unfold f_X7_isDigit f_X12_isDigit
  by_cases h1 : v < 48
  · rw [if_pos h1, if_neg (fun hh => (this.mpr hh).1 h1)]; exact ⟨rfl, rfl⟩
  · by_cases h2 : 57 < v
    · rw [if_neg h1, if_pos h2, if_neg (fun hh => (this.mpr hh).2 h2)]; exact ⟨rfl, rfl⟩
    · rw [if_neg h1, if_neg h2, if_pos (this.mp ⟨h1, h2⟩)]; exact ⟨rfl, rfl⟩
/-- how far P goes on -/
def sc (P : Nat → Bool) (k : Nat → Nat) : Nat → Nat → Nat
  | 0, p => p
  | f + 1, p => if P (k p) = true then sc P k f (p + 1) else p
theorem sc_ok {P : Nat → Bool} {k : Nat → Nat} {n : Nat} (h0 : P 0 = false) (hk : ∀ i, n ≤ i → k i = 0) : ∀ (f p : Nat), p ≤ n → n < p + f → p ≤ sc P k f p ∧ sc P k f p ≤ n ∧ (∀ i, p ≤ i → i < sc P k f p → P (k i) = true) ∧ P (k (sc P k f p)) = false := by
  intro f
  induction f with
  | zero => intro p h1 h2; omega
  | succ f ih =>
    intro p h1 h2
    unfold sc
    by_cases h : P (k p) = true
    · rw [if_pos h]
      have hp : p < n := by
        rcases Nat.lt_or_ge p n with h' | h'
        · exact h'
        · rw [hk p h', h0] at h; cases h
      obtain ⟨g1, g2, g3, g4⟩ := ih (p + 1) (by omega) (by omega)
      refine ⟨by omega, g2, fun i hi hi' => ?_, g4⟩
      rcases Nat.eq_or_lt_of_le hi with e | e
      · rw [← e]; exact h
      · exact g3 i (by omega) hi'
    · rw [if_neg h]
      exact ⟨Nat.le_refl _, h1, fun i hi hi' => absurd hi' (by omega), by simpa using h⟩
def pSp (c : Nat) : Bool := decide (c = 1)
def pLt (c : Nat) : Bool := decide (33 ≤ c)
def pDg (c : Nat) : Bool := decide (10 ≤ c ∧ c ≤ 19)
/-- a token from p on: where it begins, where it ends -/
def ts (k : Nat → Nat) (p : Nat) : Nat := sc pSp k 700 p
def ee (k : Nat → Nat) (s : Nat) : Nat := if k s = 0 then s else if 33 ≤ k s then sc pLt k 700 s else if 10 ≤ k s then sc pDg k 700 s else s + 1
def te (k : Nat → Nat) (p : Nat) : Nat := ee k (ts k p)
/-- the value of a number, the code of a word -/
def nv (k : Nat → Nat) (s : Nat) : Nat → Nat
  | 0 => 0
  | m + 1 => 10 * nv k s m + (k (s + m) - 10)
def cd (k : Nat → Nat) : Nat → Nat
  | 0 => 0
  | m + 1 => 32 * cd k m + k m
theorem cd_inj {a b : Nat → Nat} : ∀ (m m' : Nat), (∀ i, i < m → 1 ≤ a i ∧ a i ≤ 26) → (∀ i, i < m' → 1 ≤ b i ∧ b i ≤ 26) → cd a m = cd b m' → m = m' ∧ ∀ i, i < m → a i = b i := by
  intro m
  induction m with
  | zero =>
    intro m' ha hb h
    cases m' with
    | zero => exact ⟨rfl, fun i hi => absurd hi (by omega)⟩
    | succ m' =>
      have := hb m' (by omega)
      have h : 0 = 32 * cd b m' + b m' := h
      omega
  | succ m ih =>
    intro m' ha hb h
    have g1 := ha m (by omega)
    cases m' with
    | zero =>
      have h : 32 * cd a m + a m = 0 := h
      omega
    | succ m' =>
      have g2 := hb m' (by omega)
      have h : 32 * cd a m + a m = 32 * cd b m' + b m' := h
      have h1 : cd a m = cd b m' := by omega
      have h2 : a m = b m' := by omega
      obtain ⟨e1, e2⟩ := ih m' (fun i hi => ha i (by omega)) (fun i hi => hb i (by omega)) h1
      subst e1
      refine ⟨rfl, fun i hi => ?_⟩
      rcases Nat.eq_or_lt_of_le (show i ≤ m by omega) with e | e
      · rw [e]; exact h2
      · exact e2 i e
/-- the letters of the words, in the order of the class -/
def wl : List (List Nat) := [[16, 12, 1, 9, 14], [19, 15, 6, 20], [4, 5, 1, 6], [6, 1, 9, 18], [14, 5, 1, 18], [3, 1, 12, 12], [5, 1, 18], [13, 1, 3, 8, 9, 14, 5], [6, 1, 4, 5], [18, 9, 14, 7], [1, 23, 1, 25], [2, 1, 3, 11], [18, 5, 1, 4], [12, 9, 6, 20, 5, 4], [19, 9, 12, 5, 14, 20]]
def wlen (w : Nat) : Nat := (wl.getD w []).length
def wc (w i : Nat) : Nat := (wl.getD w []).getD i 0
theorem wl_ok : ∀ w, w < 15 → strLen (2000 + w) = some (nI (wlen w)) ∧ (3 ≤ wlen w ∧ wlen w ≤ 7) ∧ (∀ i, i < wlen w → strAt (2000 + w) (nI i) = some (nI (96 + wc w i)) ∧ 1 ≤ wc w i ∧ wc w i ≤ 26) ∧ f_X7_spelling (fun _ _ => 0, fun _ _ => 0, fun _ _ => 0, []) (nI w) = some (2000 + w) := by decide +kernel
