/-! orders of up to five: figures of a code, the next order -/
def dg (n c i : Nat) : Nat := c / n ^ (n - 1 - i) % n
def isPb (n : Nat) : Nat → Nat → Nat → Bool
  | 0, _, _ => true
  | k + 1, left, met => !(met.testBit (left % n)) && isPb n k (left / n) (met ||| 2 ^ (left % n))
def isP (n c : Nat) : Bool := isPb n n c 0
def ats (p : Nat → Nat) : Nat → Option Nat
  | 0 => none
  | k + 1 => if p k ≤ p (k + 1) then some k else ats p k
def oth (p : Nat → Nat) (q : Nat) : Nat → Nat
  | 0 => 0
  | k + 1 => if k + 1 ≤ q + 1 then k + 1 else if p q ≤ p (k + 1) then k + 1 else oth p q k
def sw (p : Nat → Nat) (i j : Nat) : Nat → Nat := fun x => if x = j then p i else if x = i then p j else p x
def rvs : Nat → Nat → Nat → (Nat → Nat) → Nat → Nat
  | 0, _, _, p => p
  | f + 1, lo, hi, p => if hi ≤ lo then p else rvs f (lo + 1) (hi - 1) (sw p lo hi)
def nx (n : Nat) (p : Nat → Nat) : Option (Nat → Nat) := match ats p (n - 1) with
  | none => none
  | some q => some (rvs 5 (q + 1) (n - 1) (sw p q (oth p q (n - 1))))
def fnd (n : Nat) : Nat → Nat → Option Nat
  | 0, _ => none
  | f + 1, x => if isP n x = true then some x else fnd n f (x + 1)
def nxk (n c : Nat) : Bool := match nx n (dg n c), fnd n (n ^ n - (c + 1)) (c + 1) with
  | none, none => true
  | some p, some x => decide (∀ i, i < n → p i = dg n x i)
  | _, _ => false
def chk (n : Nat) : Nat → Bool
  | 0 => true
  | c + 1 => (!isP n c || nxk n c) && chk n c
set_option maxRecDepth 100000 in
theorem chk_ok : ∀ n, n < 6 → chk n (n ^ n) = true := by decide +kernel
theorem chk_el {n : Nat} : ∀ N, chk n N = true → ∀ c, c < N → isP n c = true → nxk n c = true := by
  intro N
  induction N with
  | zero => intro _ c hc; omega
  | succ N ih =>
    intro h c hc hp
    have h : ((!isP n N || nxk n N) && chk n N) = true := h
    rw [Bool.and_eq_true] at h
    by_cases e : c = N
    · subst e
      have h1 := h.1
      rw [hp] at h1
      exact h1
    · exact ih h.2 c (by omega) hp
theorem nx_ok {n c : Nat} (hn : n < 6) (hc : c < n ^ n) (hp : isP n c = true) : nxk n c = true := chk_el _ (chk_ok n hn) c hc hp
def fst0 (n : Nat) : Bool := match fnd n (n ^ n) 0 with
  | none => false
  | some c => decide (∀ i, i < n → dg n c i = i)
set_option maxRecDepth 100000 in
theorem fst_ok : ∀ n, n < 6 → fst0 n = true := by decide +kernel
set_option maxRecDepth 100000 in
theorem cnt_ok : ∀ n, n < 6 → cb (isP n) (n ^ n) ≤ 120 := by decide +kernel
