/-! loops and numbers -/
theorem iter_inv {σ ρ : Type} {f : σ → Option (σ ⊕ ρ)} (I : σ → Prop) (μ : σ → Nat) (P : ρ → Prop)
    (h : ∀ s, I s → (∃ s', f s = some (.inl s') ∧ I s' ∧ μ s' < μ s) ∨ (∃ r, f s = some (.inr r) ∧ P r)) :
    ∀ (n : Nat) (s : σ), I s → μ s < n → ∃ r, iter f n s = some r ∧ P r := by
  intro n
  induction n with
  | zero => intro s _ h; omega
  | succ n ih =>
    intro s hI hn
    rcases h s hI with ⟨s', h1, h2, h3⟩ | ⟨r, h1, h2⟩
    · obtain ⟨r, h4, h5⟩ := ih s' h2 (by omega)
      exact ⟨r, by simp [iter, h1, h4], h5⟩
    · exact ⟨r, by simp [iter, h1], h2⟩
/-- what a loop over 0 .. n - 1 makes of a -/
def fo {α : Type} (g : Nat → α → α) : Nat → α → α
  | 0, a => a
  | n + 1, a => g n (fo g n a)
theorem iter_step {σ ρ : Type} {f : σ → Option (σ ⊕ ρ)} {s s' : σ} {F : Nat} (h : f s = some (.inl s')) : iter f (F + 1) s = iter f F s' := by simp [iter, h]
theorem iter_end {σ ρ : Type} {f : σ → Option (σ ⊕ ρ)} {s : σ} {r : ρ} {F : Nat} (h : f s = some (.inr r)) : iter f (F + 1) s = some r := by simp [iter, h]
theorem iter_to {σ ρ α : Type} {f : σ → Option (σ ⊕ ρ)} (n : Nat) (g : Nat → α → α) (enc : Nat → α → σ) (I : Nat → α → Prop)
    (hs : ∀ i a, i < n → I i a → f (enc i a) = some (.inl (enc (i + 1) (g i a))) ∧ I (i + 1) (g i a)) (a : α) (h0 : I 0 a) :
    ∀ (k F : Nat), k ≤ n → k ≤ F → iter f F (enc 0 a) = iter f (F - k) (enc k (fo g k a)) ∧ I k (fo g k a) := by
  intro k
  induction k with
  | zero => intro F _ _; exact ⟨rfl, h0⟩
  | succ k ih =>
    intro F h1 h2
    obtain ⟨e, hI⟩ := ih F (by omega) (by omega)
    obtain ⟨e2, hI2⟩ := hs k _ (by omega) hI
    refine ⟨?_, hI2⟩
    rw [e]
    have : F - k = (F - (k + 1)) + 1 := by omega
    rw [this]
    exact iter_step e2
theorem iter_for {σ ρ α : Type} {f : σ → Option (σ ⊕ ρ)} (n : Nat) (g : Nat → α → α) (enc : Nat → α → σ) (out : α → ρ) (I : Nat → α → Prop)
    (hs : ∀ i a, i < n → I i a → f (enc i a) = some (.inl (enc (i + 1) (g i a))) ∧ I (i + 1) (g i a))
    (hx : ∀ a, I n a → f (enc n a) = some (.inr (out a))) (a : α) (h0 : I 0 a) (F : Nat) (hF : n < F) : iter f F (enc 0 a) = some (out (fo g n a)) ∧ I n (fo g n a) := by
  obtain ⟨e, hI⟩ := iter_to n g enc I hs a h0 n F (Nat.le_refl _) (by omega)
  refine ⟨?_, hI⟩
  rw [e]
  have : F - n = (F - n - 1) + 1 := by omega
  rw [this]
  exact iter_end (hx _ hI)
