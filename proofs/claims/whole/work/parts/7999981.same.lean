/-! both sides stop at one line -/
section
variable {k r : Nat → Nat} {s i m m' b : Nat} {F : Nat × Int32}
theorem lg_no0 (h : tD k i = 0) : ¬ LnG k s i := fun hg => by have := hg.1.1; omega
theorem m_eq (h : ∀ q, q < m → LnG k s (rn k F r q).1) (h' : ∀ q, q < m' → LnG k s (rn k F r q).1) (e : ¬ LnG k s (rn k F r m).1) (e' : ¬ LnG k s (rn k F r m').1) : m = m' := by
  rcases Nat.lt_trichotomy m m' with g | g | g
  · exact absurd (h' m g) e
  · exact g
  · exact absurd (h m' g) e'
end
