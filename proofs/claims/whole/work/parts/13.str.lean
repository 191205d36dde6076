/-! String constants: length and charAt (the words' texts) -/
def strLen (n : Nat) : Option Int32 := if 2000 ≤ n ∧ n < 2015 then some (Int32.ofNat (stBy.getD (n - 2000) []).length) else none
def strAt (n : Nat) (i : Int32) : Option Int32 := if (2000 ≤ n ∧ n < 2015) ∧ ¬ i < 0 then (stBy.getD (n - 2000) [])[i.toNatClampNeg]? else none
section SR
variable {l : Launch} {G : Gv} {Y : MI} {lim : Nat × Nat} {α : Type} {K : α → Option (Option Value × Mem)} {pc n idx : Nat} {ls : Loc_s} {st : List MV} {M : Mem}
theorem s_strLen {f : Int32 → Option α} (hl : Cond.methodLink Y.1.cls idx ⟨"java/lang/String", "length", "()I"⟩ ∈ GW) (hr : 5 ≤ Y.2.2.2.2.frames ∧ 200 ≤ Y.2.2.2.2.locals) (hcat : (st.map mcat).sum ≤ 8) (hd : decode Y.2.1 pc = .ok (.invokevirtual idx, 3)) (kk : ∀ v, Sim l G Y lim (f v) K (pc + 3) ls (.inl v :: st) M) : Sim l G Y lim ((strLen n).bind f) K pc ls (.inr (.inr n) :: st) M := sorry
theorem s_strAt {f : Int32 → Option α} {i : Int32} (hl : Cond.methodLink Y.1.cls idx ⟨"java/lang/String", "charAt", "(I)C"⟩ ∈ GW) (hr : 5 ≤ Y.2.2.2.2.frames ∧ 200 ≤ Y.2.2.2.2.locals) (hcat : (st.map mcat).sum ≤ 8) (hd : decode Y.2.1 pc = .ok (.invokevirtual idx, 3)) (kk : ∀ v, Sim l G Y lim (f v) K (pc + 3) ls (.inl v :: st) M) : Sim l G Y lim ((strAt n i).bind f) K pc ls (.inl i :: .inr (.inr n) :: st) M := sorry
end SR
