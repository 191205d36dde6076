/-! the context over calls -/
theorem Cx.warm {G : Gv} {s U : State} (h : Cx G s) (hW : s.WarmedH U.vm) (hz : s.heap.size ≤ U.heap.size) (hq : ∀ a : Nat, a < s.heap.size → ¬ A0 G a → U.heap[a]? = s.heap[a]?) : Cx G U := by
  obtain ⟨h1, h2, h3, ⟨w1, w2, w3⟩, h5, ⟨s1, s2, s3, s4⟩, h6⟩ := h
  have hA := hW.alike
  refine ⟨va_K.moved hA h1, h2, Nat.le_trans h3 hz, ⟨fun w hw a => word_at hW (good_of_word (List.mem_filter.mp hw).2) (w1 w hw #[]), fun w hw => ?_, fun C hC => va_AO.moved hA (w3 C hC)⟩, fun j hj => ⟨va_T.moved hA ((h5 j hj).1.kept hq), va_Z.moved hA ((h5 j hj).2.kept hq)⟩, ⟨vk_S.moved hA (s1.kept hq), fun i hi => vk_R.warm hW (s2 i hi), va_Z.moved hA (s3.kept hq), va_Zq.moved hA (s4.kept hq)⟩, va_T.moved hA (va_T.kept h6 hq)⟩
  have h9 := w2 w hw
  simp only [NW, List.mem_cons, List.not_mem_nil, or_false] at hw
  rcases hw with rfl | rfl | rfl | rfl | rfl | rfl | rfl | rfl | rfl | rfl | rfl | rfl | rfl | rfl | rfl | rfl | rfl | rfl | rfl <;> first | exact va_Nw.warmM hW h9 | exact va_Nw.warmF hW h9
theorem Cx.calling {G : Gv} {U : State} (h : Cx G U) (g : JFrame) (mk : MethodId) (a : Array Value) : Cx G (U.calling g mk a) :=
  Cx.warm (U := U.calling g mk a) h (State.WarmedH.refl U) (Nat.le_refl _) (fun _ _ _ => rfl)
/-! lists of cells -/
theorem wsOf_at {G : Gv} {M : Mem} {k : Nat} (h : k < M.2.2.2.length) : (wsOf G M)[k]? = some (G.2.1 (k + 1), ent G M (k + 1)) := by
  simp [wsOf, h]
theorem wsOf_lt {G : Gv} {M : Mem} {k : Nat} {q : Nat × va_E} (h : (wsOf G M)[k]? = some q) : k < M.2.2.2.length ∧ q = (G.2.1 (k + 1), ent G M (k + 1)) := by
  have h1 : k < (wsOf G M).length := (List.getElem?_eq_some_iff.mp h).1
  have h2 : k < M.2.2.2.length := by simpa [wsOf] using h1
  rw [wsOf_at h2] at h
  exact ⟨h2, (Option.some.inj h).symm⟩
theorem shp_lt {M : Mem} {n : Nat} {x : Sh} (h : shp M n = some x) : 0 < n ∧ n - 1 < M.2.2.2.length ∧ n ≤ M.2.2.2.length := by
  unfold shp at h
  split at h
  · cases h
  · have h1 := (List.getElem?_eq_some_iff.mp h).1
    exact ⟨by omega, h1, by omega⟩
theorem wsOf_shp {G : Gv} {M : Mem} {n : Nat} {x : Sh} (h : shp M n = some x) : (wsOf G M)[n - 1]? = some (G.2.1 n, entS G M n x) := by
  obtain ⟨h0, h1, -⟩ := shp_lt h
  have e : n - 1 + 1 = n := by omega
  rw [wsOf_at h1, e]
  unfold ent
  rw [h]
  rfl
theorem wsOf_set {G : Gv} {M M' : Mem} {n : Nat} {x : Sh} {E : va_E} (h : shp M n = some x) (hs : M'.2.2.2 = M.2.2.2) (he : entS G M' n x = E) (ho : ∀ a y, a ≠ n → entS G M' a y = entS G M a y) : (wsOf G M).set (n - 1) (G.2.1 n, E) = wsOf G M' := by
  obtain ⟨h0, h1, -⟩ := shp_lt h
  have e : n - 1 + 1 = n := by omega
  apply List.ext_getElem?
  intro k
  have hsh : ∀ a, shp M' a = shp M a := fun a => by unfold shp; rw [hs]
  by_cases hk : k < M.2.2.2.length
  · rw [wsOf_at (M := M') (by rw [hs]; exact hk)]
    by_cases hn : k = n - 1
    · subst hn
      rw [List.getElem?_set_self (by simpa [wsOf] using h1), e]
      unfold ent
      rw [hsh, h]
      simp [he]
    · rw [List.getElem?_set_ne (fun q => hn q.symm), wsOf_at hk]
      unfold ent
      rw [hsh, ho _ _ (by omega)]
  · rw [List.getElem?_eq_none (by simpa [wsOf] using Nat.le_of_not_lt hk), List.getElem?_eq_none (by simpa [wsOf, hs] using Nat.le_of_not_lt hk)]
theorem wsOf_push {G : Gv} {M : Mem} {x : Sh} : wsOf G M ++ [(G.2.1 (M.2.2.2.length + 1), entS G (wN M x) (M.2.2.2.length + 1) x)] = wsOf G (wN M x) := by
  apply List.ext_getElem?
  intro k
  have hl : (wsOf G M).length = M.2.2.2.length := by simp [wsOf]
  have hN : (wN M x).2.2.2.length = M.2.2.2.length + 1 := by simp [wN]
  by_cases hk : k < M.2.2.2.length
  · rw [List.getElem?_append_left (by omega), wsOf_at hk, wsOf_at (by omega)]
    have e1 : shp (wN M x) (k + 1) = shp M (k + 1) := by
      simp [shp, wN, List.getElem?_append_left hk]
    unfold ent
    rw [e1]
    have e2 : ∀ y, entS G (wN M x) (k + 1) y = entS G M (k + 1) y := by
      intro y
      have hne : ¬ k = M.2.2.2.length := by omega
      cases y with
      | inl c => simp [entS, fv, fval, wN, hne]
      | inr q => simp [entS, cont, wN, hne]
    rw [e2]
  · by_cases hk2 : k = M.2.2.2.length
    · subst hk2
      rw [List.getElem?_append_right (by omega), hl, wsOf_at (by omega)]
      have e1 : shp (wN M x) (M.2.2.2.length + 1) = some x := by simp [shp, wN]
      unfold ent
      rw [e1]
      simp
    · rw [List.getElem?_eq_none (by simp; omega), List.getElem?_eq_none (by simp [wsOf]; omega)]
theorem wsOf_D {G : Gv} {M : Mem} (ha : ∀ k, k < 999 → G.2.1 (k + 1) = G.1 + k) (hM : M.2.2.2.length < 999) : va_D (A0 G) (wsOf G M) := by
  refine ⟨fun i j p q hp hq e => ?_, fun k q hq => ?_⟩
  · obtain ⟨h1, rfl⟩ := wsOf_lt hp
    obtain ⟨h2, rfl⟩ := wsOf_lt hq
    have e1 := ha i (by omega)
    have e2 := ha j (by omega)
    dsimp only at e
    omega
  · obtain ⟨h1, rfl⟩ := wsOf_lt hq
    show G.1 ≤ G.2.1 (k + 1)
    rw [ha k (by omega)]
    omega
/-! locals -/
theorem asc_in {G : Gv} : ∀ (ls : List (Option MV)) (k i : Nat) (w : Value), (i, w) ∈ asc G k ls ↔ ∃ j v, ls[j]? = some (some v) ∧ i = k + j ∧ w = cv G v
  | [], k, i, w => by simp [asc]
  | none :: r, k, i, w => by
    rw [asc, asc_in r (k + 1) i w]
    constructor
    · rintro ⟨j, v, h1, h2, h3⟩
      exact ⟨j + 1, v, by simpa using h1, by omega, h3⟩
    · rintro ⟨j, v, h1, h2, h3⟩
      cases j with
      | zero => simp at h1
      | succ j => exact ⟨j, v, by simpa using h1, by omega, h3⟩
  | some u :: r, k, i, w => by
    rw [asc, List.mem_cons, asc_in r (k + 1) i w]
    constructor
    · rintro (h | ⟨j, v, h1, h2, h3⟩)
      · cases h
        exact ⟨0, u, rfl, rfl, rfl⟩
      · exact ⟨j + 1, v, by simpa using h1, by omega, h3⟩
    · rintro ⟨j, v, h1, h2, h3⟩
      cases j with
      | zero =>
        have : u = v := by simpa using h1
        subst this
        exact Or.inl (by rw [h2, h3]; rfl)
      | succ j => exact Or.inr ⟨j, v, by simpa using h1, by omega, h3⟩
theorem lv_mono {lsA : Array Slot} {n : Nat} {l l' : List (Nat × Value)} (h : lv_has lsA n l) (hs : ∀ q ∈ l', q ∈ l) : lv_has lsA n l' := ⟨h.1, h.2.1, fun q hq => h.2.2 q (hs q hq)⟩
theorem lv_look {G : Gv} {lsA : Array Slot} {n i : Nat} {ls : List (Option MV)} {v : MV} (h : lv_has lsA n (asc G 0 ls)) (hi : ls[i]? = some (some v)) : lsA[i]? = some (.val (cv G v)) :=
  h.2.2 (i, cv G v) ((asc_in ls 0 i _).mpr ⟨i, v, hi, by omega, rfl⟩)
theorem cv_cat (G : Gv) (v : MV) : (cv G v).category = mcat v := by
  rcases v with x | x | n
  · rfl
  · rfl
  · show (rv G n).category = 1
    unfold rv rof
    split <;> rfl
def isL : Option (Option MV) → Bool
  | some (some (.inr (.inl _))) => true
  | _ => false
def lkill (ls : List (Option MV)) : Nat → List (Option MV)
  | 0 => ls
  | j + 1 => if isL ls[j]? then ls.set j none else ls
def lput1 (ls : List (Option MV)) (k : Nat) (v : MV) : List (Option MV) := (lkill ls k).set k (some v)
def lput2 (ls : List (Option MV)) (k : Nat) (v : MV) : List (Option MV) := ((lkill ls k).set k (some v)).set (k + 1) none
theorem lkill_len (ls : List (Option MV)) (k : Nat) : (lkill ls k).length = ls.length := by
  cases k with
  | zero => rfl
  | succ j =>
    show (if isL ls[j]? then ls.set j none else ls).length = _
    split <;> simp
theorem lput1_len (ls : List (Option MV)) (k : Nat) (v : MV) : (lput1 ls k v).length = ls.length := by simp [lput1, lkill_len]
theorem lput2_len (ls : List (Option MV)) (k : Nat) (v : MV) : (lput2 ls k v).length = ls.length := by simp [lput2, lkill_len]
theorem lkill_at {ls : List (Option MV)} {k j : Nat} {u : MV} (h : (lkill ls k)[j]? = some (some u)) : ls[j]? = some (some u) ∧ ¬ (j + 1 = k ∧ mcat u = 2) := by
  cases k with
  | zero => exact ⟨h, by omega⟩
  | succ i =>
    have h : (if isL ls[i]? then ls.set i none else ls)[j]? = some (some u) := h
    split at h
    · rename_i hL
      by_cases e : i = j
      · subst e
        by_cases hlt : i < ls.length
        · rw [List.getElem?_set_self hlt] at h
          simp at h
        · rw [List.getElem?_eq_none (by simp; omega)] at h
          cases h
      · rw [List.getElem?_set_ne e] at h
        exact ⟨h, by omega⟩
    · rename_i hL
      refine ⟨h, fun ⟨e1, e2⟩ => hL ?_⟩
      have e3 : i = j := by omega
      subst e3
      rw [h]
      rcases u with x | x | n
      · simp [mcat] at e2
      · rfl
      · simp [mcat] at e2
theorem lput1_sub {G : Gv} {ls : List (Option MV)} {k : Nat} {v : MV} : ∀ q ∈ asc G 0 (lput1 ls k v), q ∈ (k, cv G v) :: (asc G 0 ls).filter (fun q => !(q.1 == k) && !(q.1 + 1 == k && q.2.category == 2)) := by
  rintro ⟨i, w⟩ hq
  obtain ⟨j, u, h1, h2, h3⟩ := (asc_in _ 0 i w).mp hq
  have hij : i = j := by omega
  subst hij
  unfold lput1 at h1
  by_cases e : k = i
  · subst e
    by_cases hlt : k < (lkill ls k).length
    · rw [List.getElem?_set_self hlt] at h1
      have : v = u := by simpa using h1
      subst this
      rw [h3]
      exact List.mem_cons_self
    · rw [List.getElem?_eq_none (by simp; omega)] at h1
      cases h1
  · rw [List.getElem?_set_ne e] at h1
    obtain ⟨h4, h5⟩ := lkill_at h1
    refine List.mem_cons_of_mem _ (List.mem_filter.mpr ⟨(asc_in _ 0 i w).mpr ⟨i, u, h4, by omega, h3⟩, ?_⟩)
    rw [h3]
    simp only [cv_cat]
    simp
    refine ⟨fun q => e q.symm, ?_⟩
    by_cases e2 : i + 1 = k
    · exact Or.inr (fun q => h5 ⟨e2, q⟩)
    · exact Or.inl e2
theorem lput2_sub {G : Gv} {ls : List (Option MV)} {k : Nat} {v : MV} : ∀ q ∈ asc G 0 (lput2 ls k v), q ∈ (k, cv G v) :: (asc G 0 ls).filter (fun q => !(q.1 == k) && (!(q.1 == k + 1) && !(q.1 + 1 == k && q.2.category == 2))) := by
  rintro ⟨i, w⟩ hq
  obtain ⟨j, u, h1, h2, h3⟩ := (asc_in _ 0 i w).mp hq
  have hij : i = j := by omega
  subst hij
  unfold lput2 at h1
  by_cases e0 : k + 1 = i
  · subst e0
    by_cases hlt : k + 1 < ((lkill ls k).set k (some v)).length
    · rw [List.getElem?_set_self hlt] at h1
      simp at h1
    · rw [List.getElem?_eq_none (by simp at hlt ⊢; omega)] at h1
      cases h1
  rw [List.getElem?_set_ne e0] at h1
  by_cases e : k = i
  · subst e
    by_cases hlt : k < (lkill ls k).length
    · rw [List.getElem?_set_self hlt] at h1
      have : v = u := by simpa using h1
      subst this
      rw [h3]
      exact List.mem_cons_self
    · rw [List.getElem?_eq_none (by simp; omega)] at h1
      cases h1
  · rw [List.getElem?_set_ne e] at h1
    obtain ⟨h4, h5⟩ := lkill_at h1
    refine List.mem_cons_of_mem _ (List.mem_filter.mpr ⟨(asc_in _ 0 i w).mpr ⟨i, u, h4, by omega, h3⟩, ?_⟩)
    rw [h3]
    simp only [cv_cat]
    simp
    refine ⟨fun q => e q.symm, fun q => e0 q.symm, ?_⟩
    by_cases e2 : i + 1 = k
    · exact Or.inr (fun q => h5 ⟨e2, q⟩)
    · exact Or.inl e2
