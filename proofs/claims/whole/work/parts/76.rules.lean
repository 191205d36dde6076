/-! rules by which a call on an empty desk is lifted -/
def LHr (a : Nat → Nat) (d : Nat) : Option (Nat × Nat × Nat) → Prop
  | none => True
  | some (w, _, _) => hr a w d = true
theorem lhr_ofr {a : Nat → Nat} {d s r : Nat} {l : Option (Nat × Nat × Nat)} (hs : hr a s d = true) (h : LHr a d l) : LHr a d (ofr a d s r l) := by
  cases l with
  | none =>
    show LHr a d (if r = 0 then none else some (s, r, 2 ^ s))
    split
    · trivial
    · exact hs
  | some l =>
    obtain ⟨w, q, t⟩ := l
    have h : hr a w d = true := h
    show LHr a d (if r = 0 then some (w, q, t) else if q < r then some (w, q, t) else if r = q then some (if gp a w d ≤ gp a s d then w else s, q, t ||| 2 ^ s) else some (s, r, 2 ^ s))
    split
    · exact h
    · split
      · exact h
      · split
        · show hr a (if gp a w d ≤ gp a s d then w else s) d = true
          split
          · exact h
          · exact hs
        · exact hs
theorem hr_ne {a : Nat → Nat} {w d : Nat} (h : hr a w d = true) : w ≠ d := by
  unfold hr at h
  exact (of_decide_eq_true h).1
def lag (a : Nat → Nat) (d r fl s : Nat) (l : Option (Nat × Nat × Nat)) : Option (Nat × Nat × Nat) := if hr a s d = true ∧ (fl ≠ 0 ∨ kdO a s ≠ 2) then ofr a d s r l else l
def la (a : Nat → Nat) (d r fl : Nat) : Option (Nat × Nat × Nat) := fo (lag a d r fl) (a 0) none
def tn (a : Nat → Nat) (t i : Nat) : Nat := if t + i < a 0 then t + i else t + i - a 0
def ltg (a : Nat → Nat) (d t i : Nat) (l : Option (Nat × Nat × Nat)) : Option (Nat × Nat × Nat) := match l with
  | none => if hr a (tn a t i) d = true then some (tn a t i, 1, 2 ^ tn a t i) else none
  | some x => some x
def ltr (a : Nat → Nat) (d t : Nat) : Option (Nat × Nat × Nat) := fo (ltg a d t) (a 0) none
def lru (a : Nat → Nat) (ru d t : Nat) (h : Nat → Nat) : Option (Nat × Nat × Nat) := if ru = 0 then lft a (kdO a) h d (clr (2 ^ a 0 - 1) d) else if ru = 1 then la a d 3 0 else if ru = 2 then la a d 2 1 else ltr a d t
theorem lok_la {a : Nat → Nat} {d r fl : Nat} (hr : r < 2000) : ∀ i, LOk i (fo (lag a d r fl) i none) := by
  intro i
  induction i with
  | zero => trivial
  | succ i ih =>
    show LOk (i + 1) (lag a d r fl i (fo (lag a d r fl) i none))
    unfold lag
    split
    · exact lok_ofr hr ih
    · exact lok_up (by omega) ih
theorem tn_lt {a : Nat → Nat} {t i : Nat} (ht : t ≤ a 0) (hi : i < a 0) : tn a t i < a 0 := by unfold tn; split <;> omega
theorem lok_lt {a : Nat → Nat} {d t : Nat} (ht : t ≤ a 0) : ∀ i, i ≤ a 0 → LOk (a 0) (fo (ltg a d t) i none) := by
  intro i
  induction i with
  | zero => intro _; trivial
  | succ i ih =>
    intro hi
    have h := ih (by omega)
    show LOk (a 0) (ltg a d t i (fo (ltg a d t) i none))
    have hl := tn_lt ht (show i < a 0 by omega)
    cases e : fo (ltg a d t) i none with
    | none =>
      show LOk (a 0) (if hr a (tn a t i) d = true then some (tn a t i, 1, 2 ^ tn a t i) else none)
      split
      · exact ⟨hl, by omega, pw_lt hl, tw _⟩
      · trivial
    | some x => rw [e] at h; exact h
theorem lru_ok {a h : Nat → Nat} {ru d t : Nat} (hO : OkO a) (hd : d < a 0) (ht : t ≤ a 0) (hh : ∀ s, s < a 0 → h s < 1000) : LOk (a 0) (lru a ru d t h) := by
  unfold lru
  split
  · exact lok_lft hO hd hh
  · split
    · exact lok_la (by omega) _
    · split
      · exact lok_la (by omega) _
      · exact lok_lt ht _ (Nat.le_refl _)
theorem lhr_la {a : Nat → Nat} {d r fl : Nat} : ∀ i, LHr a d (fo (lag a d r fl) i none) := by
  intro i
  induction i with
  | zero => trivial
  | succ i ih =>
    show LHr a d (lag a d r fl i (fo (lag a d r fl) i none))
    unfold lag
    split
    · rename_i h; exact lhr_ofr h.1 ih
    · exact ih
theorem lhr_lt {a : Nat → Nat} {d t : Nat} : ∀ i, LHr a d (fo (ltg a d t) i none) := by
  intro i
  induction i with
  | zero => trivial
  | succ i ih =>
    show LHr a d (ltg a d t i (fo (ltg a d t) i none))
    cases e : fo (ltg a d t) i none with
    | none =>
      show LHr a d (if hr a (tn a t i) d = true then some (tn a t i, 1, 2 ^ tn a t i) else none)
      split
      · rename_i h; exact h
      · trivial
    | some x => rw [e] at ih; exact ih
theorem lhr_st {a kd h : Nat → Nat} {d m : Nat} : ∀ i, LHr a d (fo (lst a kd h d m) i none) := by
  intro i
  induction i with
  | zero => trivial
  | succ i ih =>
    show LHr a d (lst a kd h d m i (fo (lst a kd h d m) i none))
    unfold lst
    split
    · rename_i hh; exact lhr_ofr hh.2 ih
    · exact ih
theorem lru_hr {a h : Nat → Nat} {ru d t : Nat} (hO : OkO a) (hd : d < a 0) : LHr a d (lru a ru d t h) := by
  have h8 := hO.1.1
  unfold lru
  split
  · unfold lft
    rw [if_neg (by rw [clr_self (by omega)]; decide)]
    exact lhr_st _
  · split
    · exact lhr_la _
    · split
      · exact lhr_la _
      · exact lhr_lt _
theorem c_allAt {M : Mem} {n o d r fl : Nat} {a : Nat → Nat} (hn : n ∈ liL) (hC : CO M o a) (hO : OkO a) (hd : d < a 0) (hr' : r < 2000) (hfl : fl ≤ 1) : ∃ M', f_X3_allAt M n o (nI d) (nI r) (nI fl) = some M' ∧ LC M' n (la a d r fl) ∧ Fr (SL n) M M' := by
  have h8 := hO.1.1
  have hS := hC.1
  obtain ⟨A, eA, lA, fA⟩ := c_clear hS hn
  obtain ⟨B, eB, lB, fB⟩ := iter_rel (f := fun s : Int32 × Mem => f_X3_allAt_B7 s.2 n o (nI d) (nI r) (nI fl) s.1) (a 0) (fun i s => s.1 = nI i ∧ LC s.2 n (fo (lag a d r fl) i none) ∧ Fr (SL n) M s.2) (fun q => LC q n (la a d r fl) ∧ Fr (SL n) M q) (fun i s hi ⟨hs1, hs2, hs3⟩ => by
    obtain ⟨s1, s2⟩ := s
    have hs1 : s1 = nI i := hs1
    subst hs1
    have hs2 : LC s2 n (fo (lag a d r fl) i none) := hs2
    have hs3 : Fr (SL n) M s2 := hs3
    have hC2 := sl_co hn hC hs3
    have lk := lok_up (show i ≤ a 0 by omega) (lok_la (a := a) (d := d) (fl := fl) hr' i)
    have hk := (hO.2.1 i hi).1
    have e2 : nI (a (5 + 5 * i)) = 2 ↔ a (5 + 5 * i) = 2 := nI_eq (b := 2) (by omega) (by omega)
    obtain ⟨D, eD, lD, fD⟩ := c_offer hn hC2 hO hd hi hr' hs2 lk
    have J : f_X3_allAt_J42 s2 n o (nI d) (nI r) (nI fl) (nI i) = some (.inl (nI (i + 1), D)) := by
      unfold f_X3_allAt_J42
      rw [ob_at (li_shp hC2.1 hn), bb_some, eD, bb_some, nI_1]
    show (∃ s', f_X3_allAt_B7 s2 n o (nI d) (nI r) (nI fl) (nI i) = some (.inl s') ∧ s'.1 = nI (i + 1) ∧ LC s'.2 n (lag a d r fl i (fo (lag a d r fl) i none)) ∧ _) ∨ _
    unfold f_X3_allAt_B7 lag
    rw [co_g0 hC2, bb_some, if_neg (nI_ge hi (by omega)), ob_at (co_shp hC2), bb_some, c_hears hC2 hO hd hi, bb_some]
    by_cases h1 : hr a i d = true
    · rw [if_pos h1, if_neg (by decide)]
      rcases (show fl = 0 ∨ fl = 1 by omega) with rfl | rfl
      · rw [nI_0, if_pos rfl, co_r5 hC2, bb_some, co_kind hC2 hO hi, bb_some]
        by_cases h2 : a (5 + 5 * i) = 2
        · rw [if_pos (e2.mpr h2), if_neg (fun h => by have := h.2; unfold kdO at this; omega)]
          exact Or.inl ⟨_, rfl, nI_1 i, hs2, hs3⟩
        · rw [if_neg (fun h => h2 (e2.mp h)), if_pos ⟨h1, Or.inr h2⟩]
          rw [nI_0] at J
          rw [J]
          exact Or.inl ⟨_, rfl, rfl, lD, fr_trans hs3 fD⟩
      · rw [if_neg (show ¬ nI 1 = 0 by decide), if_pos ⟨h1, Or.inl (by omega)⟩, J]
        exact Or.inl ⟨_, rfl, rfl, lD, fr_trans hs3 fD⟩
    · rw [if_neg h1, if_pos rfl, if_neg (fun h => h1 h.1)]
      exact Or.inl ⟨_, rfl, nI_1 i, hs2, hs3⟩) (fun s ⟨hs1, hs2, hs3⟩ => by
    obtain ⟨s1, s2⟩ := s
    have hs1 : s1 = nI (a 0) := hs1
    subst hs1
    have hs3 : Fr (SL n) M s2 := hs3
    exact ⟨s2, by simp [f_X3_allAt_B7, co_g0 (sl_co hn hC hs3)], hs2, hs3⟩) 1048576 0 (0, A) (by omega) ⟨rfl, lA, fA⟩ (by omega)
  have eB : f_X3_allAt_L7 A n o (nI d) (nI r) (nI fl) 0 = some B := eB
  exact ⟨B, by rw [f_X3_allAt, ob_at (li_shp hS hn), bb_some, eA, bb_some, eB, bb_some], lB, fB⟩
theorem ltg_stay {a : Nat → Nat} {d t i : Nat} {x : Nat × Nat × Nat} (h : fo (ltg a d t) i none = some x) : ∀ j, i ≤ j → fo (ltg a d t) j none = some x := by
  intro j
  induction j with
  | zero => intro hj; rw [← h, show i = 0 by omega]
  | succ j ih =>
    intro hj
    by_cases e : i = j + 1
    · rw [← e, h]
    · show ltg a d t j (fo (ltg a d t) j none) = _
      rw [ih (by omega)]; rfl
theorem c_turns {M : Mem} {n o d t : Nat} {a : Nat → Nat} (hn : n ∈ liL) (hC : CO M o a) (hO : OkO a) (hd : d < a 0) (ht : t ≤ a 0) : ∃ M', f_X3_byTurns M n o (nI d) (nI t) = some M' ∧ LC M' n (ltr a d t) ∧ Fr (SL n) M M' := by
  have h8 := hO.1.1
  have hS := hC.1
  obtain ⟨A, eA, lA, fA⟩ := c_clear hS hn
  obtain ⟨B, eB, lB, fB⟩ := iter_rel (f := fun s : Int32 × Mem => f_X3_byTurns_B7 s.2 n o (nI d) (nI t) s.1) (a 0) (fun i s => s.1 = nI i ∧ LC s.2 n (fo (ltg a d t) i none) ∧ Fr (SL n) M s.2) (fun q => LC q n (ltr a d t) ∧ Fr (SL n) M q) (fun i s hi ⟨hs1, hs2, hs3⟩ => by
    obtain ⟨s1, s2⟩ := s
    have hs1 : s1 = nI i := hs1
    subst hs1
    have hs2 : LC s2 n (fo (ltg a d t) i none) := hs2
    have hs3 : Fr (SL n) M s2 := hs3
    have hC2 := sl_co hn hC hs3
    have lk := lok_lt (d := d) ht i (by omega)
    show (∃ s', f_X3_byTurns_B7 s2 n o (nI d) (nI t) (nI i) = some (.inl s') ∧ s'.1 = nI (i + 1) ∧ LC s'.2 n (ltg a d t i (fo (ltg a d t) i none)) ∧ _) ∨ (∃ q, f_X3_byTurns_B7 s2 n o (nI d) (nI t) (nI i) = some (.inr q) ∧ _)
    unfold f_X3_byTurns_B7
    rw [co_g0 hC2, bb_some, if_neg (nI_ge hi (by omega)), gI_at (li_shp hC2.1 hn), bb_some]
    cases el : fo (ltg a d t) i none with
    | none =>
      rw [el] at hs2
      rw [hs2.1, if_pos rfl, bb_some, bb_some, nI_add]
      have hl := tn_lt ht (show i < a 0 by omega)
      have key : (if nI (a 0) ≤ nI (t + i) then f_X3_byTurns_J51 s2 n o (nI d) (nI t) (nI i) (nI (t + i) - nI (a 0)) else f_X3_byTurns_J51 s2 n o (nI d) (nI t) (nI i) (nI (t + i))) = f_X3_byTurns_J51 s2 n o (nI d) (nI t) (nI i) (nI (tn a t i)) := by
        unfold tn
        by_cases h : t + i < a 0
        · rw [if_neg (nI_ge h (by omega)), if_pos h]
        · rw [if_pos (nI_le (by omega) (by omega)), if_neg h, pk_sub (by omega)]
      rw [key]
      unfold f_X3_byTurns_J51
      rw [ob_at (co_shp hC2), bb_some, c_hears hC2 hO hd hl, bb_some]
      show (∃ s' : Int32 × Mem, _ ∧ s'.1 = nI (i + 1) ∧ LC s'.2 n (if hr a (tn a t i) d = true then some (tn a t i, 1, 2 ^ tn a t i) else none) ∧ _) ∨ _
      by_cases h1 : hr a (tn a t i) d = true
      · obtain ⟨D, eD, lD, fD⟩ := c_offer (r := 1) hn hC2 hO hd hl (by omega) hs2 trivial
        have eD : f_X3_offer s2 n o (nI (tn a t i)) (nI d) 1 = some D := eD
        rw [if_pos h1, if_neg (by decide), if_pos h1, ob_at (li_shp hC2.1 hn), bb_some, eD, bb_some]
        exact Or.inl ⟨_, rfl, nI_1 i, lD, fr_trans hs3 fD⟩
      · rw [if_neg h1, if_pos rfl, if_neg h1]
        exact Or.inl ⟨_, rfl, nI_1 i, hs2, hs3⟩
    | some x =>
      obtain ⟨w, r, q⟩ := x
      rw [el] at hs2 lk
      rw [hs2.1, if_neg (nI_nm1 (by have := lk.1; omega))]
      have e : ltr a d t = some (w, r, q) := ltg_stay el (a 0) (by omega)
      exact Or.inr ⟨_, rfl, by rw [e]; exact hs2, hs3⟩) (fun s ⟨hs1, hs2, hs3⟩ => by
    obtain ⟨s1, s2⟩ := s
    have hs1 : s1 = nI (a 0) := hs1
    subst hs1
    have hs3 : Fr (SL n) M s2 := hs3
    exact ⟨s2, by simp [f_X3_byTurns_B7, co_g0 (sl_co hn hC hs3)], hs2, hs3⟩) 1048576 0 (0, A) (by omega) ⟨rfl, lA, fA⟩ (by omega)
  have eB : f_X3_byTurns_L7 A n o (nI d) (nI t) 0 = some B := eB
  exact ⟨B, by rw [f_X3_byTurns, ob_at (li_shp hS hn), bb_some, eA, bb_some, eB, bb_some], lB, fB⟩
def rst (a : Nat → Nat) (ru c : Nat) (p : (Nat → Nat) × Nat) : (Nat → Nat) × Nat := (stl a c (lru a ru (a (45 + 3 * c)) p.2 (fun d => p.1 (10 + d))) p.1, if ru = 3 then (match lru a ru (a (45 + 3 * c)) p.2 (fun d => p.1 (10 + d)) with | none => p.2 | some (w, _, _) => w + 1) else p.2)
def rrn (a : Nat → Nat) (ru k : Nat) : (Nat → Nat) × Nat := fo (rst a ru) k (us a, 0)
theorem rrn_ok {a : Nat → Nat} {ru : Nat} (hO : OkO a) : ∀ k, k ≤ a 1 → FOk a k (rrn a ru k).1 ∧ (rrn a ru k).2 ≤ a 0 := by
  intro k
  induction k with
  | zero => intro _; exact ⟨us_ok, Nat.zero_le _⟩
  | succ k ih =>
    intro hk
    have h10 := hO.1.2.1
    have h8 := hO.1.1
    obtain ⟨h1, h2⟩ := ih (by omega)
    have hd := (okc hO (show k < a 1 by omega)).1
    have lk := lru_ok (ru := ru) (t := (rrn a ru k).2) (h := fun d => (rrn a ru k).1 (10 + d)) hO hd h2 (fun s hs => by have := (h1.2.1 s (by omega)).1; show (rrn a ru k).1 (10 + s) < 1000; omega)
    show FOk a (k + 1) (rst a ru k (rrn a ru k)).1 ∧ (rst a ru k (rrn a ru k)).2 ≤ a 0
    unfold rst
    generalize lru a ru (a (45 + 3 * k)) (rrn a ru k).2 (fun d => (rrn a ru k).1 (10 + d)) = l at lk
    refine ⟨fok_stl hO (by omega) lk h1, ?_⟩
    dsimp only
    split
    · cases l with
      | none => exact h2
      | some l => obtain ⟨w, r, t⟩ := l; have := lk.1; show w + 1 ≤ a 0; omega
    · exact h2
theorem c_ruled {M : Mem} {f o c t ru m : Nat} {a u : Nat → Nat} (hC : CO M o a) (hO : OkO a) (hc : c < a 1) (hF : FC M f o u) (hu : FOk a m u) (hm : m < 500) (ht : t ≤ a 0) (hru : ru < 4) : ∃ M', f_X2_ringEmptyDesk M f (nI c) (nI ru) (nI t) = some M' ∧ (FC M' f o (stl a c (lru a ru (a (45 + 3 * c)) t (fun d => u (10 + d))) u) ∧ (match lru a ru (a (45 + 3 * c)) t (fun d => u (10 + d)) with | none => M'.1 (f + 15) 0 = -1 | some (w, _, _) => M'.1 (f + 15) 0 = nI w)) ∧ Fr (SF f) M M' := by
  have h8 := hO.1.1
  have hf := hF.1.2.1
  have li := fl_li hf
  obtain ⟨g1, g2, g3, g4⟩ := okc hO hc
  have hh : ∀ s, s < a 0 → u (10 + s) < 1000 := fun s hs => by have := (hu.2.1 s (by omega)).1; omega
  have lk := lru_ok (ru := ru) (t := t) (h := fun d => u (10 + d)) hO g1 ht hh
  have main : ∀ A, LC A (f + 15) (lru a ru (a (45 + 3 * c)) t (fun d => u (10 + d))) → Fr (SL (f + 15)) M A → ∃ M', f_X2_ringEmptyDesk_J119 A f (nI c) = some M' ∧ (FC M' f o (stl a c (lru a ru (a (45 + 3 * c)) t (fun d => u (10 + d))) u) ∧ (match lru a ru (a (45 + 3 * c)) t (fun d => u (10 + d)) with | none => M'.1 (f + 15) 0 = -1 | some (w, _, _) => M'.1 (f + 15) 0 = nI w)) ∧ Fr (SF f) M M' := fun A lA fA => by
    have hFA := fc_fr hF fA (fun q k h => by have := h.1; omega)
    have hCA := sl_co li hC fA
    have fA' : Fr (SF f) M A := fr_mono fA (fun q k h => Or.inr ⟨by have := h.1; omega, by have := h.1; omega⟩)
    obtain ⟨B, eB, hB, fB⟩ := c_settle hCA hO hc hFA lA lk
    have b15 : B.1 (f + 15) 0 = A.1 (f + 15) 0 := fB.2 _ _ (by unfold SE; omega)
    refine ⟨B, by rw [f_X2_ringEmptyDesk_J119, fc_ob hFA, bb_some, eB, bb_some], ⟨hB, ?_⟩, fr_trans fA' (se_sf fB)⟩
    rw [b15]
    generalize lru a ru (a (45 + 3 * c)) t (fun d => u (10 + d)) = l at lA
    cases l with
    | none => exact lA.1
    | some l => obtain ⟨w, r, t⟩ := l; exact lA.1
  unfold f_X2_ringEmptyDesk
  rw [fc_o hF, bb_some, co_r10 hC, bb_some, co_cdesk hC hO hc, bb_some, fc_12 hF, bb_some, bb_some, bb_some, bb_some, bb_some, bb_some, bb_some, bb_some, bb_some]
  rcases (show ru = 0 ∨ ru = 1 ∨ ru = 2 ∨ ru = 3 by omega) with rfl | rfl | rfl | rfl
  · obtain ⟨A, eA, lA, fA⟩ := c_told (h := fun d => u (10 + d)) (q := f + 12) (m := clr (2 ^ a 0 - 1) (a (45 + 3 * c))) li hC hO g1 clr_lt hh (fun M' hM' s hs => by
      have hF' := fc_fr hF hM' (fun q k h => by have := h.1; omega)
      exact fc_h hF' (by omega))
    rw [if_pos (show nI 0 = 0 from rfl), ob_at (co_shp hC), bb_some, c_others hC hO g1, bb_some, fc_9 hF, bb_some, ob_at (li_shp hF.1.1 li), bb_some, eA, bb_some]
    exact main A lA fA
  · obtain ⟨A, eA, lA, fA⟩ := c_allAt (r := 3) (fl := 0) li hC hO g1 (by omega) (by omega)
    have eA : f_X3_allAt M (f + 15) o (nI (a (45 + 3 * c))) 3 0 = some A := eA
    rw [if_neg (show ¬ nI 1 = 0 by decide), if_pos (show nI 1 = 1 from rfl), ob_at (li_shp hF.1.1 li), bb_some, eA, bb_some]
    exact main A lA fA
  · obtain ⟨A, eA, lA, fA⟩ := c_allAt (r := 2) (fl := 1) li hC hO g1 (by omega) (by omega)
    have eA : f_X3_allAt M (f + 15) o (nI (a (45 + 3 * c))) 2 1 = some A := eA
    rw [if_neg (show ¬ nI 2 = 0 by decide), if_neg (show ¬ nI 2 = 1 by decide), if_pos (show nI 2 = 2 from rfl), ob_at (li_shp hF.1.1 li), bb_some, eA, bb_some]
    exact main A lA fA
  · obtain ⟨A, eA, lA, fA⟩ := c_turns li hC hO g1 ht
    rw [if_neg (show ¬ nI 3 = 0 by decide), if_neg (show ¬ nI 3 = 1 by decide), if_neg (show ¬ nI 3 = 2 by decide), ob_at (li_shp hF.1.1 li), bb_some, eA, bb_some]
    exact main A lA fA
theorem c_playRule {M : Mem} {f o ru : Nat} {a : Nat → Nat} (hC : CO M o a) (hO : OkO a) (hf : flO f) (hru : ru < 4) : ∃ M', f_X2_playRule M f o (nI ru) = some M' ∧ FC M' f o (rrn a ru (a 1)).1 ∧ Fg (SF f) M M' := by
  have h8 := hO.1.1
  have h10 := hO.1.2.1
  obtain ⟨A, eA, hA, fA⟩ := c_begin hC hO hf
  have hCA := sf_cg hf hC fA
  have li := fl_li hf
  obtain ⟨B, eB, h1, h2⟩ := iter_rel (f := fun s : Int32 × Int32 × Mem => f_X2_playRule_B10 s.2.2 f o (nI ru) s.1 s.2.1) (a 1) (fun i s => s.1 = nI (rrn a ru i).2 ∧ s.2.1 = nI i ∧ FC s.2.2 f o (rrn a ru i).1 ∧ Fr (SF f) A s.2.2) (fun r => FC r f o (rrn a ru (a 1)).1 ∧ Fr (SF f) A r) (fun i s hi ⟨hs1, hs2, hs3, hs4⟩ => by
    obtain ⟨s1, s2, s3⟩ := s
    have hs1 : s1 = nI (rrn a ru i).2 := hs1
    have hs2 : s2 = nI i := hs2
    subst hs1 hs2
    have hs3 : FC s3 f o (rrn a ru i).1 := hs3
    have hs4 : Fr (SF f) A s3 := hs4
    have hC2 := sf_co hf hCA hs4
    obtain ⟨ok1, ok2⟩ := rrn_ok (ru := ru) hO i (by omega)
    have lk := lru_ok (ru := ru) (t := (rrn a ru i).2) (h := fun d => (rrn a ru i).1 (10 + d)) hO (okc hO hi).1 ok2 (fun s hs => by have := (ok1.2.1 s (by omega)).1; show (rrn a ru i).1 (10 + s) < 1000; omega)
    obtain ⟨D, eD, ⟨hD, wD⟩, fD⟩ := c_ruled hC2 hO hi hs3 ok1 (by omega) ok2 hru
    have st : rrn a ru (i + 1) = rst a ru i (rrn a ru i) := rfl
    refine Or.inl ⟨(nI (rrn a ru (i + 1)).2, nI (i + 1), D), ?_, rfl, rfl, by rw [st]; exact hD, fr_trans hs4 fD⟩
    show f_X2_playRule_B10 s3 f o (nI ru) (nI (rrn a ru i).2) (nI i) = _
    unfold f_X2_playRule_B10
    rw [co_g1 hC2, bb_some, if_neg (nI_ge hi (by omega)), fc_ob hs3, bb_some, eD, bb_some, st, nI_1]
    unfold rst
    have e3 : nI ru = 3 ↔ ru = 3 := nI_eq (b := 3) (by omega) (by omega)
    by_cases h3 : ru = 3
    · rw [if_pos (e3.mpr h3), fc_12 hD, bb_some, gI_at (li_shp hD.1.1 li), bb_some]
      dsimp only
      rw [if_pos h3, bb_some]
      generalize lru a ru (a (45 + 3 * i)) (rrn a ru i).2 (fun d => (rrn a ru i).1 (10 + d)) = l at wD lk
      cases l with
      | none =>
        have wD : D.1 (f + 15) 0 = -1 := wD
        rw [wD, if_pos rfl]
      | some l =>
        obtain ⟨w, r, t⟩ := l
        have wD : D.1 (f + 15) 0 = nI w := wD
        rw [wD, if_neg (nI_nm1 (by have := lk.1; omega)), gI_at (li_shp hD.1.1 li), bb_some, wD, nI_1]
    · rw [if_neg (fun h => h3 (e3.mp h))]
      dsimp only
      rw [if_neg h3]) (fun s ⟨hs1, hs2, hs3, hs4⟩ => by
    obtain ⟨s1, s2, s3⟩ := s
    have hs2 : s2 = nI (a 1) := hs2
    subst hs2
    have hs4 : Fr (SF f) A s3 := hs4
    exact ⟨s3, by simp [f_X2_playRule_B10, co_g1 (sf_co hf hCA hs4)], hs3, hs4⟩) 1048576 0 (0, 0, A) (by omega) ⟨rfl, rfl, hA, fr_refl⟩ (by omega)
  have eB : f_X2_playRule_L10 A f o (nI ru) 0 0 = some B := eB
  exact ⟨B, by rw [f_X2_playRule, ob_at (fl_shp hC.1 hf).1, bb_some, eA, bb_some, eB, bb_some], h1, fg_trans fA (fg_fr h2)⟩
/-- the model's lifter and ring -/
def LW (M : Mem) : Option (Nat × Nat × Nat) → Prop
  | none => M.1 255 16 = -1
  | some (w, r, _) => M.1 255 16 = nI w ∧ M.1 255 17 = nI r
theorem lm_lw {M : Mem} {l : Option (Nat × Nat × Nat)} (h : LM M l) : LW M l := by
  cases l with
  | none => exact h.1
  | some l => obtain ⟨w, r, t⟩ := l; exact ⟨h.1, h.2.1⟩
theorem mo_isLiftedW {M : Mem} {a : Nat → Nat} (hM : MO M a) (hO : OkO a) {c : Nat} (hc : c < a 1) {l : Option (Nat × Nat × Nat)} (hl : LW M l) (hk : LOk (a 0) l) : f_X12_isLifted M 255 (nI c) = some (bI (iT a c (rr l))) := by
  cases l with
  | none =>
    have e : f_X12_isLifted M 255 (nI c) = some 0 := by
      unfold f_X12_isLifted
      have hl : M.1 255 16 = -1 := hl
      rw [gI_at (m_shp hM.1), bb_some, hl, if_pos rfl]
    rw [e, show iT a c (rr none) = false from iT0 a c]; rfl
  | some l =>
    obtain ⟨w, r, t⟩ := l
    have hS := hM.1
    have hF : Fr (fun q k => q = 255 ∧ k = 18) M (wI M 255 18 (if t = 2 ^ w then 0 else 1)) := fr_wI ⟨rfl, rfl⟩
    have hM' : MO (wI M 255 18 (if t = 2 ^ w then 0 else 1)) a := mo_fr hM hF (fun n k h => by omega)
    have hl' : LM (wI M 255 18 (if t = 2 ^ w then 0 else 1)) (some (w, r, t)) := ⟨by rw [wI_rd, if_neg (by omega)]; exact hl.1, by rw [wI_rd, if_neg (by omega)]; exact hl.2, wI_same _ _ _ _⟩
    have e := mo_isLifted hM' hO hc hl' hk
    rw [← e]
    obtain ⟨p, p1, p2, p3⟩ := mo_rd hM
    obtain ⟨q, q1, q2, q3⟩ := mo_rd hM'
    have h10 := hO.1.2.1
    unfold f_X12_isLifted
    have g16 : gI (wI M 255 18 (if t = 2 ^ w then 0 else 1)) 12 255 16 = gI M 12 255 16 := by rw [gI_at (m_shp hM'.1), gI_at (m_shp hS), wI_rd, if_neg (by omega)]
    have g17 : gI (wI M 255 18 (if t = 2 ^ w then 0 else 1)) 12 255 17 = gI M 12 255 17 := by rw [gI_at (m_shp hM'.1), gI_at (m_shp hS), wI_rd, if_neg (by omega)]
    have pq : nI p = nI q := by
      have h1 : gI (wI M 255 18 (if t = 2 ^ w then 0 else 1)) 12 255 11 = gI M 12 255 11 := by rw [gI_at (m_shp hM'.1), gI_at (m_shp hS), wI_rd, if_neg (by omega)]
      rw [q1, p1] at h1
      exact (Option.some.inj h1).symm
    have p33 := p3 3 (by omega)
    have q33 := q3 3 (by omega)
    rw [← nI_add p, pq, nI_add] at p33
    rw [g16, g17, mo_ob hM, mo_ob hM', mo_oc2 hM (by omega), mo_oc2 hM' (by omega), p2, q2, p1, q1, pq]
    simp only [bb_some, show nI q + 3 = nI (q + 3) from nI_add q 3, p33, q33]
theorem mo_oneR {M : Mem} {a : Nat → Nat} {ru d s r i : Nat} {l : Option (Nat × Nat × Nat)} (hM : MO M a) (hO : OkO a) (hd : d < a 0) (hs : s < a 0) (hru : ru = 1 ∨ ru = 2) (hr4 : r = 4 - ru) (hl : LW M l) (hk : LOk (a 0) l) (hq : ∀ w q t, l = some (w, q, t) → q = r) : ∃ M', f_X12_byRule_J97 M 255 (nI ru) (nI d) (nI i) (nI s) 1 = some (.inl (nI (i + 1), M')) ∧ LW M' (ofr a d s r l) ∧ Fr SM M M' := by
  have h8 := hO.1.1
  have n3 : ¬ nI ru = 3 := nI_nq (k := 3) (by omega) (by omega) (by omega)
  have e4 : (4 : Int32) - nI ru = nI r := by rw [hr4]; exact pk_sub (a := 4) (by omega)
  have J : ∃ M', f_X12_byRule_J133 M 255 (nI ru) (nI d) (nI i) (nI s) = some (.inl (nI (i + 1), M')) ∧ (M'.1 255 16 = nI s ∧ M'.1 255 17 = nI r) ∧ Fr SM M M' := by
    refine ⟨wI (wI M 255 16 (nI s)) 255 17 (nI r), ?_, ⟨by simp [wI], by simp [wI]⟩, fr_put (fr_wI ⟨rfl, by omega, by omega⟩) ⟨rfl, by omega, by omega⟩⟩
    unfold f_X12_byRule_J133
    rw [pI_at (m_shp hM.1), bb_some, e4, pI_at (m_shp (M := wI M 255 16 (nI s)) hM.1), bb_some, nI_1]
  obtain ⟨M', eJ, hJ, fJ⟩ := J
  unfold f_X12_byRule_J97 f_X12_isNearer
  rw [if_neg (by decide), if_neg n3, mo_ob hM, bb_some, gI_at (m_shp hM.1), bb_some]
  have r0 : r ≠ 0 := by omega
  cases l with
  | none =>
    have hl : M.1 255 16 = -1 := hl
    rw [hl, if_pos rfl, bb_some, if_neg (by decide), eJ]
    refine ⟨M', rfl, ?_, fJ⟩
    show LW M' (if r = 0 then none else some (s, r, 2 ^ s))
    rw [if_neg r0]; exact hJ
  | some l =>
    obtain ⟨w, q, t⟩ := l
    have hqr := hq w q t rfl
    subst hqr
    obtain ⟨l1, l2⟩ := hl
    obtain ⟨k1, k2, k3, k4⟩ := hk
    rw [l1, if_neg (nI_nm1 (by omega)), bb_some, mo_off hM hO hs hd, bb_some, bb_some, bb_some, mo_off hM hO k1 hd, bb_some]
    have gg : nI (gp a w d) ≤ nI (gp a s d) ↔ gp a w d ≤ gp a s d := by
      have := gp_30 hO hd hs; have := gp_30 hO hd k1
      exact nI_leI (by omega) (by omega)
    show ∃ M', _ ∧ LW M' (if q = 0 then some (w, q, t) else if q < q then some (w, q, t) else if q = q then some (if gp a w d ≤ gp a s d then w else s, q, t ||| 2 ^ s) else some (s, q, 2 ^ s)) ∧ _
    rw [if_neg r0, if_neg (show ¬ q < q by omega), if_pos (show q = q from rfl)]
    by_cases hg : gp a w d ≤ gp a s d
    · rw [if_pos (gg.mpr hg), bb_some, if_pos rfl, if_pos hg, nI_1]
      exact ⟨M, rfl, ⟨l1, l2⟩, fr_refl⟩
    · rw [if_neg (fun h => hg (gg.mp h)), bb_some, if_neg (by decide), if_neg hg, eJ]
      exact ⟨M', rfl, hJ, fJ⟩
theorem la_q {a : Nat → Nat} {d r fl : Nat} (hr : r ≠ 0) : ∀ i w q t, fo (lag a d r fl) i none = some (w, q, t) → q = r := by
  intro i
  induction i with
  | zero => intro w q t h; cases h
  | succ i ih =>
    intro w q t h
    have h : lag a d r fl i (fo (lag a d r fl) i none) = some (w, q, t) := h
    generalize el : fo (lag a d r fl) i none = x at h
    unfold lag at h
    split at h
    · cases x with
      | none =>
        have h : (if r = 0 then none else some (i, r, 2 ^ i)) = some (w, q, t) := h
        rw [if_neg hr] at h
        cases h; rfl
      | some l =>
        obtain ⟨w', q', t'⟩ := l
        have e := ih w' q' t' el
        rw [e] at h
        have h : (if r = 0 then some (w', r, t') else if r < r then some (w', r, t') else if r = r then some (if gp a w' d ≤ gp a i d then w' else i, r, t' ||| 2 ^ i) else some (i, r, 2 ^ i)) = some (w, q, t) := h
        rw [if_neg hr, if_neg (by omega), if_pos rfl] at h
        cases h; rfl
    · rw [h] at el
      exact ih w q t el
theorem mo_byRule {M : Mem} {a h : Nat → Nat} {ru d t : Nat} (hM : MR M a (kdO a) h) (hO : OkO a) (hd : d < a 0) (hru : ru < 4) (ht : t ≤ a 0) (h37 : ru = 3 → M.1 255 37 = nI (t % a 0)) : ∃ M', f_X12_byRule M 255 (nI ru) (nI d) = some M' ∧ LW M' (lru a ru d t h) ∧ Fr SM M M' := by
  have h8 := hO.1.1
  have hS := hM.1.1
  unfold f_X12_byRule lru
  by_cases h0 : ru = 0
  · subst h0
    obtain ⟨A, eA, lA, fA⟩ := mo_rings hM hO hd (m := clr (2 ^ a 0 - 1) d) clr_lt
    rw [if_pos (show nI 0 = 0 from rfl), mo_g12 hM.1, bb_some, mo_ob hM.1, bb_some, all_sl (by omega), clr_at _ (by omega), eA, bb_some]
    exact ⟨A, rfl, lm_lw lA, fA⟩
  · rw [if_neg (nI_ne0 (by omega) (by omega)), if_neg h0, pI_at (m_shp hS), bb_some, pI_at (m_shp (M := wI M 255 16 (-1)) hS), bb_some]
    let A := wI (wI M 255 16 (-1)) 255 17 (-1)
    have fA : Fr SM M A := fr_put (fr_wI ⟨rfl, by omega, by omega⟩) ⟨rfl, by omega, by omega⟩
    have lA : LW A none := by show (wI (wI M 255 16 (-1)) 255 17 (-1)).1 255 16 = -1; simp [wI]
    by_cases h3 : ru = 3
    · subst h3
      have h37 := h37 rfl
      rw [if_neg (by omega), if_neg (by omega)]
      obtain ⟨B, eB, lB, fB⟩ := iter_rel (f := fun s : Int32 × Mem => f_X12_byRule_B36 s.2 255 (nI 3) (nI d) s.1) (a 0) (fun i s => s.1 = nI i ∧ LW s.2 (fo (ltg a d t) i none) ∧ Fr SM M s.2) (fun q => LW q (ltr a d t) ∧ Fr SM M q) (fun i s hi ⟨hs1, hs2, hs3⟩ => by
        obtain ⟨s1, s2⟩ := s
        have hs1 : s1 = nI i := hs1
        subst hs1
        have hs2 : LW s2 (fo (ltg a d t) i none) := hs2
        have hs3 : Fr SM M s2 := hs3
        have hM2 := sm_mr hM hs3
        have lk := lok_lt (d := d) ht i (by omega)
        have hl := tn_lt ht hi
        have g37 : gI s2 12 255 37 = some (nI (t % a 0)) := by rw [gI_at (m_shp hM2.1.1), hs3.2 255 37 (by unfold SM; omega), h37]
        have etn : (t % a 0 + i) % a 0 = tn a t i := by
          unfold tn
          rcases (show t = a 0 ∨ t < a 0 by omega) with h | h
          · rw [h, Nat.mod_self, if_neg (by omega), Nat.zero_add, Nat.mod_eq_of_lt hi]; omega
          · rw [Nat.mod_eq_of_lt h]
            by_cases h2 : t + i < a 0
            · rw [if_pos h2, Nat.mod_eq_of_lt h2]
            · rw [if_neg h2, Nat.mod_eq_sub_mod (by omega), Nat.mod_eq_of_lt (by omega)]
        have tl : t % a 0 < a 0 := Nat.mod_lt _ (by omega)
        show (∃ s' : Int32 × Mem, f_X12_byRule_B36 s2 255 (nI 3) (nI d) (nI i) = some (.inl s') ∧ s'.1 = nI (i + 1) ∧ LW s'.2 (ltg a d t i (fo (ltg a d t) i none)) ∧ _) ∨ _
        unfold f_X12_byRule_B36
        rw [mo_g12 hM2.1, bb_some, if_neg (nI_ge hi (by omega)), if_pos (show nI 3 = 3 from rfl), g37, bb_some, bb_some, nI_add, rm_at (by omega) (by omega) (by omega), bb_some, etn]
        unfold f_X12_byRule_J64
        rw [mo_ob hM2.1, bb_some, mo_hears hM2.1 hO hl hd, bb_some]
        have J0 : f_X12_byRule_J97 s2 255 (nI 3) (nI d) (nI i) (nI (tn a t i)) 0 = some (.inl (nI (i + 1), s2)) := by
          unfold f_X12_byRule_J97
          rw [if_pos rfl, nI_1]
        by_cases h1 : hr a (tn a t i) d = true
        · rw [if_pos h1, if_neg (by decide), if_neg (show ¬ nI 3 = 1 by decide)]
          unfold f_X12_byRule_J97
          rw [if_neg (by decide), if_pos (show nI 3 = 3 from rfl), gI_at (m_shp hM2.1.1), bb_some]
          cases el : fo (ltg a d t) i none with
          | none =>
            rw [el] at hs2
            have hs2 : s2.1 255 16 = -1 := hs2
            rw [hs2, if_pos rfl]
            unfold f_X12_byRule_J133
            rw [pI_at (m_shp hM2.1.1), bb_some, pI_at (m_shp (M := wI s2 255 16 (nI (tn a t i))) hM2.1.1), bb_some]
            refine Or.inl ⟨_, rfl, nI_1 i, ?_, fr_put (fr_put hs3 ⟨rfl, by omega, by omega⟩) ⟨rfl, by omega, by omega⟩⟩
            show LW _ (if hr a (tn a t i) d = true then some (tn a t i, 1, 2 ^ tn a t i) else none)
            rw [if_pos h1]
            exact ⟨by simp [wI], by simp [wI]; rfl⟩
          | some x =>
            obtain ⟨w, r, q⟩ := x
            rw [el] at hs2 lk
            rw [hs2.1, if_neg (nI_nm1 (by have := lk.1; omega))]
            exact Or.inl ⟨_, rfl, nI_1 i, hs2, hs3⟩
        · rw [if_neg h1, if_pos rfl, J0]
          refine Or.inl ⟨_, rfl, rfl, ?_, hs3⟩
          cases el : fo (ltg a d t) i none with
          | none =>
            rw [el] at hs2
            show LW s2 (if hr a (tn a t i) d = true then some (tn a t i, 1, 2 ^ tn a t i) else none)
            rw [if_neg h1]; exact hs2
          | some x => rw [el] at hs2; exact hs2) (fun s ⟨hs1, hs2, hs3⟩ => by
        obtain ⟨s1, s2⟩ := s
        have hs1 : s1 = nI (a 0) := hs1
        subst hs1
        have hs3 : Fr SM M s2 := hs3
        exact ⟨s2, by simp [f_X12_byRule_B36, mo_g12 (sm_mr hM hs3).1], hs2, hs3⟩) 1048576 0 (0, A) (by omega) ⟨rfl, lA, fA⟩ (by omega)
      have eB : f_X12_byRule_L36 A 255 (nI 3) (nI d) 0 = some B := eB
      rw [show wI (wI M 255 16 (-1)) 255 17 (-1) = A from rfl, eB, bb_some]
      exact ⟨B, rfl, lB, fB⟩
    · have hru' : ru = 1 ∨ ru = 2 := by omega
      obtain ⟨r, fl, hr4, hfl, hlr⟩ : ∃ r fl, r = 4 - ru ∧ (fl ≠ 0 ↔ ru = 2) ∧ (if ru = 1 then la a d 3 0 else if ru = 2 then la a d 2 1 else ltr a d t) = la a d r fl := by
        rcases hru' with rfl | rfl
        · exact ⟨3, 0, rfl, by omega, rfl⟩
        · exact ⟨2, 1, rfl, by omega, rfl⟩
      rw [hlr]
      have r0 : r ≠ 0 := by omega
      have n3 : ¬ nI ru = 3 := nI_nq (k := 3) (by omega) (by omega) (by omega)
      obtain ⟨B, eB, lB, fB⟩ := iter_rel (f := fun s : Int32 × Mem => f_X12_byRule_B36 s.2 255 (nI ru) (nI d) s.1) (a 0) (fun i s => s.1 = nI i ∧ LW s.2 (fo (lag a d r fl) i none) ∧ Fr SM M s.2) (fun q => LW q (la a d r fl) ∧ Fr SM M q) (fun i s hi ⟨hs1, hs2, hs3⟩ => by
        obtain ⟨s1, s2⟩ := s
        have hs1 : s1 = nI i := hs1
        subst hs1
        have hs2 : LW s2 (fo (lag a d r fl) i none) := hs2
        have hs3 : Fr SM M s2 := hs3
        have hM2 := sm_mr hM hs3
        have lk := lok_up (show i ≤ a 0 by omega) (lok_la (a := a) (d := d) (fl := fl) (show r < 2000 by omega) i)
        obtain ⟨D, eD, lD, fD⟩ := mo_oneR (i := i) hM2.1 hO hd hi hru' hr4 hs2 lk (fun w q t h => la_q r0 i w q t h)
        have J0 : f_X12_byRule_J97 s2 255 (nI ru) (nI d) (nI i) (nI i) 0 = some (.inl (nI (i + 1), s2)) := by
          unfold f_X12_byRule_J97
          rw [if_pos rfl, nI_1]
        have hk := (hO.2.1 i hi).1
        have e2 : nI (a (5 + 5 * i)) = 2 ↔ a (5 + 5 * i) = 2 := nI_eq (b := 2) (by omega) (by omega)
        have e1 : nI ru = 1 ↔ ru = 1 := nI_eq (b := 1) (by omega) (by omega)
        show (∃ s' : Int32 × Mem, f_X12_byRule_B36 s2 255 (nI ru) (nI d) (nI i) = some (.inl s') ∧ s'.1 = nI (i + 1) ∧ LW s'.2 (lag a d r fl i (fo (lag a d r fl) i none)) ∧ _) ∨ _
        unfold f_X12_byRule_B36 lag
        rw [mo_g12 hM2.1, bb_some, if_neg (nI_ge hi (by omega)), if_neg n3]
        unfold f_X12_byRule_J64
        rw [mo_ob hM2.1, bb_some, mo_hears hM2.1 hO hi hd, bb_some]
        by_cases h1 : hr a i d = true
        · rw [if_pos h1, if_neg (by decide)]
          by_cases hr1 : ru = 1
          · rw [if_pos (e1.mpr hr1), bb_some, mo_of0 hM2.1 (by omega), bb_some]
            by_cases h2 : a (5 + 5 * i) = 2
            · rw [if_pos (e2.mpr h2), if_neg (fun h => by have := h.2; unfold kdO at this; omega), J0]
              exact Or.inl ⟨_, rfl, rfl, hs2, hs3⟩
            · rw [if_neg (fun h => h2 (e2.mp h)), if_pos ⟨h1, Or.inr h2⟩, eD]
              exact Or.inl ⟨_, rfl, rfl, lD, fr_trans hs3 fD⟩
          · rw [if_neg (fun h => hr1 (e1.mp h)), if_pos ⟨h1, Or.inl (by omega)⟩, eD]
            exact Or.inl ⟨_, rfl, rfl, lD, fr_trans hs3 fD⟩
        · rw [if_neg h1, if_pos rfl, if_neg (fun h => h1 h.1), J0]
          exact Or.inl ⟨_, rfl, rfl, hs2, hs3⟩) (fun s ⟨hs1, hs2, hs3⟩ => by
        obtain ⟨s1, s2⟩ := s
        have hs1 : s1 = nI (a 0) := hs1
        subst hs1
        have hs3 : Fr SM M s2 := hs3
        exact ⟨s2, by simp [f_X12_byRule_B36, mo_g12 (sm_mr hM hs3).1], hs2, hs3⟩) 1048576 0 (0, A) (by omega) ⟨rfl, lA, fA⟩ (by omega)
      have eB : f_X12_byRule_L36 A 255 (nI ru) (nI d) 0 = some B := eB
      rw [show wI (wI M 255 16 (-1)) 255 17 (-1) = A from rfl, eB, bb_some]
      exact ⟨B, rfl, lB, fB⟩
/-- the model's side of a rule's run: what it keeps -/
def RM (M : Mem) (a : Nat → Nat) (ru : Nat) (u : Nat → Nat) (z t : Nat) : Prop := MR M a (kdO a) (fun d => u (10 + d)) ∧ (M.1 255 24 = nI (u 1) ∧ M.1 255 25 = nI (u 2) ∧ M.1 255 38 = nI z ∧ (ru = 3 → M.1 255 37 = nI (t % a 0))) ∧ ∀ d, d < 8 → M.1 259 d = nI (u (10 + d))
theorem ltr_1 {a : Nat → Nat} {d t w r q : Nat} : ∀ i, fo (ltg a d t) i none = some (w, r, q) → r = 1 := by
  intro i
  induction i with
  | zero => intro h; cases h
  | succ i ih =>
    intro h
    have h : ltg a d t i (fo (ltg a d t) i none) = some (w, r, q) := h
    cases el : fo (ltg a d t) i none with
    | none =>
      rw [el] at h
      have h : (if hr a (tn a t i) d = true then some (tn a t i, 1, 2 ^ tn a t i) else none) = some (w, r, q) := h
      split at h
      · cases h; rfl
      · cases h
    | some x => rw [el] at h; have h : some x = some (w, r, q) := h; rw [h] at el; exact ih el
def SU : Nat → Nat → Prop := fun q k => (q = 255 ∧ (16 ≤ k ∧ k ≤ 18 ∨ k = 24 ∨ k = 25 ∨ k = 37 ∨ k = 38)) ∨ q = 259
theorem su_q {M M' : Mem} (h : Fr SU M M') : Qf M M' := fr_q h (fun q k hh => by unfold SU at hh; unfold zT; omega)
theorem su_md {M M' : Mem} {b : Nat → Nat} (hD : MD M b) (hF : Fr SU M M') : MD M' b := by
  obtain ⟨h1, p, h2, h3, h4⟩ := hD
  exact ⟨fr_sk hF h1, p, h2, by rw [hF.2 255 19 (by unfold SU; omega)]; exact h3, ms_cong (fun k => hF.2 256 k (by unfold SU; omega)) h4⟩
theorem stl_mis {a u : Nat → Nat} {c : Nat} {l : Option (Nat × Nat × Nat)} (h : iT a c (rr l) = false) : stl a c l u = mis a c u := by
  cases l with
  | none => rfl
  | some l =>
    obtain ⟨w, r, t⟩ := l
    show (if iT a c r = true then _ else _) = _
    have h : iT a c r = false := h
    rw [if_neg (by rw [h]; decide)]
theorem mis_at (a u : Nat → Nat) (c : Nat) {j : Nat} (h5 : j ≠ 5) (h6 : j ≠ 6) : mis a c u j = u j := by
  unfold mis
  split
  · exact up_n _ _ h6
  · exact up_n _ _ h5
theorem hit_at {a u : Nat → Nat} {c w r t : Nat} (hw : w ≠ a (45 + 3 * c)) (hd8 : a (45 + 3 * c) < 8) (hw8 : w < 8) : hit a c w r t u 0 = u 0 ||| 2 ^ c ∧ hit a c w r t u 1 = u 1 + gtN a c r ∧ hit a c w r t u 2 = u 2 + a (8 + 5 * w) ∧ ∀ e, e < 8 → hit a c w r t u (10 + e) = up u (10 + w) (u (10 + w) + 1) (10 + e) := by
  have k2 : ∀ j, j ≠ 7 → hit2 w t (hit1 a c r u) j = hit1 a c r u j := fun j h7 => by
    unfold hit2
    split
    · rfl
    · exact up_n _ _ h7
  have k1 : ∀ j, j ≠ 0 → j ≠ 1 → hit1 a c r u j = u j := fun j h0 h1 => by unfold hit1; rw [up_n _ _ h1, up_n _ _ h0]
  unfold hit hit3
  rw [if_neg hw]
  refine ⟨?_, ?_, ?_, fun e he => ?_⟩
  · rw [up_n _ _ (by omega), up_n _ _ (by omega), up_n _ _ (by omega), k2 0 (by omega)]; rfl
  · rw [up_n _ _ (by omega), up_n _ _ (by omega), up_n _ _ (by omega), k2 1 (by omega)]; rfl
  · rw [up_n _ _ (by omega), up_s, k2 2 (by omega), k1 2 (by omega) (by omega)]
  · rw [up_n _ _ (by omega), up_n _ _ (by omega), k2 (10 + w) (by omega), k1 (10 + w) (by omega) (by omega)]
    by_cases h : 10 + e = 10 + w
    · rw [h, up_s, up_s]
    · rw [up_n _ _ h, up_n _ _ h, k2 _ (by omega), k1 _ (by omega) (by omega)]
theorem mo_ruled {M : Mem} {a u : Nat → Nat} {ru c z t m : Nat} (h : RM M a ru u z t) (hO : OkO a) (hc : c < a 1) (hu : FOk a m u) (hm : m < 500) (hru : ru < 4) (ht : t ≤ a 0) : ∃ M', f_X12_ruled M 255 (nI ru) (nI c) = some M' ∧ RM M' a ru (rst a ru c (u, t)).1 (if iT a c (rr (lru a ru (a (45 + 3 * c)) t (fun d => u (10 + d)))) = true then z else z + 1) (rst a ru c (u, t)).2 ∧ Fr SU M M' := by
  have h8 := hO.1.1
  have h10 := hO.1.2.1
  obtain ⟨g1, g2, g3, g4⟩ := okc hO hc
  obtain ⟨hR, ⟨f24, f25, f38, f37⟩, h259⟩ := h
  have hh : ∀ s, s < a 0 → u (10 + s) < 1000 := fun s hs => (hR.2 s hs).2.2
  obtain ⟨Z, eZ, lZ, fZ⟩ := mo_byRule hR hO g1 hru ht f37
  have hZ := sm_mr hR fZ
  have fZ' : Fr SU M Z := fr_mono fZ (fun q k hh => Or.inl ⟨hh.1, by have := hh.2; omega⟩)
  have lk := lru_ok (ru := ru) (t := t) (h := fun d => u (10 + d)) hO g1 ht hh
  have lh := lru_hr (ru := ru) (t := t) (h := fun d => u (10 + d)) hO g1
  have z24 : Z.1 255 24 = nI (u 1) := by rw [fZ.2 255 24 (by unfold SM; omega), f24]
  have z25 : Z.1 255 25 = nI (u 2) := by rw [fZ.2 255 25 (by unfold SM; omega), f25]
  have z38 : Z.1 255 38 = nI z := by rw [fZ.2 255 38 (by unfold SM; omega), f38]
  have z37 : ru = 3 → Z.1 255 37 = nI (t % a 0) := fun hh => by rw [fZ.2 255 37 (by unfold SM; omega), f37 hh]
  have z259 : ∀ d, d < 8 → Z.1 259 d = nI (u (10 + d)) := fun d hd => by rw [fZ.2 259 d (by unfold SM; omega), h259 d hd]
  unfold f_X12_ruled rst
  rw [mo_ob hR.1, bb_some, mo_oc0 hR.1 (by omega), bb_some, bb_some, eZ, bb_some, mo_ob hZ.1, bb_some, mo_isLiftedW hZ.1 hO hc lZ lk, bb_some]
  dsimp only
  have turn3 : ru = 3 → ∀ w r q, lru a ru (a (45 + 3 * c)) t (fun d => u (10 + d)) = some (w, r, q) → r = 1 := fun h3 w r q hl => by
    unfold lru at hl
    rw [if_neg (by omega), if_neg (by omega), if_neg (by omega)] at hl
    exact ltr_1 _ hl
  have iT1 : iT a c 1 = true := by unfold iT; apply decide_eq_true; omega
  generalize lru a ru (a (45 + 3 * c)) t (fun d => u (10 + d)) = l at lZ lk lh turn3
  by_cases hi : iT a c (rr l) = true
  · rw [hi, if_neg (by decide), if_pos rfl]
    cases l with
    | none => exact absurd hi (by rw [show iT a c (rr none) = false from iT0 a c]; decide)
    | some l =>
      obtain ⟨w, r, q⟩ := l
      obtain ⟨k1, k2, k3, k4⟩ := lk
      have hi : iT a c r = true := hi
      have hwd : w ≠ a (45 + 3 * c) := hr_ne lh
      obtain ⟨e0, e1, e2, e3⟩ := hit_at (u := u) (c := c) (r := r) (t := q) hwd (by omega) (show w < 8 by omega)
      have hst : stl a c (some (w, r, q)) u = hit a c w r q u := by
        show (if iT a c r = true then _ else _) = _
        rw [if_pos hi]
      rw [hst]
      let A := wI Z 255 24 (nI (u 1 + gtN a c r))
      let B := wI A 255 25 (nI (u 2 + a (8 + 5 * w)))
      let C := wI B 259 w (nI (u (10 + w) + 1))
      let D := wI C 255 37 (nI ((w + 1) % a 0))
      have hSA : Sk A := hZ.1.1
      have hSB : Sk B := hZ.1.1
      have hSC : Sk C := hZ.1.1
      have fA : Fr (fun q k => q = 255 ∧ k = 24) Z A := fr_wI ⟨rfl, rfl⟩
      have fB : Fr (fun q k => q = 255 ∧ k = 25) A B := fr_wI ⟨rfl, rfl⟩
      have hA : MO A a := mo_fr hZ.1 fA (fun q k h => by omega)
      have hB : MO B a := mo_fr hA fB (fun q k h => by omega)
      have l1 := lZ.1
      have l2 := lZ.2
      have zg24 : gI Z 12 255 24 = some (nI (u 1)) := by rw [gI_at (m_shp hZ.1.1), z24]
      have zg17 : gI Z 12 255 17 = some (nI r) := by rw [gI_at (m_shp hZ.1.1), l2]
      have ag25 : gI A 12 255 25 = some (nI (u 2)) := by rw [gI_at (m_shp hSA), wI_rd, if_neg (by omega), z25]
      have ag16 : gI A 12 255 16 = some (nI w) := by rw [gI_at (m_shp hSA), wI_rd, if_neg (by omega), l1]
      have bg16 : gI B 12 255 16 = some (nI w) := by rw [gI_at (m_shp hSB), wI_rd, if_neg (by omega), wI_rd, if_neg (by omega), l1]
      have b259 : aI B 0 259 (nI w) = some (nI (u (10 + w))) := by rw [aI_at (m_s259 hSB) (by omega) (by omega) (by omega), wI_rd, if_neg (by omega), wI_rd, if_neg (by omega), z259 w (by omega)]
      have cg16 : gI C 12 255 16 = some (nI w) := by rw [gI_at (m_shp hSC), wI_rd, if_neg (by omega), wI_rd, if_neg (by omega), wI_rd, if_neg (by omega), l1]
      have cg12 : gI C 12 255 12 = some (nI (a 0)) := by
        have := mo_g12 hB
        rw [gI_at (m_shp hSB)] at this
        rw [gI_at (m_shp hSC), wI_rd, if_neg (by omega)]
        exact this
      have sB : sI B 0 259 (nI w) (nI (u (10 + w) + 1)) = some C := by rw [sI_at (m_s259 hSB) (by omega) (by omega), nar0]
      have fD : Fr SU Z D := fr_put (fr_put (fr_put (fr_wI (Or.inl ⟨rfl, by omega⟩)) (Or.inl ⟨rfl, by omega⟩)) (Or.inr rfl)) (Or.inl ⟨rfl, by omega⟩)
      have hMD : MO D a := mo_fr hZ.1 fD (fun q k h => by unfold SU at h; omega)
      have rd259 : ∀ e, e < 8 → D.1 259 e = nI (hit a c w r q u (10 + e)) := fun e he => by
        rw [e3 e he, wI_rd, if_neg (by omega), wI_rd]
        by_cases h : e = w
        · subst h; rw [if_pos ⟨rfl, rfl⟩, up_s]
        · rw [if_neg (by omega), wI_rd, if_neg (by omega), wI_rd, if_neg (by omega), up_n _ _ (by omega)]; exact z259 e he
      refine ⟨D, ?_, ⟨⟨hMD, fun s hs => ?_⟩, ⟨?_, ?_, ?_, fun h3 => ?_⟩, rd259⟩, fr_trans fZ' fD⟩
      · rw [zg24, bb_some, mo_oc1 hZ.1 (by omega), bb_some, zg17, bb_some, bb_some, mo_got hZ.1 hO hc k2.2 hi, bb_some, bb_some, nI_add, pI_at (m_shp hZ.1.1), bb_some]
        show ((gI A 12 255 25).bind fun v12 => (gI A 12 255 16).bind fun v13 => (ob A 12 255).bind fun _ => (f_X12_of A 255 v13 3).bind fun v14 => (pI A 12 255 25 (v12 + v14)).bind fun M15 => _) = _
        rw [ag25, bb_some, ag16, bb_some, mo_ob hA, bb_some, mo_of3 hA (by omega), bb_some, nI_add, pI_at (m_shp hSA), bb_some]
        show ((gR B 12 255 14).bind fun v16 => (gI B 12 255 16).bind fun v17 => (aI B 0 v16 v17).bind fun v18 => (sI B 0 v16 v17 (v18 + 1)).bind fun M19 => (gI M19 12 255 16).bind fun v20 => (gI M19 12 255 12).bind fun v21 => (rmI (v20 + 1) v21).bind fun v22 => (pI M19 12 255 37 v22).bind fun M23 => some M23) = _
        rw [m_r14 hSB, bb_some, bg16, bb_some, b259, bb_some, nI_1, sB, bb_some, cg16, bb_some, cg12, bb_some, nI_1, rm_at (by omega) (by omega) (by omega), bb_some, pI_at (m_shp hSC), bb_some]
      · refine ⟨⟨?_, rd259 s (by omega)⟩, (hZ.2 s hs).2.1, ?_⟩
        · rw [fD.2 260 s (by unfold SU; omega)]; exact (hZ.2 s hs).1.1
        · show hit a c w r q u (10 + s) < 1000
          have := (hu.2.1 s (by omega)).1
          have := (hu.2.1 w (by omega)).1
          rw [e3 s (by omega)]
          unfold up
          split <;> omega
      · rw [e1, wI_rd, if_neg (by omega), wI_rd, if_neg (by omega), wI_rd, if_neg (by omega)]; exact wI_same _ _ _ _
      · rw [e2, wI_rd, if_neg (by omega), wI_rd, if_neg (by omega)]; exact wI_same _ _ _ _
      · rw [fD.2 255 38 |> fun _ => (show D.1 255 38 = Z.1 255 38 by rw [wI_rd, if_neg (by omega), wI_rd, if_neg (by omega), wI_rd, if_neg (by omega), wI_rd, if_neg (by omega)])]; exact z38
      · rw [if_pos h3]; exact wI_same _ _ _ _
  · have hf : iT a c (rr l) = false := by simpa using hi
    rw [hf, if_pos (by rfl), if_neg (by decide), stl_mis hf]
    have fD : Fr SU Z (wI Z 255 38 (nI (z + 1))) := fr_wI (Or.inl ⟨rfl, by omega⟩)
    have fD2 : Fr (fun q k => q = 255 ∧ k = 38) Z (wI Z 255 38 (nI (z + 1))) := fr_wI ⟨rfl, rfl⟩
    have hRD := mr_fr hZ fD2 (fun q k h => by omega)
    refine ⟨wI Z 255 38 (nI (z + 1)), ?_, ⟨⟨hRD.1, fun s hs => ?_⟩, ⟨?_, ?_, wI_same _ _ _ _, fun h3 => ?_⟩, fun d hd => ?_⟩, fr_trans fZ' fD⟩
    · rw [gI_at (m_shp hZ.1.1), bb_some, z38, nI_1, pI_at (m_shp hZ.1.1), bb_some]
    · have := hRD.2 s hs
      dsimp only at this ⊢
      rw [mis_at a u c (by omega) (by omega)]
      exact this
    · rw [mis_at a u c (by omega) (by omega), wI_rd, if_neg (by omega)]; exact z24
    · rw [mis_at a u c (by omega) (by omega), wI_rd, if_neg (by omega)]; exact z25
    · rw [if_pos h3, wI_rd, if_neg (by omega)]
      cases l with
      | none => exact z37 h3
      | some l =>
        obtain ⟨w, r, q⟩ := l
        have := turn3 h3 w r q rfl
        subst this
        have hf : iT a c 1 = false := hf
        rw [iT1] at hf
        cases hf
    · rw [mis_at a u c (by omega) (by omega), wI_rd, if_neg (by omega)]; exact z259 d hd
