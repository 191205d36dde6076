theorem ev_of {args : Array Value} {s : State} {t : Term} {v : Int32} (h : (Cond.eq t (.int v)).before args s = true) : t.eval args s none [] s = some (.int v) := by
  refine va_eqI (o := none) (idx := []) (u := .int v) ?_ rfl
  cases hv : (Cond.eq t (.int v)).value args s none s [] with
  | none => simp [Cond.before, Cond.holds, hv] at h
  | some b => cases b <;> simp_all [Cond.before, Cond.holds]
def adF (sz b : Nat) (ro adK adV : Nat → Nat) (n : Nat) : Nat := if n < 1000 then sz + (n - 1) else if n = 4000 then b else if n < 2000 then ro (n - 1000) else if n < 3000 then adK (n - 2000) else adV (n - 3000)
theorem adF_lo {sz b : Nat} {ro adK adV : Nat → Nat} {k : Nat} (h : k < 999) : adF sz b ro adK adV (k + 1) = sz + k := by
  unfold adF
  rw [if_pos (by omega), Nat.add_sub_cancel]
theorem adF_sc {sz b : Nat} {ro adK adV : Nat → Nat} : adF sz b ro adK adV 4000 = b := by
  unfold adF
  rw [if_neg (by omega), if_pos rfl]
theorem adF_ro {sz b : Nat} {ro adK adV : Nat → Nat} {j : Nat} (h : j < 10) : adF sz b ro adK adV (1000 + j) = ro j := by
  unfold adF
  rw [if_neg (by omega), if_neg (by omega), if_pos (by omega), Nat.add_sub_cancel_left]
theorem adF_k {sz b : Nat} {ro adK adV : Nat → Nat} {j : Nat} (h : j < 15) : adF sz b ro adK adV (2000 + j) = adK j := by
  unfold adF
  rw [if_neg (by omega), if_neg (by omega), if_neg (by omega), if_pos (by omega), Nat.add_sub_cancel_left]
theorem adF_v {sz b : Nat} {ro adK adV : Nat → Nat} {j : Nat} (h : j < 15) : adF sz b ro adK adV (3000 + j) = adV j := by
  unfold adF
  rw [if_neg (by omega), if_neg (by omega), if_neg (by omega), if_neg (by omega), Nat.add_sub_cancel_left]
theorem start_G {s : State} {b L : Nat} {xs : Nat → Int32} (hts : ∀ w ∈ lw_tbl, w.before #[Value.ref b] s = true) (hX : va_X b L xs s s.heap) (hbl : b < s.heap.size) (hgv : (Jvm.Cond.and given_1 narrow_1).before #[Value.ref b] s = true) : ∃ G : Gv, G.1 = s.heap.size ∧ G.2.1 4000 = b ∧ G.2.2.2.2 = (List.range L).map xs ∧ Cx G s := by
  have hf : ∀ c ∈ fC, c.before #[Value.ref b] s = true := flat_of_before _ hgv
  have hA : ∀ a : Nat, a < s.heap.size → ¬ (fun q : Nat => s.heap.size ≤ q) a := fun a h => Nat.not_le.mpr h
  have hgw : ∀ w ∈ GW, ∀ a : Array Value, w.before a s = true := fun w hw a => word_at (State.WarmedH.refl s) (good_of_word (List.mem_filter.mp hw).2) (hts w (List.mem_filter.mp hw).1)
  -- classes
  have h1 : ∀ k : Nat, ∃ (c : ClassId) (iS : Nat → Nat), ∀ q : vw_C, classes[k]? = some q → u_Kn s q.1 q.2.1 q.2.2 c iS := by
    intro k
    by_cases hk : k < 13
    · obtain ⟨q, hq⟩ : ∃ q, classes[k]? = some q := ⟨_, List.getElem?_eq_getElem (l := classes) (show k < classes.length from hk)⟩
      obtain ⟨C, T, N⟩ := q
      obtain ⟨hin, -⟩ := clsOK k C T N hq
      have hi := st_in k hk
      have e : classes.getD k (R0, T0, 4) = (C, T, N) := by rw [List.getD_eq_getElem?_getD, hq]; rfl
      rw [e] at hi
      obtain ⟨c, iS, h⟩ := u_known (C := C) (T := T) (N := N) (n := N) (args := #[Value.ref b]) (fun w hw => hgw w hw _) hin (hgw _ hi _)
      exact ⟨c, iS, fun q' hq' => by rw [hq] at hq'; cases hq'; exact h⟩
    · exact ⟨0, fun _ => 0, fun q hq => by
        have := (List.getElem?_eq_some_iff.mp hq).1
        exact absurd this hk⟩
  -- classes of arrays
  have h2 : ∀ t : Nat, ∃ cA : ClassId, t < 8 → ArrOfT s cA (aty.getD t .int) ∧ va_RA s cA (aty.getD t .int) := by
    intro t
    by_cases ht : t < 4
    · obtain ⟨cA, kA, comp, f1, f2, f3⟩ := Cond.arrayClass_spec (hts _ (st_ac t ht))
      refine ⟨cA, fun _ => ⟨fun n z => ⟨fun k h => (by cases h), kA, f2, comp, f3⟩, ?_⟩⟩
      match t, ht with
      | 0, _ => exact f1
      | 1, _ => exact f1
      | 2, _ => exact f1
      | 3, _ => exact f1
    · by_cases ht2 : t < 8
      · obtain ⟨C, hC, hCm⟩ : ∃ C, aty.getD t .int = .object C ∧ C ∈ ["DeskRings$Told", "DeskRings$Office", "DeskRings$Day", "DeskRings$Log"] := by
          rcases (show t = 4 ∨ t = 5 ∨ t = 6 ∨ t = 7 by omega) with rfl | rfl | rfl | rfl
          · exact ⟨_, rfl, by decide⟩
          · exact ⟨_, rfl, by decide⟩
          · exact ⟨_, rfl, by decide⟩
          · exact ⟨_, rfl, by decide⟩
        obtain ⟨comp, cA, kA, f4, -, f2, f3, f1⟩ := Cond.arrayOver_spec (hts _ (st_ao C hCm))
        rw [hC]
        exact ⟨cA, fun _ => ⟨fun n z => ⟨fun k h => (by cases h), kA, f2, comp, f3⟩, kA, comp, f2, f3, f4, f1⟩⟩
      · exact ⟨0, fun h => absurd h ht2⟩
  -- static arrays
  have h3 : ∀ j : Nat, ∃ t : Nat, j < 10 → va_T .int t (roA j).length (fun i => .int ((roA j).getD i 0)) (fun q : Nat => s.heap.size ≤ q) s s.heap ∧ va_Z (roC.getD j ("", "")).1 (roC.getD j ("", "")).2 "[I" (.ref t) (fun q : Nat => s.heap.size ≤ q) s s.heap := by
    intro j
    by_cases hj : j < 10
    · obtain ⟨a1, a2, a3⟩ := st_ro j hj
      obtain ⟨a4, a5⟩ := st_ro2 j hj
      have hN : ∀ j, j < 10 → (roA j).length < 2 ^ 31 := by decide +kernel
      obtain ⟨t, ht, hT⟩ := va_Tof (tm := rTm j) (f := fun i => .int ((roA j).getD i 0)) (hN j hj) (hf _ a1) (ev_of (hf _ a2)) (fun i hi => ev_of (hf _ (a3 i hi))) hA
      exact ⟨t, fun _ => ⟨hT, va_Zref (hts _ a4) (hts _ a5) ht hA⟩⟩
    · exact ⟨0, fun h => absurd h hj⟩
  -- texts
  obtain ⟨adK, adV, hS, hSe⟩ := vk_Sof (N := 15) (tm := sTm) (len := stBy.map List.length) (byt := stBy) (args := #[Value.ref b]) (s := s) (A := fun q : Nat => s.heap.size ≤ q) st_s5 (fun i hi => hf _ (st_s1 i hi).1) (fun i hi => hf _ (st_s1 i hi).2.1) (fun i hi => hf _ (st_s1 i hi).2.2.1) (fun i hi => hf _ (st_s1 i hi).2.2.2) (fun i hi j hj => hf _ (st_s2 i hi j hj)) (fun i j hi hj hne => (st_s3 i hi j hj hne).elim (fun q => Or.inl (hf _ q)) (fun q => Or.inr (hf _ q))) hA
  obtain ⟨⟨z1, z2, z3⟩, z4, z5, z6⟩ := st_z
  obtain ⟨ro, hro⟩ : ∃ ro : Nat → Nat, ∀ j, j < 10 → va_T .int (ro j) (roA j).length (fun i => .int ((roA j).getD i 0)) (fun q : Nat => s.heap.size ≤ q) s s.heap ∧ va_Z (roC.getD j ("", "")).1 (roC.getD j ("", "")).2 "[I" (.ref (ro j)) (fun q : Nat => s.heap.size ≤ q) s s.heap := ⟨fun j => (h3 j).choose, fun j hj => (h3 j).choose_spec hj⟩
  obtain ⟨cA, hcA⟩ : ∃ cA : Nat → ClassId, ∀ t, t < 8 → ArrOfT s (cA t) (aty.getD t .int) ∧ va_RA s (cA t) (aty.getD t .int) := ⟨fun t => (h2 t).choose, fun t ht => (h2 t).choose_spec ht⟩
  obtain ⟨dC, dI, hd⟩ : ∃ (dC : Nat → ClassId) (dI : Nat → Nat → Nat), ∀ (k : Nat) (q : vw_C), classes[k]? = some q → u_Kn s q.1 q.2.1 q.2.2 (dC k) (dI k) := ⟨fun k => (h1 k).choose, fun k => (h1 k).choose_spec.choose, fun k q hq => (h1 k).choose_spec.choose_spec q hq⟩
  refine ⟨(s.heap.size, adF s.heap.size b ro adK adV, (dC, dI), cA, (List.range L).map xs), rfl, show adF s.heap.size b ro adK adV 4000 = b from adF_sc, rfl, ?_⟩
  refine ⟨⟨hd, fun k q hq => ?_⟩, fun k hk => (show adF s.heap.size b ro adK adV (k + 1) = s.heap.size + k from adF_lo hk), Nat.le_refl _, ⟨hgw, fun w hw => va_Nw.of (st_nw w hw).2 (hts w (st_nw w hw).1), fun C hC => va_AO.of (hts _ (st_ao C hC))⟩, fun j hj => ?_, ⟨⟨fun i hi => ?_, fun i j hi hj h => ?_⟩, fun i hi => ?_, va_Zof (hts _ z1) (hts _ z2) (ev_of (hf _ z3)) hA, va_Zqof (hts _ z4) (hts _ z5) (hf _ z6) hA⟩, ?_⟩
  · have hk : k < 8 := (List.getElem?_eq_some_iff.mp hq).1
    rw [tys_at hk] at hq
    cases hq
    exact hcA k hk
  · dsimp only
    rw [adF_ro hj]
    exact hro j hj
  · dsimp only
    rw [adF_k hi, adF_v hi]
    exact hS.1 i hi
  · dsimp only at h
    rw [adF_k hi, adF_k hj] at h
    exact hS.2 i j hi hj h
  · dsimp only
    rw [adF_k hi]
    exact vk_R.of (hts _ (st_s4 i hi)) (hSe i hi)
  · obtain ⟨scr, q1, q2, q3, q4, q5⟩ := hX
    show va_T .int (adF s.heap.size b ro adK adV 4000) _ _ _ s s.heap
    rw [adF_sc]
    refine ⟨scr, q1, q2, q3, ?_, ?_, fun j hj => ?_, Nat.not_le.mpr hbl⟩
    · simp [q4]
    · simp [q4]
    · have hj2 : j < L := by simpa using hj
      rw [q5 j hj2]
      simp [hj2]
