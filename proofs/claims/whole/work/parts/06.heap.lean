/-! fields and arrays -/
def FL (own : String) (idx c k : Nat) (ty : FieldType) (fin : Bool) : Prop := ∃ (C : String) (T : u_T) (N : Nat), classes[c]? = some (C, T, N) ∧ k < N ∧ Cond.fieldLink own idx C (T k).2.1 (T k).2.2.1 ∈ GW ∧ parseFieldDescriptor (T k).2.2.1 = some ty ∧ (T k).2.2.2 = fin ∧ (T k).1 = C
def ClsOK (c : Nat) (C : String) (T : u_T) (N : Nat) : Prop := (∀ w ∈ u_ws C T N, w ∈ GW) ∧ (∃ ty0 : Nat → FieldType, ∀ k, k < N → parseFieldDescriptor (T k).2.2.1 = some (ty0 k)) ∧ (∀ a, a < N → ∀ b, b < N → a ≠ b → (T a).2.1 ≠ (T b).2.1) ∧ (fk.getD c []).length = N
theorem clsOK : ∀ (c : Nat) (C : String) (T : u_T) (N : Nat), classes[c]? = some (C, T, N) → ClsOK c C T N := by
  intro c C T N h
  match c, h with
  | 0, h => cases h; exact ⟨in0, ⟨ty0, ty0_ok⟩, nm0, rfl⟩
  | 1, h => cases h; exact ⟨in1, ⟨ty1, ty1_ok⟩, nm1, rfl⟩
  | 2, h => cases h; exact ⟨in2, ⟨ty2, ty2_ok⟩, nm2, rfl⟩
  | 3, h => cases h; exact ⟨in3, ⟨ty3, ty3_ok⟩, nm3, rfl⟩
  | 4, h => cases h; exact ⟨in4, ⟨ty4, ty4_ok⟩, nm4, rfl⟩
  | 5, h => cases h; exact ⟨in5, ⟨ty5, ty5_ok⟩, nm5, rfl⟩
  | 6, h => cases h; exact ⟨in6, ⟨ty6, ty6_ok⟩, nm6, rfl⟩
  | 7, h => cases h; exact ⟨in7, ⟨ty7, ty7_ok⟩, nm7, rfl⟩
  | 8, h => cases h; exact ⟨in8, ⟨ty8, ty8_ok⟩, nm8, rfl⟩
  | 9, h => cases h; exact ⟨in9, ⟨ty9, ty9_ok⟩, nm9, rfl⟩
  | 10, h => cases h; exact ⟨in10, ⟨ty10, ty10_ok⟩, nm10, rfl⟩
  | 11, h => cases h; exact ⟨in11, ⟨ty11, ty11_ok⟩, nm11, rfl⟩
  | 12, h => cases h; exact ⟨in12, ⟨ty12, ty12_ok⟩, nm12, rfl⟩
  | k + 13, h => simp [classes] at h
theorem bind2 {α β γ : Type} {a : Option α} {f : α → Option β} {g : β → Option γ} {r : γ} (h : (a.bind f).bind g = some r) : ∃ v, a = some v ∧ (f v).bind g = some r := by
  cases a with
  | none => cases h
  | some v => exact ⟨v, rfl, h⟩
theorem rv_ref {G : Gv} {n : Nat} (h : 0 < n) : rv G n = .ref (G.2.1 n) := by
  have h1 : ¬ n = 0 := by omega
  simp [rv, rof, h1, va_rf]
theorem rv_or (G : Gv) (n : Nat) : rv G n = .null ∨ ∃ a, rv G n = .ref a := by
  by_cases h : n = 0
  · exact Or.inl (by simp [rv, rof, h, va_rf])
  · exact Or.inr ⟨_, rv_ref (by omega)⟩
theorem fv_at {G : Gv} {M : Mem} {n k : Nat} {ks : List Nat} (h : k < ks.length) : (fv G M n ks)[k]? = some (fval G M n k (ks.getD k 0)) := by
  simp [fv, h]
theorem fv_len {G : Gv} {M : Mem} {n : Nat} {ks : List Nat} : (fv G M n ks).length = ks.length := by simp [fv]
theorem fv_set {G : Gv} {M M' : Mem} {n k : Nat} {ks : List Nat} {v : Value} (h : k < ks.length) (hv : fval G M' n k (ks.getD k 0) = v) (ho : ∀ j, j ≠ k → ∀ t, fval G M' n j t = fval G M n j t) : (fv G M n ks).set k v = fv G M' n ks := by
  apply List.ext_getElem?
  intro j
  by_cases hj : j < ks.length
  · rw [fv_at hj]
    by_cases e : k = j
    · subst e
      rw [List.getElem?_set_self (by rw [fv_len]; exact h), hv]
    · rw [List.getElem?_set_ne e, fv_at hj, ho j (fun q => e q.symm)]
  · rw [List.getElem?_eq_none (by simp [fv_len]; omega), List.getElem?_eq_none (by simp [fv_len]; omega)]
theorem ent_wI {G : Gv} {M : Mem} {n k : Nat} {v : Int32} : ∀ a y, a ≠ n → entS G (wI M n k v) a y = entS G M a y := by
  intro a y h
  cases y with
  | inl c => simp [entS, fv, fval, wI, h]
  | inr q => simp [entS, cont, wI, h]
theorem ent_wL {G : Gv} {M : Mem} {n k : Nat} {v : Int64} : ∀ a y, a ≠ n → entS G (wL M n k v) a y = entS G M a y := by
  intro a y h
  cases y with
  | inl c => simp [entS, fv, fval, wL, h]
  | inr q => simp [entS, cont, wL, h]
theorem ent_wR {G : Gv} {M : Mem} {n k : Nat} {v : Nat} : ∀ a y, a ≠ n → entS G (wR M n k v) a y = entS G M a y := by
  intro a y h
  cases y with
  | inl c => simp [entS, fv, fval, wR, h]
  | inr q => simp [entS, cont, wR, h]
theorem Cnt.same {G : Gv} {s : State} {R : Room} {lim : Nat × Nat} {M M' : Mem} {cells slots : Nat} (h : Cnt G s R lim M cells slots) (e : M'.2.2.2 = M.2.2.2) : Cnt G s R lim M' cells slots := by
  obtain ⟨L0, S0, h1, h2, h3, h4, h5, h6, h7, h8⟩ := h
  exact ⟨L0, S0, h1, by rw [e]; exact h2, by rw [e]; exact h3, h4, h5, by rw [e]; exact h6, by rw [e]; exact h7, h8⟩
theorem Cnt.lt {G : Gv} {s : State} {R : Room} {lim : Nat × Nat} {M : Mem} {cells slots : Nat} (h : Cnt G s R lim M cells slots) : M.2.2.2.length < 999 := by
  obtain ⟨L0, S0, h1, h2, h3, h4, h5, h6, h7, h8⟩ := h
  omega
theorem aln_shp {M : Mem} {t n j : Nat} (h : j < aln M t n) : shp M n = some (.inr (t, aln M t n)) := by
  unfold aln at h ⊢
  split at h
  · rename_i t' k hs
    split at h
    · rename_i e
      subst e
      rw [hs]
      simp
    · omega
  · omega
section HR
variable {l : Launch} {G : Gv} {Y : MI} {lim : Nat × Nat} {α β : Type} {K : α → Option (Option Value × Mem)} {pc : Nat} {ls : Loc_s} {st : List MV} {M : Mem} {idx c n k : Nat} {ty : FieldType} {fin : Bool}
theorem s_gV {v : MV} {x : Option (Option Value × Mem)} (hf : FL Y.1.cls idx c k ty fin) (hs : shp M n = some (.inl c)) (hv : fval G M n k ((fk.getD c []).getD k 0) = cv G v) (hd : decode Y.2.1 pc = .ok (.getfield idx, 3))
    (kk : SimR l G Y lim x (pc + 3) ls (v :: st) M) : SimR l G Y lim x pc ls (.inr (.inr n) :: st) M := by
  intro res hres p e R s m args below meth cc H locs cells slots Q lsA hC hR hS hN hlen hl hr
  have kk := kk res hres p e R s m args below meth cc H locs cells slots Q lsA hC hR hS hN hlen hl hr
  obtain ⟨hx, hb, hml, hown, -, -, hK, -, -, ⟨hw, -⟩, -⟩ := hC
  obtain ⟨C, T, N, hc, hk, hlk, -, -, hC1⟩ := hf
  obtain ⟨hin, -, -, hN1⟩ := clsOK c C T N hc
  have h0 := (shp_lt hs).1
  show W p l e R s m args below meth cc H locs cells slots Q (F0 m pc lsA (rv G n :: st.map (cv G)))
  rw [rv_ref h0]
  exact va_get (D := G.2.2.1) (ci := c) (v := cv G v) (C := C) (T := T) (N := N) hx hb (fun w h => hw w h _) hin hown hK hR (n - 1) (wsOf_shp hs) hc k hk (hw _ hlk _) (fun _ h9 => by rw [hC1] at h9; exact h9) (by rw [fv_at (by rw [hN1]; exact hk), hv]) hd kk
theorem s_gI {f : Int32 → Option α} (hf : FL Y.1.cls idx c k ty fin) (h0 : (fk.getD c []).getD k 0 = 0) (hd : decode Y.2.1 pc = .ok (.getfield idx, 3)) (kk : ∀ v, Sim l G Y lim (f v) K (pc + 3) ls (.inl v :: st) M) :
    Sim l G Y lim ((gI M c n k).bind f) K pc ls (.inr (.inr n) :: st) M := by
  intro res hres
  obtain ⟨v, h1, h2⟩ := bind2 hres
  obtain ⟨hs, h1⟩ := ifs h1; cases h1
  exact s_gV (v := .inl (M.1 n k)) hf hs (by unfold fval; rw [if_pos h0]; rfl) hd (kk _) res h2
theorem s_gL {f : Int64 → Option α} (hf : FL Y.1.cls idx c k ty fin) (h0 : (fk.getD c []).getD k 0 = 1) (hd : decode Y.2.1 pc = .ok (.getfield idx, 3)) (kk : ∀ v, Sim l G Y lim (f v) K (pc + 3) ls (.inr (.inl v) :: st) M) :
    Sim l G Y lim ((gL M c n k).bind f) K pc ls (.inr (.inr n) :: st) M := by
  intro res hres
  obtain ⟨v, h1, h2⟩ := bind2 hres
  obtain ⟨hs, h1⟩ := ifs h1; cases h1
  exact s_gV (v := .inr (.inl (M.2.1 n k))) hf hs (by unfold fval; rw [h0]; rfl) hd (kk _) res h2
theorem s_gR {f : Nat → Option α} (hf : FL Y.1.cls idx c k ty fin) (h0 : (fk.getD c []).getD k 0 = 2) (hd : decode Y.2.1 pc = .ok (.getfield idx, 3)) (kk : ∀ v, Sim l G Y lim (f v) K (pc + 3) ls (.inr (.inr v) :: st) M) :
    Sim l G Y lim ((gR M c n k).bind f) K pc ls (.inr (.inr n) :: st) M := by
  intro res hres
  obtain ⟨v, h1, h2⟩ := bind2 hres
  obtain ⟨hs, h1⟩ := ifs h1; cases h1
  exact s_gV (v := .inr (.inr (M.2.2.1 n k))) hf hs (by unfold fval; rw [h0]; rfl) hd (kk _) res h2
theorem s_pV {v : MV} {x : Option (Option Value × Mem)} {M' : Mem} (hf : FL Y.1.cls idx c k ty fin) (hfin : fin = false ∨ (Y.1.name = "<init>" ∧ (∃ T N, classes[c]? = some (Y.1.cls, T, N)))) (hs : shp M n = some (.inl c)) (hn : narrow ty (cv G v) = cv G v) (hfit : fits ty (cv G v) = true)
    (hM : M'.2.2.2 = M.2.2.2) (hv : fval G M' n k ((fk.getD c []).getD k 0) = cv G v) (ho : ∀ j, j ≠ k → ∀ t, fval G M' n j t = fval G M n j t) (hent : ∀ a y, a ≠ n → entS G M' a y = entS G M a y) (hd : decode Y.2.1 pc = .ok (.putfield idx, 3))
    (kk : SimR l G Y lim x (pc + 3) ls st M') : SimR l G Y lim x pc ls (v :: .inr (.inr n) :: st) M := by
  intro res hres p e R s m args below meth cc H locs cells slots Q lsA hC hR hS hN hlen hl hr
  have kk := fun H1 locs1 hR1 hS1 => kk res hres p e R s m args below meth cc H1 locs1 cells slots Q lsA hC hR1 hS1 (hN.same hM) hlen hl hr
  obtain ⟨hx, hb, hml, hown, hnm, -, hK, had, -, ⟨hw, -⟩, -⟩ := hC
  obtain ⟨C, T, N, hc, hk, hlk, hty, hfi, hC1⟩ := hf
  obtain ⟨hin, ⟨ty0, hty0⟩, hnmd, hN1⟩ := clsOK c C T N hc
  have h0 := (shp_lt hs).1
  have hD := wsOf_D (M := M) had hN.lt
  have hset : (wsOf G M).set (n - 1) (G.2.1 n, .inr (c, (fv G M n (fk.getD c [])).set k (cv G v))) = wsOf G M' := wsOf_set hs hM (by show Sum.inr (c, fv G M' n (fk.getD c [])) = _; rw [fv_set (by rw [hN1]; exact hk) hv ho]) hent
  show W p l e R s m args below meth cc H locs cells slots Q (F0 m pc lsA (cv G v :: rv G n :: st.map (cv G)))
  rw [rv_ref h0]
  by_cases hff : fin = false
  · exact va_put (D := G.2.2.1) (ci := c) (v := cv G v) (C := C) (T := T) (N := N) hx hb (fun w h => hw w h _) hin ty0 hty0 hnmd hown hK hR hD hS (n - 1) (wsOf_shp hs) hc k hk (hw _ hlk _) (fun _ h9 => by rw [hC1] at h9; exact h9) (by rw [hfi]; exact hff) hty hn hfit (by rw [fv_len, hN1]; exact hk) hd (fun H1 locs1 hP1 hD1 hS1 => kk H1 locs1 (by unfold Rep; rw [← hset]; exact hP1) hS1)
  · obtain ⟨hi, T2, N2, hc2⟩ := hfin.resolve_left hff
    have hCe : C = Y.1.cls := by
      have := hc.symm.trans hc2
      simp at this
      exact this.1
    exact va_putF (D := G.2.2.1) (ci := c) (v := cv G v) (C := C) (T := T) (N := N) hx hb (fun w h => hw w h _) hin ty0 hty0 hnmd hown hK hR hD hS (n - 1) (wsOf_shp hs) hc k hk (hw _ hlk _) (fun _ h9 => by rw [hC1] at h9; exact h9) (by rw [hfi]; cases fin <;> simp_all) (by rw [hnm]; exact hi) (by rw [hC1, hCe]) hty hn hfit (by rw [fv_len, hN1]; exact hk) hd (fun H1 locs1 hP1 hD1 hS1 => kk H1 locs1 (by unfold Rep; rw [← hset]; exact hP1) hS1)
theorem s_pI {f : Mem → Option α} {v : Int32} (hf : FL Y.1.cls idx c k .int fin) (hfin : fin = false ∨ (Y.1.name = "<init>" ∧ (∃ T N, classes[c]? = some (Y.1.cls, T, N)))) (h0 : (fk.getD c []).getD k 0 = 0) (hd : decode Y.2.1 pc = .ok (.putfield idx, 3)) (kk : ∀ M', Sim l G Y lim (f M') K (pc + 3) ls st M') :
    Sim l G Y lim ((pI M c n k v).bind f) K pc ls (.inl v :: .inr (.inr n) :: st) M := by
  intro res hres
  obtain ⟨M', h1, h2⟩ := bind2 hres
  obtain ⟨hs, h1⟩ := ifs h1; cases h1
  exact s_pV (M' := wI M n k v) hf hfin hs rfl rfl rfl (by unfold fval; rw [if_pos h0]; simp [wI, cv]) (fun j hj t => by simp [fval, wI, hj]) ent_wI hd (kk _) res h2
/-- a boolean field -/
def pZ (M : Mem) (c n k : Nat) (v : Int32) : Option Mem := if shp M n = some (.inl c) ∧ (v = 0 ∨ v = 1) then some (wI M n k v) else none
theorem s_pZ {f : Mem → Option α} {v : Int32} (hf : FL Y.1.cls idx c k .boolean fin) (hfin : fin = false ∨ (Y.1.name = "<init>" ∧ (∃ T N, classes[c]? = some (Y.1.cls, T, N)))) (h0 : (fk.getD c []).getD k 0 = 0) (hd : decode Y.2.1 pc = .ok (.putfield idx, 3)) (kk : ∀ M', Sim l G Y lim (f M') K (pc + 3) ls st M') :
    Sim l G Y lim ((pZ M c n k v).bind f) K pc ls (.inl v :: .inr (.inr n) :: st) M := by
  intro res hres
  obtain ⟨M', h1, h2⟩ := bind2 hres
  obtain ⟨⟨hs, hz⟩, h1⟩ := ifs h1; cases h1
  exact s_pV (M' := wI M n k v) hf hfin hs (by rcases hz with rfl | rfl <;> rfl) (by rcases hz with rfl | rfl <;> rfl) rfl (by unfold fval; rw [if_pos h0]; simp [wI, cv]) (fun j hj t => by simp [fval, wI, hj]) ent_wI hd (kk _) res h2
theorem s_pL {f : Mem → Option α} {v : Int64} (hf : FL Y.1.cls idx c k .long fin) (hfin : fin = false ∨ (Y.1.name = "<init>" ∧ (∃ T N, classes[c]? = some (Y.1.cls, T, N)))) (h0 : (fk.getD c []).getD k 0 = 1) (hd : decode Y.2.1 pc = .ok (.putfield idx, 3)) (kk : ∀ M', Sim l G Y lim (f M') K (pc + 3) ls st M') :
    Sim l G Y lim ((pL M c n k v).bind f) K pc ls (.inr (.inl v) :: .inr (.inr n) :: st) M := by
  intro res hres
  obtain ⟨M', h1, h2⟩ := bind2 hres
  obtain ⟨hs, h1⟩ := ifs h1; cases h1
  exact s_pV (M' := wL M n k v) hf hfin hs rfl rfl rfl (by unfold fval; rw [h0]; simp [wL, cv]) (fun j hj t => by simp [fval, wL, hj]) ent_wL hd (kk _) res h2
theorem nar_rv {G : Gv} {ty : FieldType} {v : Nat} (ht : (∃ nm, ty = .object nm) ∨ ∃ u, ty = .array u) : narrow ty (rv G v) = rv G v ∧ fits ty (rv G v) = true := by
  rcases rv_or G v with e | ⟨a, e⟩ <;> rw [e] <;> rcases ht with ⟨nm, rfl⟩ | ⟨u, rfl⟩ <;> exact ⟨rfl, rfl⟩
theorem s_pR {f : Mem → Option α} {v : Nat} (hf : FL Y.1.cls idx c k ty fin) (hty : (∃ nm, ty = .object nm) ∨ ∃ u, ty = .array u) (hfin : fin = false ∨ (Y.1.name = "<init>" ∧ (∃ T N, classes[c]? = some (Y.1.cls, T, N)))) (h0 : (fk.getD c []).getD k 0 = 2) (hd : decode Y.2.1 pc = .ok (.putfield idx, 3)) (kk : ∀ M', Sim l G Y lim (f M') K (pc + 3) ls st M') :
    Sim l G Y lim ((pR M c n k v).bind f) K pc ls (.inr (.inr v) :: .inr (.inr n) :: st) M := by
  intro res hres
  obtain ⟨M', h1, h2⟩ := bind2 hres
  obtain ⟨hs, h1⟩ := ifs h1; cases h1
  exact s_pV (v := .inr (.inr v)) (M' := wR M n k v) hf hfin hs (nar_rv hty).1 (nar_rv hty).2 rfl (by unfold fval; rw [h0]; simp [wR, cv]) (fun j hj t => by simp [fval, wR, hj]) ent_wR hd (kk _) res h2
/-! arrays -/
theorem vin {i : Int32} {N : Nat} (h : ¬ i < 0 ∧ i.toNatClampNeg < N) : vp_in i N := fun q => q.elim h.1 (fun q => by omega)
theorem tys_at {G : Gv} {t : Nat} (h : t < 8) : (tysOf G)[t]? = some (G.2.2.2.1 t, aty.getD t .int) := by
  match t, h with
  | 0, _ => rfl
  | 1, _ => rfl
  | 2, _ => rfl
  | 3, _ => rfl
  | 4, _ => rfl
  | 5, _ => rfl
  | 6, _ => rfl
  | 7, _ => rfl
theorem ent_i {G : Gv} {M : Mem} {n t N : Nat} (h : t < 3) : entS G M n (.inr (t, N)) = .inl (G.2.2.2.1 t, N, .inl (fun j => M.1 n j)) := by simp [entS, cont, h]
theorem ent_l {G : Gv} {M : Mem} {n N : Nat} : entS G M n (.inr (3, N)) = .inl (G.2.2.2.1 3, N, .inr (.inl (fun j => M.2.1 n j))) := by simp [entS, cont]
theorem ent_r {G : Gv} {M : Mem} {n t N : Nat} (h : 3 < t) : entS G M n (.inr (t, N)) = .inl (G.2.2.2.1 t, N, .inr (.inr (.inr (.inr (fun j => rof G (M.2.2.1 n j)))))) := by
  have h1 : ¬ t < 3 := by omega
  have h2 : ¬ t = 3 := by omega
  simp [entS, cont, h1, h2]
theorem s_ia {f : Int32 → Option α} {i : Int32} (hd : decode Y.2.1 pc = .ok (.iaload, 1)) (kk : ∀ v, Sim l G Y lim (f v) K (pc + 1) ls (.inl v :: st) M) :
    Sim l G Y lim ((aI M 0 n i).bind f) K pc ls (.inl i :: .inr (.inr n) :: st) M := by
  intro res hres
  obtain ⟨v, h1, h2⟩ := bind2 hres
  intro p e R s m args below meth cc H locs cells slots Q lsA hC hR hS hN hlen hl hr
  have kk := kk v res h2 p e R s m args below meth cc H locs cells slots Q lsA hC hR hS hN hlen hl hr
  obtain ⟨hx, hb, hml, hown, -, -, hK, had, -, -, hro, -⟩ := hC
  show W p l e R s m args below meth cc H locs cells slots Q (F0 m pc lsA (.int i :: rv G n :: st.map (cv G)))
  unfold aI at h1
  split at h1
  · obtain ⟨hi, h1⟩ := ifs h1; cases h1
    have hs := aln_shp hi.2
    rw [rv_ref (shp_lt hs).1]
    exact va_iald (D := G.2.2.1) hx hb hK hR (n - 1) 0 ((wsOf_shp hs).trans (by rw [ent_i (by omega)])) (tys_at (by omega)) (vin hi) hd kk
  · rename_i hn
    obtain ⟨⟨-, hi⟩, h1⟩ := ifs h1
    have hlt := (List.getElem?_eq_some_iff.mp h1).1
    have hj : n - 1000 < 10 := by
      rcases Nat.lt_or_ge (n - 1000) 10 with q | q
      · exact q
      · obtain ⟨j, hj⟩ : ∃ j, n - 1000 = j + 10 := ⟨n - 1000 - 10, by omega⟩
        rw [hj] at hlt
        simp [roA] at hlt
    rw [rv_ref (by omega)]
    have hT := (hro (n - 1000) hj).1
    rw [show 1000 + (n - 1000) = n by omega] at hT
    refine va_ti (v := .int v) hx hb hT hS (vin ⟨hi, hlt⟩) ?_ hd kk
    show Value.int _ = _
    rw [List.getD_eq_getElem?_getD, h1]
    rfl
theorem s_ba {f : Int32 → Option α} {i : Int32} {t : Nat} (ht : t = 1 ∨ t = 2) (hd : decode Y.2.1 pc = .ok (.baload, 1)) (kk : ∀ v, Sim l G Y lim (f v) K (pc + 1) ls (.inl v :: st) M) :
    Sim l G Y lim ((aI M t n i).bind f) K pc ls (.inl i :: .inr (.inr n) :: st) M := by
  intro res hres
  obtain ⟨v, h1, h2⟩ := bind2 hres
  intro p e R s m args below meth cc H locs cells slots Q lsA hC hR hS hN hlen hl hr
  have kk := kk v res h2 p e R s m args below meth cc H locs cells slots Q lsA hC hR hS hN hlen hl hr
  obtain ⟨hx, hb, hml, hown, -, -, hK, had, -, -, hro, -⟩ := hC
  show W p l e R s m args below meth cc H locs cells slots Q (F0 m pc lsA (.int i :: rv G n :: st.map (cv G)))
  unfold aI at h1
  split at h1
  · obtain ⟨hi, h1⟩ := ifs h1; cases h1
    have hs := aln_shp hi.2
    rw [rv_ref (shp_lt hs).1]
    rcases ht with rfl | rfl
    · exact va_bald (D := G.2.2.1) hx hb hK hR (n - 1) 1 ((wsOf_shp hs).trans (by rw [ent_i (by omega)])) (tys_at (by omega)) (vin hi) hd kk
    · exact va_zald (D := G.2.2.1) hx hb hK hR (n - 1) 2 ((wsOf_shp hs).trans (by rw [ent_i (by omega)])) (tys_at (by omega)) (vin hi) hd kk
  · obtain ⟨⟨h3, -⟩, -⟩ := ifs h1
    omega
theorem s_la {f : Int64 → Option α} {i : Int32} (hd : decode Y.2.1 pc = .ok (.laload, 1)) (kk : ∀ v, Sim l G Y lim (f v) K (pc + 1) ls (.inr (.inl v) :: st) M) :
    Sim l G Y lim ((aL M n i).bind f) K pc ls (.inl i :: .inr (.inr n) :: st) M := by
  intro res hres
  obtain ⟨v, h1, h2⟩ := bind2 hres
  intro p e R s m args below meth cc H locs cells slots Q lsA hC hR hS hN hlen hl hr
  have kk := kk v res h2 p e R s m args below meth cc H locs cells slots Q lsA hC hR hS hN hlen hl hr
  obtain ⟨hx, hb, hml, hown, -, -, hK, had, -, -, hro, -⟩ := hC
  show W p l e R s m args below meth cc H locs cells slots Q (F0 m pc lsA (.int i :: rv G n :: st.map (cv G)))
  obtain ⟨hi, h1⟩ := ifs h1; cases h1
  have hs := aln_shp hi.2
  rw [rv_ref (shp_lt hs).1]
  exact va_lald (D := G.2.2.1) hx hb hK hR (n - 1) 3 ((wsOf_shp hs).trans (by rw [ent_l])) (tys_at (by omega)) (vin hi) hd kk
theorem s_aa {f : Nat → Option α} {i : Int32} {t : Nat} {C : String} (ht : 3 < t ∧ t < 8) (hC0 : aty.getD t .int = .object C) (hd : decode Y.2.1 pc = .ok (.aaload, 1)) (kk : ∀ v, Sim l G Y lim (f v) K (pc + 1) ls (.inr (.inr v) :: st) M) :
    Sim l G Y lim ((aR M t n i).bind f) K pc ls (.inl i :: .inr (.inr n) :: st) M := by
  intro res hres
  obtain ⟨v, h1, h2⟩ := bind2 hres
  intro p e R s m args below meth cc H locs cells slots Q lsA hC hR hS hN hlen hl hr
  have kk := kk v res h2 p e R s m args below meth cc H locs cells slots Q lsA hC hR hS hN hlen hl hr
  obtain ⟨hx, hb, hml, hown, -, -, hK, had, -, -, hro, -⟩ := hC
  show W p l e R s m args below meth cc H locs cells slots Q (F0 m pc lsA (.int i :: rv G n :: st.map (cv G)))
  obtain ⟨hi, h1⟩ := ifs h1; cases h1
  have hs := aln_shp hi.2
  rw [rv_ref (shp_lt hs).1]
  exact va_aldq (D := G.2.2.1) (C := C) (f := fun j => rof G (M.2.2.1 n j)) hx hb hK hR (n - 1) t ((wsOf_shp hs).trans (by rw [ent_r ht.1])) ((tys_at ht.2).trans (by rw [hC0])) (vin hi) hd kk
theorem s_len {f : Int32 → Option α} {t : Nat} (ht : t < 8) {N : Nat} {v : Int32} {x : Option (Option Value × Mem)} (hs : shp M n = some (.inr (t, N))) (hv : Int32.ofNat N = v) (hd : decode Y.2.1 pc = .ok (.arraylength, 1)) (kk : SimR l G Y lim x (pc + 1) ls (.inl v :: st) M) :
    SimR l G Y lim x pc ls (.inr (.inr n) :: st) M := by
  intro res hres p e R s m args below meth cc H locs cells slots Q lsA hC hR hS hN hlen hl hr
  have kk := kk res hres p e R s m args below meth cc H locs cells slots Q lsA hC hR hS hN hlen hl hr
  obtain ⟨hx, hb, hml, hown, -, -, hK, had, -, -, hro, -⟩ := hC
  show W p l e R s m args below meth cc H locs cells slots Q (F0 m pc lsA (rv G n :: st.map (cv G)))
  rw [rv_ref (shp_lt hs).1]
  exact va_alen (D := G.2.2.1) hx hb hK hR (n - 1) t (x := (N, cont G M n t)) (wsOf_shp hs) (tys_at ht) hv hd kk
theorem wset_i {M : Mem} {n t N : Nat} {i : Nat} {v : Int32} (ht : t < 3) (hs : shp M n = some (.inr (t, N))) : (wsOf G M).set (n - 1) (G.2.1 n, .inl (G.2.2.2.1 t, N, .inl (upd (fun j => M.1 n j) i v))) = wsOf G (wI M n i v) :=
  wsOf_set hs rfl (by rw [ent_i ht]; congr 3; simp [wI]; rfl) ent_wI
theorem s_is {f : Mem → Option α} {i v : Int32} (hd : decode Y.2.1 pc = .ok (.iastore, 1)) (kk : ∀ M', Sim l G Y lim (f M') K (pc + 1) ls st M') :
    Sim l G Y lim ((sI M 0 n i v).bind f) K pc ls (.inl v :: .inl i :: .inr (.inr n) :: st) M := by
  intro res hres
  obtain ⟨M', h1, h2⟩ := bind2 hres
  obtain ⟨hi, h1⟩ := ifs h1; cases h1
  intro p e R s m args below meth cc H locs cells slots Q lsA hC hR hS hN hlen hl hr
  have kk := fun H1 locs1 hR1 hS1 => kk _ res h2 p e R s m args below meth cc H1 locs1 cells slots Q lsA hC hR1 hS1 (hN.same rfl) hlen hl hr
  obtain ⟨hx, hb, hml, hown, -, -, hK, had, -, -, hro, -⟩ := hC
  show W p l e R s m args below meth cc H locs cells slots Q (F0 m pc lsA (.int v :: .int i :: rv G n :: st.map (cv G)))
  have hs := aln_shp hi.2
  rw [rv_ref (shp_lt hs).1]
  exact va_iast (D := G.2.2.1) hx hb hK hR (wsOf_D had hN.lt) hS (n - 1) 0 ((wsOf_shp hs).trans (by rw [ent_i (by omega)])) (tys_at (by omega)) (vin hi) hd (fun H1 locs1 hP1 hD1 hS1 => kk H1 locs1 (by unfold Rep; rw [← wset_i (by omega) hs]; exact hP1) hS1)
theorem s_bs {f : Mem → Option α} {i v : Int32} {t : Nat} (ht : t = 1 ∨ t = 2) (hd : decode Y.2.1 pc = .ok (.bastore, 1)) (kk : ∀ M', Sim l G Y lim (f M') K (pc + 1) ls st M') :
    Sim l G Y lim ((sI M t n i v).bind f) K pc ls (.inl v :: .inl i :: .inr (.inr n) :: st) M := by
  intro res hres
  obtain ⟨M', h1, h2⟩ := bind2 hres
  obtain ⟨hi, h1⟩ := ifs h1; cases h1
  intro p e R s m args below meth cc H locs cells slots Q lsA hC hR hS hN hlen hl hr
  have kk := fun H1 locs1 hR1 hS1 => kk _ res h2 p e R s m args below meth cc H1 locs1 cells slots Q lsA hC hR1 hS1 (hN.same rfl) hlen hl hr
  obtain ⟨hx, hb, hml, hown, -, -, hK, had, -, -, hro, -⟩ := hC
  show W p l e R s m args below meth cc H locs cells slots Q (F0 m pc lsA (.int v :: .int i :: rv G n :: st.map (cv G)))
  have hs := aln_shp hi.2
  rw [rv_ref (shp_lt hs).1]
  rcases ht with rfl | rfl
  · exact va_bast (D := G.2.2.1) hx hb hK hR (wsOf_D had hN.lt) hS (n - 1) 1 ((wsOf_shp hs).trans (by rw [ent_i (by omega)])) (tys_at (by omega)) (vin hi) hd (fun H1 locs1 hP1 hD1 hS1 => kk H1 locs1 (by unfold Rep; rw [← wset_i (by omega) hs]; exact hP1) hS1)
  · exact va_zast (D := G.2.2.1) hx hb hK hR (wsOf_D had hN.lt) hS (n - 1) 2 ((wsOf_shp hs).trans (by rw [ent_i (by omega)])) (tys_at (by omega)) (vin hi) hd (fun H1 locs1 hP1 hD1 hS1 => kk H1 locs1 (by unfold Rep; rw [← wset_i (by omega) hs]; exact hP1) hS1)
theorem s_ls {f : Mem → Option α} {i : Int32} {v : Int64} (hd : decode Y.2.1 pc = .ok (.lastore, 1)) (kk : ∀ M', Sim l G Y lim (f M') K (pc + 1) ls st M') :
    Sim l G Y lim ((sL M n i v).bind f) K pc ls (.inr (.inl v) :: .inl i :: .inr (.inr n) :: st) M := by
  intro res hres
  obtain ⟨M', h1, h2⟩ := bind2 hres
  obtain ⟨hi, h1⟩ := ifs h1; cases h1
  intro p e R s m args below meth cc H locs cells slots Q lsA hC hR hS hN hlen hl hr
  have kk := fun H1 locs1 hR1 hS1 => kk _ res h2 p e R s m args below meth cc H1 locs1 cells slots Q lsA hC hR1 hS1 (hN.same rfl) hlen hl hr
  obtain ⟨hx, hb, hml, hown, -, -, hK, had, -, -, hro, -⟩ := hC
  show W p l e R s m args below meth cc H locs cells slots Q (F0 m pc lsA (.long v :: .int i :: rv G n :: st.map (cv G)))
  have hs := aln_shp hi.2
  rw [rv_ref (shp_lt hs).1]
  have hset : (wsOf G M).set (n - 1) (G.2.1 n, .inl (G.2.2.2.1 3, aln M 3 n, .inr (.inl (vp_updL (fun j => M.2.1 n j) i.toNatClampNeg v)))) = wsOf G (wL M n i.toNatClampNeg v) := wsOf_set hs rfl (by rw [ent_l]; congr 4; simp [wL]; rfl) ent_wL
  exact va_last (D := G.2.2.1) hx hb hK hR (wsOf_D had hN.lt) hS (n - 1) 3 ((wsOf_shp hs).trans (by rw [ent_l])) (tys_at (by omega)) (vin hi) hd (fun H1 locs1 hP1 hD1 hS1 => kk H1 locs1 (by unfold Rep; rw [← hset]; exact hP1) hS1)
theorem s_as {f : Mem → Option α} {i : Int32} {v t : Nat} {C : String} {T : u_T} {N : Nat} (ht : 3 < t ∧ t < 8) (hC0 : aty.getD t .int = .object C) (hc : classes[c]? = some (C, T, N)) (hd : decode Y.2.1 pc = .ok (.aastore, 1)) (kk : ∀ M', Sim l G Y lim (f M') K (pc + 1) ls st M') :
    Sim l G Y lim ((sR M t c n i v).bind f) K pc ls (.inr (.inr v) :: .inl i :: .inr (.inr n) :: st) M := by
  intro res hres
  obtain ⟨M', h1, h2⟩ := bind2 hres
  obtain ⟨⟨hi, hv⟩, h1⟩ := ifs h1; cases h1
  intro p e R s m args below meth cc H locs cells slots Q lsA hC hR hS hN hlen hl hr
  have kk := fun H1 locs1 hR1 hS1 => kk _ res h2 p e R s m args below meth cc H1 locs1 cells slots Q lsA hC hR1 hS1 (hN.same rfl) hlen hl hr
  obtain ⟨hx, hb, hml, hown, -, -, hK, had, -, -, hro, -⟩ := hC
  show W p l e R s m args below meth cc H locs cells slots Q (F0 m pc lsA (rv G v :: .int i :: rv G n :: st.map (cv G)))
  have hs := aln_shp hi.2
  have hv0 := (shp_lt hv).1
  rw [rv_ref (shp_lt hs).1, rv_ref hv0]
  have hset : (wsOf G M).set (n - 1) (G.2.1 n, .inl (G.2.2.2.1 t, aln M t n, .inr (.inr (.inr (.inr (va_up (fun j => rof G (M.2.2.1 n j)) i.toNatClampNeg (some (G.2.1 v)))))))) = wsOf G (wR M n i.toNatClampNeg v) := wsOf_set hs rfl (by
    rw [ent_r ht.1]
    congr 7
    funext j
    by_cases hj : j = i.toNatClampNeg
    · subst hj
      simp [va_up, wR, rof, Nat.pos_iff_ne_zero.mp hv0]
    · simp [va_up, wR, hj]) ent_wR
  exact va_astq (D := G.2.2.1) (r := (C, T, N)) hx hb hK hR (wsOf_D had hN.lt) hS (n - 1) t (v - 1) c ((wsOf_shp hs).trans (by rw [ent_r ht.1])) ((tys_at ht.2).trans (by rw [hC0])) (wsOf_shp hv) hc (vin hi) hd (fun H1 locs1 hP1 hD1 hS1 => kk H1 locs1 (by unfold Rep; rw [← hset]; exact hP1) hS1)
end HR
