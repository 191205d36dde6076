/-! a method's entry; small things -/
def xpd : List MV → Loc_s
  | [] => []
  | v :: r => if mcat v = 2 then some v :: none :: xpd r else some v :: xpd r
theorem asc_app (G : Gv) (m : Nat) : ∀ (l : Loc_s) (k : Nat), asc G k (l ++ List.replicate m none) = asc G k l
  | [], k => by
    induction m generalizing k with
    | zero => rfl
    | succ m ih => simpa [List.replicate_succ, asc] using ih (k + 1)
  | none :: r, k => by simp [asc, asc_app G m r (k + 1)]
  | some v :: r, k => by simp [asc, asc_app G m r (k + 1)]
theorem lv_args_xpd (G : Gv) : ∀ (vs : List MV) (k : Nat), lv_args k (vs.map (cv G)) = asc G k (xpd vs)
  | [], k => rfl
  | v :: r, k => by
    show (k, cv G v) :: lv_args (if (cv G v).category = 2 then k + 2 else k + 1) (r.map (cv G)) = _
    rw [cv_cat]
    unfold xpd
    split
    · show _ = (k, cv G v) :: asc G (k + 2) (xpd r)
      rw [lv_args_xpd G r (k + 2)]
    · show _ = (k, cv G v) :: asc G (k + 1) (xpd r)
      rw [lv_args_xpd G r (k + 1)]
theorem lv_in {G : Gv} {ls0 : Loc_s} {vs : List MV} {m : Nat} (h : ls0 = xpd vs ++ List.replicate m none) : ∀ q ∈ asc G 0 ls0, q ∈ lv_args 0 (vs.map (cv G)) := by
  rw [h, asc_app, lv_args_xpd]
  exact fun q hq => hq
theorem lg_sl_len (G : Gv) : ∀ vs : List MV, (lg_sl (vs.map (cv G))).length = (vs.map mcat).sum
  | [] => rfl
  | v :: r => by
    have h := lg_sl_len G r
    have hc := cv_cat G v
    simp only [List.map_cons, List.sum_cons]
    rw [← h, ← hc]
    rcases lv_cat (cv G v) with q | q <;> simp [lg_sl, q] <;> omega
theorem sl_le {G : Gv} {vs : List MV} {n : Nat} (h : (vs.map mcat).sum ≤ n) : (lg_sl (vs.map (cv G))).length ≤ n := by
  rw [lg_sl_len]
  exact h
theorem qm_i : Cond.initialized "java/lang/Math" ∈ GW := gw_of (gw_t (gw_1 (List.mem_of_getElem? (i := 14) (by decide +kernel)))) (by decide +kernel)
theorem qm_max_s : Cond.static Lib.Math.max.name ∈ GW := gw_of (gw_t (gw_3 (List.mem_of_getElem? (i := 226) (by decide +kernel)))) (by decide +kernel)
theorem qm_max_c : Cond.code Lib.Math.max.name Lib.Math.max.code 2 (some .int) ∈ GW := gw_of (gw_t (gw_3 (List.mem_of_getElem? (i := 227) (by decide +kernel)))) (by decide +kernel)
theorem qm_min_s : Cond.static Lib.Math.min.name ∈ GW := gw_of (gw_t (gw_3 (List.mem_of_getElem? (i := 36) (by decide +kernel)))) (by decide +kernel)
theorem qm_min_c : Cond.code Lib.Math.min.name Lib.Math.min.code 2 (some .int) ∈ GW := gw_of (gw_t (gw_3 (List.mem_of_getElem? (i := 37) (by decide +kernel)))) (by decide +kernel)
theorem qm_abs_s : Cond.static Lib.Math.abs.name ∈ GW := gw_of (gw_t (gw_3 (List.mem_of_getElem? (i := 194) (by decide +kernel)))) (by decide +kernel)
theorem qm_abs_c : Cond.code Lib.Math.abs.name Lib.Math.abs.code 1 (some .int) ∈ GW := gw_of (gw_t (gw_3 (List.mem_of_getElem? (i := 195) (by decide +kernel)))) (by decide +kernel)
def imax (x y : Int32) : Int32 := if x < y then y else x
def imin (x y : Int32) : Int32 := if y < x then y else x
def iabs (x : Int32) : Int32 := if 0 ≤ x then x else 0 - x
section EN
variable {l : Launch} {G : Gv} {Y : MI} {lim : Nat × Nat} {α : Type} {K : α → Option (Option Value × Mem)} {pc n : Nat} {ls : Loc_s} {st : List MV} {M : Mem}
theorem s_none : Sim l G Y lim none K pc ls st M := by
  intro res hres
  cases hres
def lnA (M : Mem) (t n : Nat) : Option Int32 := match shp M n with
  | some (.inr (t', k)) => if t' = t then some (Int32.ofNat k) else none
  | _ => none
theorem s_lnA {f : Int32 → Option α} {t : Nat} (ht : t < 8) (hd : decode Y.2.1 pc = .ok (.arraylength, 1)) (kk : ∀ v, Sim l G Y lim (f v) K (pc + 1) ls (.inl v :: st) M) : Sim l G Y lim ((lnA M t n).bind f) K pc ls (.inr (.inr n) :: st) M := by
  intro res hres
  obtain ⟨v, h1, h2⟩ := bind2 hres
  unfold lnA at h1
  split at h1
  · rename_i t' k hs
    obtain ⟨he, h3⟩ := ifs h1
    subst he
    cases h3
    exact s_len (α := α) (f := f) ht hs rfl hd (kk _) res h2
  · cases h1
theorem s_imax {X : Option (Option Value × Mem)} {x y : Int32} {idx : Nat} (hl : Cond.methodLink Y.1.cls idx Lib.Math.max.name ∈ GW) (hr : 1 ≤ Y.2.2.2.2.frames ∧ (st.map mcat).sum + 13 ≤ Y.2.2.2.2.locals) (hd : decode Y.2.1 pc = .ok (.invokestatic idx, 3)) (k : SimR l G Y lim X (pc + 3) ls (.inl (imax x y) :: st) M) : SimR l G Y lim X pc ls (.inl y :: .inl x :: st) M := by
  intro res hres p e R s m args below meth c H locs cells slots Q lsA hC hR hS hN hlen hlv hrr
  have k := k res hres p e R s m args below meth c H locs cells slots Q lsA hC hR hS hN hlen hlv hrr
  obtain ⟨hx, hb, hml, hown, hnm, rfl, hCx⟩ := hC
  have hw := hCx.2.2.2.1.1
  have e1 : ((st.map (cv G)).map fun v => v.category).sum = (st.map mcat).sum := by
    rw [List.map_map]
    have : ((fun v => v.category) ∘ cv G) = mcat := funext fun v => cv_cat G v
    rw [this]
  have hrm := hN.room (mc := 0) (ms := 0) hN.bnd.1 hN.bnd.2.1
  exact va_mmax hx hb (hml.trans hlv.1.symm) hown (hw _ hl _) (hw _ qm_max_s _) (hw _ qm_i _) (hw _ qm_max_c _) hr.1 (by rw [e1]; exact hr.2) hrm.1 hrm.2 hd k
theorem s_imin {X : Option (Option Value × Mem)} {x y : Int32} {idx : Nat} (hl : Cond.methodLink Y.1.cls idx Lib.Math.min.name ∈ GW) (hr : 1 ≤ Y.2.2.2.2.frames ∧ (st.map mcat).sum + 13 ≤ Y.2.2.2.2.locals) (hd : decode Y.2.1 pc = .ok (.invokestatic idx, 3)) (k : SimR l G Y lim X (pc + 3) ls (.inl (imin x y) :: st) M) : SimR l G Y lim X pc ls (.inl y :: .inl x :: st) M := by
  intro res hres p e R s m args below meth c H locs cells slots Q lsA hC hR hS hN hlen hlv hrr
  have k := k res hres p e R s m args below meth c H locs cells slots Q lsA hC hR hS hN hlen hlv hrr
  obtain ⟨hx, hb, hml, hown, hnm, rfl, hCx⟩ := hC
  have hw := hCx.2.2.2.1.1
  have e1 : ((st.map (cv G)).map fun v => v.category).sum = (st.map mcat).sum := by
    rw [List.map_map]
    have : ((fun v => v.category) ∘ cv G) = mcat := funext fun v => cv_cat G v
    rw [this]
  have hrm := hN.room (mc := 0) (ms := 0) hN.bnd.1 hN.bnd.2.1
  exact va_mmin hx hb (hml.trans hlv.1.symm) hown (hw _ hl _) (hw _ qm_min_s _) (hw _ qm_i _) (hw _ qm_min_c _) hr.1 (by rw [e1]; exact hr.2) hrm.1 hrm.2 hd k
theorem s_iabs {X : Option (Option Value × Mem)} {x : Int32} {idx : Nat} (hl : Cond.methodLink Y.1.cls idx Lib.Math.abs.name ∈ GW) (hr : 1 ≤ Y.2.2.2.2.frames ∧ (st.map mcat).sum + 13 ≤ Y.2.2.2.2.locals) (hd : decode Y.2.1 pc = .ok (.invokestatic idx, 3)) (k : SimR l G Y lim X (pc + 3) ls (.inl (iabs x) :: st) M) : SimR l G Y lim X pc ls (.inl x :: st) M := by
  intro res hres p e R s m args below meth c H locs cells slots Q lsA hC hR hS hN hlen hlv hrr
  have k := k res hres p e R s m args below meth c H locs cells slots Q lsA hC hR hS hN hlen hlv hrr
  obtain ⟨hx, hb, hml, hown, hnm, rfl, hCx⟩ := hC
  have hw := hCx.2.2.2.1.1
  have e1 : ((st.map (cv G)).map fun v => v.category).sum = (st.map mcat).sum := by
    rw [List.map_map]
    have : ((fun v => v.category) ∘ cv G) = mcat := funext fun v => cv_cat G v
    rw [this]
  have hrm := hN.room (mc := 0) (ms := 0) hN.bnd.1 hN.bnd.2.1
  exact va_mabs hx hb (hml.trans hlv.1.symm) hown (hw _ hl _) (hw _ qm_abs_s _) (hw _ qm_i _) (hw _ qm_abs_c _) hr.1 (by rw [e1]; exact hr.2) hrm.1 hrm.2 hd k
end EN
