/-! who lifts -/
def near (a : Nat → Nat) (d m s : Nat) : Bool := decide (∀ x, x < a 0 → m.testBit x = true → hr a x d = true → gp a s d ≤ gp a x d)
def rg (a kd h : Nat → Nat) (d m s : Nat) : Nat := if kd s = 0 then a (7 + 5 * s) else if kd s = 1 then (if a (7 + 5 * s) ≤ h s + 1 then 1 else a (7 + 5 * s) - h s) else if kd s = 2 then 0 else if kd s = 3 then a (7 + 5 * s) + h s else if near a d m s = true then a (7 + 5 * s) else 0
def kdO (a : Nat → Nat) (s : Nat) : Nat := a (5 + 5 * s)
theorem rg_lt {a kd h : Nat → Nat} (hO : OkO a) {d m s : Nat} (hs : s < a 0) (hh : h s < 1000) : rg a kd h d m s < 2000 := by
  have := (hO.2.1 s hs).2.2.1
  unfold rg
  (repeat' split) <;> omega
theorem and_bit (x y i : Nat) : (x &&& y).testBit i = (x.testBit i && y.testBit i) := Nat.testBit_and x y i
theorem near_mn {a : Nat → Nat} (hO : OkO a) {d m s : Nat} (hd : d < a 0) (hs : s < a 0) (hm : m.testBit s = true) (hh : hr a s d = true) : gp a s d = mn (fun x => (hb a d &&& m).testBit x) (fun x => gp a x d) (a 0) 31 ↔ near a d m s = true := by
  obtain ⟨g1, g2, g3⟩ := mn_spec (fun x => (hb a d &&& m).testBit x) (fun x => gp a x d) (a 0) 31
  have bt : ∀ x, x < a 0 → (hb a d &&& m).testBit x = (hr a x d && m.testBit x) := fun x hx => by rw [and_bit, hb_bit]; simp [hx]
  have hs30 := gp_30 hO hd hs
  have gs := g2 s hs (by show (hb a d &&& m).testBit s = true; rw [bt s hs, hm, hh]; rfl)
  unfold near
  rw [decide_eq_true_iff]
  constructor
  · intro e x hx h1 h2
    rw [e]
    exact g2 x hx (by show (hb a d &&& m).testBit x = true; rw [bt x hx, h1, h2]; rfl)
  · intro H
    rcases g3 with h | ⟨x, hx, h1, h2⟩
    · omega
    · have h1 : (hb a d &&& m).testBit x = true := h1
      rw [bt x hx, Bool.and_eq_true] at h1
      have := H x hx h1.2 h1.1
      have h2 : mn (fun x => (hb a d &&& m).testBit x) (fun x => gp a x d) (a 0) 31 = gp a x d := h2
      omega
theorem nI_subLe {v h : Nat} (hv : v < 2 ^ 20) (hh : h < 2 ^ 20) : nI v - nI h ≤ 1 ↔ v ≤ h + 1 := by
  have e := pk_sub_toInt (a := v) (b := h) (by omega) (by omega)
  rw [Int32.le_iff_toInt_le, e]
  have : (1 : Int32).toInt = 1 := rfl
  omega
theorem c_ring {M : Mem} {o : Nat} {a h : Nat → Nat} (hC : CO M o a) (hO : OkO a) {d m s : Nat} (hd : d < a 0) (hs : s < a 0) (hml : m < 2 ^ a 0) (hm : m.testBit s = true) (hh : hr a s d = true) (hhs : h s < 1000) : f_X3_ringOf M o (nI s) (nI d) (nI (hb a d &&& m)) (nI (h s)) = some (nI (rg a (kdO a) h d m s)) := by
  have h8 := hO.1.1
  have p8 := pw8 h8
  have hk := (hO.2.1 s hs).1
  have hv := (hO.2.1 s hs).2.2.1
  have hmn := near_mn hO hd hs hm hh
  have hlt : (hb a d &&& m) < 2 ^ 31 := by have := hb_256 hO d; have := Nat.and_le_left (n := hb a d) (m := m); omega
  unfold f_X3_ringOf rg
  rw [co_r7 hC, bb_some, co_rings hC hO hs, bb_some, co_r5 hC, bb_some, co_kind hC hO hs, bb_some]
  show _ = some (nI (if a (5 + 5 * s) = 0 then _ else if a (5 + 5 * s) = 1 then _ else if a (5 + 5 * s) = 2 then _ else if a (5 + 5 * s) = 3 then _ else _))
  rcases (show a (5 + 5 * s) = 0 ∨ a (5 + 5 * s) = 1 ∨ a (5 + 5 * s) = 2 ∨ a (5 + 5 * s) = 3 ∨ a (5 + 5 * s) = 4 by omega) with e | e | e | e | e
  · rw [e]; rfl
  · rw [e]
    show (if (nI (a (7 + 5 * s)) - nI (h s)) ≤ 1 then _ else _) = some (nI (if _ then _ else _))
    by_cases hc : a (7 + 5 * s) ≤ h s + 1
    · rw [if_pos hc, if_pos ((nI_subLe (by omega) (by omega)).mpr hc)]; rfl
    · rw [if_neg hc, if_neg (fun hx => hc ((nI_subLe (by omega) (by omega)).mp hx)), pk_sub (by omega)]; rfl
  · rw [e]; rfl
  · rw [e]
    show some (nI (a (7 + 5 * s)) + nI (h s)) = some (nI (a (7 + 5 * s) + h s))
    rw [nI_add]
  · rw [e]
    show ((ob M 5 o).bind fun _ => (f_X5_gap M o (nI s) (nI d)).bind fun v11 => (ob M 5 o).bind fun _ => (f_X5_nearestGap M o (nI d) (nI (hb a d &&& m))).bind fun v12 => if v11 = v12 then some (nI (a (7 + 5 * s))) else some 0) = some (nI (if near a d m s = true then _ else _))
    rw [ob_at (co_shp hC), bb_some, c_gap hC hO hd hs, bb_some, bb_some, c_near hC hO hd hlt, bb_some]
    have hg := gp_30 hO hd hs
    have hmx := (mn_spec (fun x => (hb a d &&& m).testBit x) (fun x => gp a x d) (a 0) 31).1
    by_cases hc : near a d m s = true
    · rw [if_pos hc, if_pos (by rw [nI_eq (by omega) (by omega)]; exact hmn.mpr hc)]
    · rw [if_neg hc, if_neg (fun hx => hc (hmn.mp ((nI_eq (by omega) (by omega)).mp hx)))]; rfl
/-- the model's rows of who was helped and of kinds -/
def MR (M : Mem) (a kd h : Nat → Nat) : Prop := MO M a ∧ ∀ s, s < a 0 → (M.1 260 s = nI (kd s) ∧ M.1 259 s = nI (h s)) ∧ kd s ≤ 4 ∧ h s < 1000
theorem mr_k {M : Mem} {a kd h : Nat → Nat} (hM : MR M a kd h) (hO : OkO a) {s : Nat} (hs : s < a 0) : aI M 0 260 (nI s) = some (nI (kd s)) := by
  have := hO.1.1
  rw [aI_at (m_s260 hM.1.1) (by omega) (by omega) (by omega), (hM.2 s hs).1.1]
theorem mr_h {M : Mem} {a kd h : Nat → Nat} (hM : MR M a kd h) (hO : OkO a) {s : Nat} (hs : s < a 0) : aI M 0 259 (nI s) = some (nI (h s)) := by
  have := hO.1.1
  rw [aI_at (m_s259 hM.1.1) (by omega) (by omega) (by omega), (hM.2 s hs).1.2]
theorem mr_fr {S : Nat → Nat → Prop} {M M' : Mem} {a kd h : Nat → Nat} (hM : MR M a kd h) (hF : Fr S M M') (hS : ∀ n k, S n k → n ≠ 256 ∧ ¬ (n = 255 ∧ 11 ≤ k ∧ k ≤ 13) ∧ n ≠ 259 ∧ n ≠ 260) : MR M' a kd h := by
  refine ⟨mo_fr hM.1 hF (fun n k h => ⟨(hS n k h).1, (hS n k h).2.1⟩), fun s hs => ⟨⟨?_, ?_⟩, (hM.2 s hs).2⟩⟩
  · rw [hF.2 260 s (fun h => (hS _ _ h).2.2.2 rfl)]; exact (hM.2 s hs).1.1
  · rw [hF.2 259 s (fun h => (hS _ _ h).2.2.1 rfl)]; exact (hM.2 s hs).1.2
theorem fo_and {q : Nat → Bool} {n : Nat} : fo (fun x (v : Bool) => v && q x) n true = decide (∀ x, x < n → q x = true) := by
  induction n with
  | zero => simp [fo]
  | succ n ih =>
    show (fo (fun x (v : Bool) => v && q x) n true && q n) = _
    rw [ih]
    cases e : q n with
    | true =>
      rw [Bool.and_true]
      apply decide_eq_decide.mpr
      exact ⟨fun h x hx => by rcases (show x < n ∨ x = n by omega) with h' | rfl; exact h x h'; exact e, fun h x hx => h x (by omega)⟩
    | false =>
      rw [Bool.and_false]
      symm
      apply decide_eq_false
      intro h
      rw [h n (by omega)] at e
      cases e
def bI (b : Bool) : Int32 := if b = true then 1 else 0
theorem mo_near {M : Mem} {a : Nat → Nat} (hM : MO M a) (hO : OkO a) {d m s : Nat} (hd : d < a 0) (hs : s < a 0) (hml : m < 2 ^ a 0) : f_X12_isNearest M 255 (nI s) (nI d) (nI m) = some (bI (near a d m s)) := by
  have h8 := hO.1.1
  have p8 := pw8 h8
  have e : f_X12_isNearest_L6 M 255 (nI s) (nI d) (nI m) 1 0 = some (bI (fo (fun x (v : Bool) => v && decide (m.testBit x = true → hr a x d = true → gp a s d ≤ gp a x d)) (a 0) true)) := by
    refine lp (α := Bool) (a 0) _ bI bI true (fun x v hx => ?_) (fun v => by simp [f_X12_isNearest_B6, mo_g12 hM]) (by omega)
    have g1 := gp_30 hO hd hx
    have g2 := gp_30 hO hd hs
    have lt : nI (gp a x d) < nI (gp a s d) ↔ gp a x d < gp a s d := nI_ltI (by omega) (by omega)
    simp only [f_X12_isNearest_B6, mo_g12 hM, if_neg (nI_ge hx (show a 0 < 2 ^ 31 by omega)), bb_some, nI_eq (show x < 2 ^ 31 by omega) (show s < 2 ^ 31 by omega), m_holds M (show m < 2 ^ 31 by omega) (show x < 32 by omega), mo_ob hM, mo_hears hM hO hx hd, mo_off hM hO hx hd, mo_off hM hO hs hd, lt]
    cases v with
    | false => simp [bI]
    | true =>
      by_cases e1 : x = s
      · subst e1
        simp [bI]
      · by_cases e2 : m.testBit x = true
        · by_cases e3 : hr a x d = true
          · by_cases e4 : gp a x d < gp a s d
            · simp [bI, e1, e2, e3, e4]
            · simp [bI, e1, e2, e3, e4]
          · simp [bI, e1, e2, e3]
        · simp [bI, e1, e2]
  rw [fo_and] at e
  have e2 : decide (∀ x, x < a 0 → decide (m.testBit x = true → hr a x d = true → gp a s d ≤ gp a x d) = true) = near a d m s := by
    unfold near
    apply decide_eq_decide.mpr
    simp only [decide_eq_true_iff]
  rw [e2] at e
  have z : zr (bI (near a d m s)) = some (bI (near a d m s)) := by cases near a d m s <;> rfl
  rw [f_X12_isNearest, e, bb_some, z, bb_some]
theorem mo_ring {M : Mem} {a kd h : Nat → Nat} (hM : MR M a kd h) (hO : OkO a) {d m s : Nat} (hd : d < a 0) (hs : s < a 0) (hml : m < 2 ^ a 0) : f_X12_ringOf M 255 (nI s) (nI d) (nI m) = some (nI (rg a kd h d m s)) := by
  have h8 := hO.1.1
  have hv := (hO.2.1 s hs).2.2.1
  obtain ⟨-, hk, hhs⟩ := hM.2 s hs
  have r14 := m_r14 hM.1.1
  have eh := mr_h hM hO hs
  unfold f_X12_ringOf rg
  rw [mo_ob hM.1, bb_some, mo_of2 hM.1 (by omega), bb_some, m_r15 hM.1.1, bb_some, mr_k hM hO hs, bb_some]
  rcases (show kd s = 0 ∨ kd s = 1 ∨ kd s = 2 ∨ kd s = 3 ∨ kd s = 4 by omega) with e | e | e | e | e
  · rw [e]; rfl
  · rw [e]
    show ((gR M 12 255 14).bind fun v5 => (aI M 0 v5 (nI s)).bind fun v6 => (if (nI (a (7 + 5 * s)) - v6) ≤ 1 then some 1 else (gR M 12 255 14).bind fun v8 => (aI M 0 v8 (nI s)).bind fun v9 => some (nI (a (7 + 5 * s)) - v9))) = some (nI (if _ then _ else _))
    rw [r14, bb_some, eh, bb_some]
    by_cases hc : a (7 + 5 * s) ≤ h s + 1
    · rw [if_pos hc, if_pos ((nI_subLe (by omega) (by omega)).mpr hc)]; rfl
    · rw [if_neg hc, if_neg (fun hx => hc ((nI_subLe (by omega) (by omega)).mp hx)), bb_some, eh, bb_some, pk_sub (by omega)]; rfl
  · rw [e]; rfl
  · rw [e]
    show ((gR M 12 255 14).bind fun v12 => (aI M 0 v12 (nI s)).bind fun v13 => some (nI (a (7 + 5 * s)) + v13)) = some (nI (a (7 + 5 * s) + h s))
    rw [r14, bb_some, eh, bb_some, nI_add]
  · rw [e]
    show ((some ()).bind fun _ => (f_X12_isNearest M 255 (nI s) (nI d) (nI m)).bind fun v15 => if v15 = 0 then some 0 else some (nI (a (7 + 5 * s)))) = some (nI (if near a d m s = true then _ else _))
    rw [bb_some, mo_near hM.1 hO hd hs hml, bb_some]
    cases near a d m s <;> rfl
/-- one who would lift is offered -/
def ofr (a : Nat → Nat) (d s r : Nat) : Option (Nat × Nat × Nat) → Option (Nat × Nat × Nat)
  | none => if r = 0 then none else some (s, r, 2 ^ s)
  | some (w, q, t) => if r = 0 then some (w, q, t) else if q < r then some (w, q, t) else if r = q then some (if gp a w d ≤ gp a s d then w else s, q, t ||| 2 ^ s) else some (s, r, 2 ^ s)
def LC (M : Mem) (n : Nat) : Option (Nat × Nat × Nat) → Prop
  | none => M.1 n 0 = -1 ∧ M.1 n 1 = 0 ∧ M.1 n 2 = 0
  | some (w, r, t) => M.1 n 0 = nI w ∧ M.1 n 1 = nI r ∧ M.1 n 2 = nI t
def LM (M : Mem) : Option (Nat × Nat × Nat) → Prop
  | none => M.1 255 16 = -1 ∧ M.1 255 17 = -1 ∧ M.1 255 18 = 0
  | some (w, r, t) => M.1 255 16 = nI w ∧ M.1 255 17 = nI r ∧ M.1 255 18 = (if t = 2 ^ w then 0 else 1)
def LOk (i : Nat) : Option (Nat × Nat × Nat) → Prop
  | none => True
  | some (w, r, t) => w < i ∧ (1 ≤ r ∧ r < 2000) ∧ t < 2 ^ i ∧ t.testBit w = true
theorem lok_ofr {a : Nat → Nat} {d s r : Nat} {l : Option (Nat × Nat × Nat)} (hr : r < 2000) (h : LOk s l) : LOk (s + 1) (ofr a d s r l) := by
  have p : 2 ^ s < 2 ^ (s + 1) := pw_lt (by omega)
  cases l with
  | none =>
    show LOk (s + 1) (if r = 0 then none else some (s, r, 2 ^ s))
    split
    · trivial
    · exact ⟨by omega, by omega, p, tw s⟩
  | some l =>
    obtain ⟨w, q, t⟩ := l
    obtain ⟨h1, h2, h3, h4⟩ := h
    have k1 : LOk (s + 1) (some (w, q, t)) := ⟨by omega, h2, by omega, h4⟩
    show LOk (s + 1) (if r = 0 then some (w, q, t) else if q < r then some (w, q, t) else if r = q then some (if gp a w d ≤ gp a s d then w else s, q, t ||| 2 ^ s) else some (s, r, 2 ^ s))
    split
    · exact k1
    · split
      · exact k1
      · split
        · refine ⟨by split <;> omega, h2, or_lt (by omega) p, ?_⟩
          rw [Nat.testBit_or]
          split
          · rw [h4]; rfl
          · rw [tw, Bool.or_true]
        · exact ⟨by omega, by omega, p, tw s⟩
theorem lok_up {i j : Nat} {l : Option (Nat × Nat × Nat)} (hij : i ≤ j) (h : LOk i l) : LOk j l := by
  cases l with
  | none => trivial
  | some l =>
    obtain ⟨w, q, t⟩ := l
    obtain ⟨h1, h2, h3, h4⟩ := h
    exact ⟨by omega, h2, Nat.lt_of_lt_of_le h3 (Nat.pow_le_pow_right (by omega) hij), h4⟩
def liL : List Nat := [67, 83, 86, 105, 124, 125]
theorem liL_sh : ∀ n ∈ liL, 0 < n ∧ SH[n - 1]? = some (.inl 3) := by decide +kernel
theorem li_shp {M : Mem} (hS : Sk M) {n : Nat} (hn : n ∈ liL) : shp M n = some (.inl 3) := sk_shp hS (liL_sh n hn).1 (liL_sh n hn).2
theorem li_num {n : Nat} (hn : n ∈ liL) : n = 67 ∨ n = 83 ∨ n = 86 ∨ n = 105 ∨ n = 124 ∨ n = 125 := by simpa [liL] using hn
def SL (n : Nat) : Nat → Nat → Prop := fun q k => q = n ∧ k < 3
theorem sl_co {M M' : Mem} {n o : Nat} {a : Nat → Nat} (hn : n ∈ liL) (hC : CO M o a) (hF : Fr (SL n) M M') : CO M' o a := co_fr hC hF (fun q k h => by
  have := hC.2.1; have := li_num hn; have := h.1; omega)
theorem nI_nm1 {w : Nat} (hw : w < 2 ^ 31) : ¬ nI w = -1 := fun h => nI_pos hw (by rw [h]; decide)
theorem c_J23 {M : Mem} (hS : Sk M) {n s r : Nat} (hn : n ∈ liL) (hs : s < 32) : ∃ M', f_X3_offer_J23 M n (nI s) (nI r) = some M' ∧ LC M' n (some (s, r, 2 ^ s)) ∧ Fr (SL n) M M' := by
  refine ⟨wI (wI (wI M n 0 (nI s)) n 1 (nI r)) n 2 (nI (2 ^ s)), ?_, ?_, fr_put (fr_put (fr_wI ⟨rfl, by omega⟩) ⟨rfl, by omega⟩) ⟨rfl, by omega⟩⟩
  · unfold f_X3_offer_J23
    rw [pI_at (li_shp hS hn), bb_some, pI_at (li_shp (M := wI M n 0 (nI s)) hS hn), bb_some, one_sl hs, pI_at (li_shp (M := wI (wI M n 0 (nI s)) n 1 (nI r)) hS hn), bb_some]
  · exact ⟨by simp [wI], by simp [wI], by simp [wI]⟩
theorem c_offer {M : Mem} {n o d s r : Nat} {a : Nat → Nat} {l : Option (Nat × Nat × Nat)} (hn : n ∈ liL) (hC : CO M o a) (hO : OkO a) (hd : d < a 0) (hs : s < a 0) (hr : r < 2000) (hl : LC M n l) (hk : LOk (a 0) l) : ∃ M', f_X3_offer M n o (nI s) (nI d) (nI r) = some M' ∧ LC M' n (ofr a d s r l) ∧ Fr (SL n) M M' := by
  have h8 := hO.1.1
  have p8 := pw8 h8
  have hS := hC.1
  have sh := li_shp hS hn
  by_cases h0 : r = 0
  · subst h0
    refine ⟨M, by simp [f_X3_offer, nI_0], ?_, fr_refl⟩
    cases l with
    | none => exact hl
    | some l => obtain ⟨w, q, t⟩ := l; exact hl
  have z0 : ¬ nI r = 0 := nI_ne0 (by omega) (by omega)
  cases l with
  | none =>
    obtain ⟨M', e, h1, h2⟩ := c_J23 hS (r := r) hn (show s < 32 by omega)
    refine ⟨M', ?_, ?_, h2⟩
    · unfold f_X3_offer
      rw [if_neg z0, gI_at sh, bb_some, hl.1, if_pos rfl, e]
    · show LC M' n (if r = 0 then none else some (s, r, 2 ^ s))
      rw [if_neg h0]; exact h1
  | some l =>
    obtain ⟨w, q, t⟩ := l
    obtain ⟨l1, l2, l3⟩ := hl
    obtain ⟨k1, k2, k3, k4⟩ := hk
    have g0 : gI M 3 n 0 = some (nI w) := by rw [gI_at sh, l1]
    have g1 : gI M 3 n 1 = some (nI q) := by rw [gI_at sh, l2]
    have g2 : gI M 3 n 2 = some (nI t) := by rw [gI_at sh, l3]
    have z1 : ¬ nI w = -1 := nI_nm1 (by omega)
    have le : nI q ≤ nI r ↔ q ≤ r := nI_leI (by omega) (by omega)
    have ee : nI r = nI q ↔ r = q := nI_eq (by omega) (by omega)
    show ∃ M', _ ∧ LC M' n (if r = 0 then some (w, q, t) else if q < r then some (w, q, t) else if r = q then some (if gp a w d ≤ gp a s d then w else s, q, t ||| 2 ^ s) else some (s, r, 2 ^ s)) ∧ _
    rw [if_neg h0]
    unfold f_X3_offer
    rw [if_neg z0, g0, bb_some, if_neg z1, g1, bb_some]
    by_cases hlt : r < q
    · rw [if_neg (fun h => by have := le.mp h; omega), if_neg (by omega), if_neg (by omega)]
      exact c_J23 hS (r := r) hn (show s < 32 by omega)
    · rw [if_pos (le.mpr (by omega)), bb_some]
      by_cases heq : r = q
      · rw [if_pos (ee.mpr heq), if_neg (by omega), if_pos heq, g2, bb_some, one_sl (show s < 32 by omega), or_at, pI_at sh, bb_some]
        let M9 := wI M n 2 (nI (t ||| 2 ^ s))
        have hF : Fr (SL n) M M9 := fr_wI ⟨rfl, by omega⟩
        have hC9 : CO M9 o a := sl_co hn hC hF
        have sh9 := li_shp hC9.1 hn
        have g09 : gI M9 3 n 0 = some (nI w) := by rw [gI_at sh9, wI_rd, if_neg (by omega), l1]
        show ∃ M', ((ob M9 5 o).bind fun _ => (f_X5_gap M9 o (nI s) (nI d)).bind fun v10 => (gI M9 3 n 0).bind fun v11 => (ob M9 5 o).bind fun _ => (f_X5_gap M9 o v11 (nI d)).bind fun v12 => if v12 ≤ v10 then some M9 else (pI M9 3 n 0 (nI s)).bind fun M14 => some M14) = some M' ∧ _
        rw [ob_at (co_shp hC9), bb_some, c_gap hC9 hO hd hs, bb_some, g09, bb_some, bb_some, c_gap hC9 hO hd k1, bb_some]
        have gg : nI (gp a w d) ≤ nI (gp a s d) ↔ gp a w d ≤ gp a s d := by
          have := gp_30 hO hd hs; have := gp_30 hO hd k1
          exact nI_leI (by omega) (by omega)
        by_cases hg : gp a w d ≤ gp a s d
        · rw [if_pos (gg.mpr hg), if_pos hg]
          exact ⟨M9, rfl, ⟨by rw [wI_rd, if_neg (by omega)]; exact l1, by rw [wI_rd, if_neg (by omega)]; exact l2, wI_same _ _ _ _⟩, hF⟩
        · rw [if_neg (fun h => hg (gg.mp h)), if_neg hg, pI_at sh9, bb_some]
          exact ⟨_, rfl, ⟨wI_same _ _ _ _, by rw [wI_rd, if_neg (by omega), wI_rd, if_neg (by omega)]; exact l2, by rw [wI_rd, if_neg (by omega)]; exact wI_same _ _ _ _⟩, fr_put hF ⟨rfl, by omega⟩⟩
      · rw [if_neg (fun h => heq (ee.mp h)), if_pos (by omega)]
        exact ⟨M, rfl, ⟨l1, l2, l3⟩, fr_refl⟩
/-- who lifts what rings on d when those of m are there -/
def lst (a kd h : Nat → Nat) (d m s : Nat) (l : Option (Nat × Nat × Nat)) : Option (Nat × Nat × Nat) := if m.testBit s = true ∧ hr a s d = true then ofr a d s (rg a kd h d m s) l else l
def lft (a kd h : Nat → Nat) (d m : Nat) : Option (Nat × Nat × Nat) := if m.testBit d = true then some (d, 1, 2 ^ d) else fo (lst a kd h d m) (a 0) none
theorem lok_st {a kd h : Nat → Nat} (hO : OkO a) {d m s : Nat} (hs : s < a 0) (hh : h s < 1000) {l : Option (Nat × Nat × Nat)} (hl : LOk s l) : LOk (s + 1) (lst a kd h d m s l) := by
  unfold lst
  split
  · exact lok_ofr (rg_lt hO hs hh) hl
  · exact lok_up (by omega) hl
theorem lok_fo {a kd h : Nat → Nat} (hO : OkO a) {d m : Nat} (hh : ∀ s, s < a 0 → h s < 1000) : ∀ i, i ≤ a 0 → LOk i (fo (lst a kd h d m) i none) := by
  intro i
  induction i with
  | zero => intro _; trivial
  | succ i ih => intro hi; exact lok_st hO (by omega) (hh i (by omega)) (ih (by omega))
theorem lok_lft {a kd h : Nat → Nat} (hO : OkO a) {d m : Nat} (hd : d < a 0) (hh : ∀ s, s < a 0 → h s < 1000) : LOk (a 0) (lft a kd h d m) := by
  unfold lft
  split
  · exact ⟨hd, by omega, pw_lt hd, tw d⟩
  · exact lok_fo hO hh _ (Nat.le_refl _)
theorem c_clear {M : Mem} (hS : Sk M) {n : Nat} (hn : n ∈ liL) : ∃ M', f_X3_clear M n = some M' ∧ LC M' n none ∧ Fr (SL n) M M' := by
  refine ⟨wI (wI (wI M n 0 (-1)) n 1 0) n 2 0, ?_, ⟨by simp [wI], by simp [wI], by simp [wI]⟩, fr_put (fr_put (fr_wI ⟨rfl, by omega⟩) ⟨rfl, by omega⟩) ⟨rfl, by omega⟩⟩
  unfold f_X3_clear
  rw [pI_at (li_shp hS hn), bb_some, pI_at (li_shp (M := wI M n 0 (-1)) hS hn), bb_some, pI_at (li_shp (M := wI (wI M n 0 (-1)) n 1 0) hS hn), bb_some]
theorem c_told {M : Mem} {n o d m q : Nat} {a h : Nat → Nat} (hn : n ∈ liL) (hC : CO M o a) (hO : OkO a) (hd : d < a 0) (hm : m < 2 ^ a 0) (hh : ∀ s, s < a 0 → h s < 1000) (hq : ∀ M', Fr (SL n) M M' → ∀ s, s < a 0 → aI M' 0 q (nI s) = some (nI (h s))) : ∃ M', f_X3_asTold M n o (nI d) (nI m) q = some M' ∧ LC M' n (lft a (kdO a) h d m) ∧ Fr (SL n) M M' := by
  have h8 := hO.1.1
  have p8 := pw8 h8
  have hS := hC.1
  obtain ⟨A, eA, lA, fA⟩ := c_clear hS hn
  have hCA := sl_co hn hC fA
  unfold f_X3_asTold lft
  rw [ob_at (li_shp hS hn), bb_some, eA, bb_some]
  by_cases hbd : m.testBit d = true
  · rw [if_neg (by rw [bit_0 (by omega) (by omega), hbd]; decide), if_pos hbd, ob_at (li_shp hCA.1 hn), bb_some]
    obtain ⟨B, eB, lB, fB⟩ := c_offer (r := 1) hn hCA hO hd hd (by omega) lA trivial
    have eB : f_X3_offer A n o (nI d) (nI d) 1 = some B := eB
    rw [eB, bb_some]
    exact ⟨B, rfl, lB, fr_trans fA fB⟩
  · rw [if_pos (by rw [bit_0 (by omega) (by omega)]; simpa using hbd), if_neg hbd, co_r13 hCA, bb_some, co_hear hCA hO hd, bb_some, and_at]
    have hlt : (hb a d &&& m) < 2 ^ 31 := by have := hb_256 hO d; have := Nat.and_le_left (n := hb a d) (m := m); omega
    obtain ⟨B, eB, lB, fB⟩ := iter_rel (f := fun s : Int32 × Mem => f_X3_asTold_B34 s.2 n o (nI d) q (nI (hb a d &&& m)) s.1) (a 0) (fun i s => s.1 = nI i ∧ LC s.2 n (fo (lst a (kdO a) h d m) i none) ∧ Fr (SL n) M s.2) (fun r => LC r n (fo (lst a (kdO a) h d m) (a 0) none) ∧ Fr (SL n) M r) (fun i s hi ⟨hs1, hs2, hs3⟩ => by
      obtain ⟨s1, s2⟩ := s
      have hs1 : s1 = nI i := hs1
      subst hs1
      have hs2 : LC s2 n (fo (lst a (kdO a) h d m) i none) := hs2
      have hs3 : Fr (SL n) M s2 := hs3
      have hC2 := sl_co hn hC hs3
      have lk := lok_up (show i ≤ a 0 by omega) (lok_fo (kd := kdO a) (d := d) (m := m) hO hh i (by omega))
      show (∃ s', f_X3_asTold_B34 s2 n o (nI d) q (nI (hb a d &&& m)) (nI i) = some (.inl s') ∧ s'.1 = nI (i + 1) ∧ LC s'.2 n (lst a (kdO a) h d m i (fo (lst a (kdO a) h d m) i none)) ∧ _) ∨ _
      unfold f_X3_asTold_B34 lst
      rw [co_g0 hC2, bb_some, if_neg (nI_ge hi (by omega))]
      by_cases hc : m.testBit i = true ∧ hr a i d = true
      · rw [if_neg (by rw [bit_0 hlt (by omega), and_bit, hb_bit, hc.1, hc.2]; simp [hi]), if_pos hc, hq s2 hs3 i hi, bb_some, c_ring hC2 hO hd hi hm hc.1 hc.2 (hh i hi), bb_some, ob_at (li_shp hC2.1 hn), bb_some]
        obtain ⟨D, eD, lD, fD⟩ := c_offer hn hC2 hO hd hi (rg_lt (kd := kdO a) (d := d) (m := m) hO hi (hh i hi)) hs2 lk
        rw [eD, bb_some]
        exact Or.inl ⟨_, rfl, nI_1 i, lD, fr_trans hs3 fD⟩
      · rw [if_pos (by rw [bit_0 hlt (by omega), and_bit, hb_bit]; simp only [hi, decide_true, Bool.true_and]; cases e1 : m.testBit i <;> cases e2 : hr a i d <;> simp_all), if_neg hc]
        exact Or.inl ⟨_, rfl, nI_1 i, hs2, hs3⟩) (fun s ⟨hs1, hs2, hs3⟩ => by
      obtain ⟨s1, s2⟩ := s
      have hs1 : s1 = nI (a 0) := hs1
      subst hs1
      have hs3 : Fr (SL n) M s2 := hs3
      exact ⟨s2, by simp [f_X3_asTold_B34, co_g0 (sl_co hn hC hs3)], hs2, hs3⟩) 1048576 0 (0, A) (by omega) ⟨rfl, lA, fA⟩ (by omega)
    have eB : f_X3_asTold_L34 A n o (nI d) q (nI (hb a d &&& m)) 0 = some B := eB
    rw [eB, bb_some]
    exact ⟨B, rfl, lB, fB⟩
