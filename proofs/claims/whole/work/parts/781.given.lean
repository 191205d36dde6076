/-! given -/
def mH (a : Nat → Nat) (s c : Nat) : Bool := decide (s = a (45 + 3 * c)) || hr a s (a (45 + 3 * c))
/-- what the calls from c = a 1 - k on are worth, x being busy -/
def gv (a : Nat → Nat) : Nat → Nat → Nat
  | 0, _ => 0
  | k + 1, x => fo (fun s v => if (!x.testBit s && mH a s (a 1 - (k + 1))) = true ∧ v < a (46 + 3 * (a 1 - (k + 1))) + gv a k (x ||| 2 ^ s) then a (46 + 3 * (a 1 - (k + 1))) + gv a k (x ||| 2 ^ s) else v) (a 0) (gv a k x)
def gL2 (a : Nat → Nat) (c x : Nat) : Nat := gv a (a 1 - c) x
def gst (a : Nat → Nat) (c x s v : Nat) : Nat := if (!x.testBit s && mH a s c) = true ∧ v < a (46 + 3 * c) + gL2 a (c + 1) (x ||| 2 ^ s) then a (46 + 3 * c) + gL2 a (c + 1) (x ||| 2 ^ s) else v
theorem gL_st {a : Nat → Nat} {c : Nat} (hc : c < a 1) (x : Nat) : gL2 a c x = fo (gst a c x) (a 0) (gL2 a (c + 1) x) := by
  obtain ⟨k, hk⟩ : ∃ k, a 1 - c = k + 1 := ⟨a 1 - c - 1, by omega⟩
  have e1 : a 1 - (k + 1) = c := by omega
  have e2 : a 1 - (c + 1) = k := by omega
  show gv a (a 1 - c) x = _
  unfold gst gL2
  rw [hk, e2]
  show fo (fun s v => if (!x.testBit s && mH a s (a 1 - (k + 1))) = true ∧ v < a (46 + 3 * (a 1 - (k + 1))) + gv a k (x ||| 2 ^ s) then a (46 + 3 * (a 1 - (k + 1))) + gv a k (x ||| 2 ^ s) else v) (a 0) (gv a k x) = _
  rw [e1]
theorem gL_0 {a : Nat → Nat} {c : Nat} (hc : a 1 ≤ c) (x : Nat) : gL2 a c x = 0 := by
  unfold gL2
  rw [show a 1 - c = 0 by omega]; rfl
theorem gL_bd {a : Nat → Nat} (hO : OkO a) : ∀ k c x, c + k = a 1 → gL2 a c x ≤ 99 * k := by
  intro k
  induction k with
  | zero => intro c x h; rw [gL_0 (by omega)]; exact Nat.zero_le _
  | succ k ih =>
    intro c x h
    rw [gL_st (by omega)]
    refine fo_inv (fun _ v => v ≤ 99 * (k + 1)) (by have := ih (c + 1) x (by omega); omega) (fun s v hs hv => ?_)
    have h1 := ih (c + 1) (x ||| 2 ^ s) (by omega)
    have h2 := (hO.2.2 c (by omega)).2.1
    unfold gst
    split <;> omega
theorem gL_990 {a : Nat → Nat} (hO : OkO a) (c x : Nat) : gL2 a c x ≤ 990 := by
  have h10 := hO.1.2.1
  by_cases h : c ≤ a 1
  · have := gL_bd hO (a 1 - c) c x (by omega); omega
  · rw [gL_0 (by omega)]; omega
theorem or256 {x s : Nat} (hx : x < 256) (hs : s < 8) : x ||| 2 ^ s < 256 := or_lt (n := 8) hx (pw_lt hs)
theorem p_r6 {M : Mem} (hS : Sk M) : gR M 6 107 6 = some 127 := by rw [gR_at (p_shp hS), hS.2 (107, 6, 127) (by decide)]
theorem p_s127 {M : Mem} (hS : Sk M) : shp M 127 = some (.inr (0, 2816)) := sk_shp hS (by omega) rfl
theorem x256 (c x : Nat) : nI c * 256 + nI x = nI (256 * c + x) := by
  show nI c * nI 256 + nI x = _
  rw [pk_mul, nI_add]; congr 1; omega
theorem y256 (c x : Nat) : (256 : Int32) * nI c + nI x = nI (256 * c + x) := by
  show nI 256 * nI c + nI x = _
  rw [pk_mul, nI_add]
theorem z256 (c x : Nat) : (256 : Int32) * nI c + 256 + nI x = nI (256 * (c + 1) + x) := by
  show nI 256 * nI c + nI 256 + nI x = _
  rw [pk_mul, nI_add, nI_add]; congr 1
/-- a row of what calls are worth -/
def GR (M : Mem) (q : Nat) (a : Nat → Nat) (N c : Nat) : Prop := ∀ x, x < N → M.1 q (256 * c + x) = nI (gL2 a c x)
def tkr (a : Nat → Nat) (c x : Nat) : Nat := dif (hb a (a (45 + 3 * c)) ||| 2 ^ a (45 + 3 * c)) x
theorem tkr_lt {a : Nat → Nat} (hO : OkO a) {c x : Nat} (hc : c < a 1) : tkr a c x < 256 := by
  have h8 := hO.1.1
  have := dif_le (hb a (a (45 + 3 * c)) ||| 2 ^ a (45 + 3 * c)) x
  have := or256 (hb_256 hO (a (45 + 3 * c))) (show a (45 + 3 * c) < 8 by have := (hO.2.2 c hc).1; omega)
  unfold tkr; omega
theorem tkr_bit {a : Nat → Nat} (hO : OkO a) {c x s : Nat} (hs : s < a 0) : (tkr a c x).testBit s = (!x.testBit s && mH a s c) := by
  have h8 := hO.1.1
  unfold tkr mH
  rw [dif_bit (by omega), Nat.testBit_or, hb_bit, Nat.testBit_two_pow]
  by_cases e : s = a (45 + 3 * c)
  · subst e; simp
  · simp [hs, e, Ne.symm e, Bool.and_comm]
theorem c_tkr {M : Mem} {o c x : Nat} {a : Nat → Nat} (hC : CO M o a) (hO : OkO a) (hc : c < a 1) : f_X6_takers M o (nI c) (nI x) = some (nI (tkr a c x)) := by
  have h8 := hO.1.1
  have hd := (hO.2.2 c hc).1
  rw [f_X6_takers, co_r10 hC, bb_some, co_cdesk hC hO hc, bb_some, co_r13 hC, bb_some, co_hear hC hO hd, bb_some, one_sl (by omega), or_at, dif_at]
  rfl
theorem c_gift {M : Mem} {o c x s : Nat} {a : Nat → Nat} (hC : CO M o a) (hO : OkO a) (hc : c < a 1) (hs : s < a 0) (hx : x < 2 ^ a 0) (hG : GR M 127 a (2 ^ a 0) (c + 1)) : f_X6_giftTo M 107 o (nI s) (nI c) (nI x) = some (nI (a (46 + 3 * c) + gL2 a (c + 1) (x ||| 2 ^ s))) := by
  have h8 := hO.1.1
  have h10 := hO.1.2.1
  have p8 := pw8 h8
  have hl : x ||| 2 ^ s < 2 ^ a 0 := or_lt hx (pw_lt hs)
  rw [f_X6_giftTo, co_r11 hC, bb_some, co_worth hC hO hc, bb_some, p_r6 hC.1, bb_some, one_sl (by omega), or_at, nI_1, x256, aI_at (p_s127 hC.1) (by omega) (by omega) (by omega), hG _ hl, bb_some, nI_add]
theorem c_bestG {M : Mem} {o c x : Nat} {a : Nat → Nat} (hC : CO M o a) (hO : OkO a) (hc : c < a 1) (hx : x < 2 ^ a 0) (hG : GR M 127 a (2 ^ a 0) (c + 1)) : f_X6_bestGift M 107 o (nI c) (nI x) = some (nI (gL2 a c x)) := by
  have h8 := hO.1.1
  have h10 := hO.1.2.1
  have p8 := pw8 h8
  have ht := tkr_lt hO (x := x) hc
  have e := (iter_for (f := fun s : Int32 × Int32 => f_X6_bestGift_B27 M 107 o (nI c) (nI x) (nI (tkr a c x)) s.1 s.2) (a 0) (gst a c x) (fun i v => (nI v, nI i)) nI (fun _ v => v ≤ 2000) (fun i v hi hv => by
    have b1 := gL_990 hO (c + 1) (x ||| 2 ^ i)
    have b2 := (hO.2.2 c hc).2.1
    refine ⟨?_, by unfold gst; split <;> omega⟩
    show f_X6_bestGift_B27 M 107 o (nI c) (nI x) (nI (tkr a c x)) (nI v) (nI i) = _
    unfold f_X6_bestGift_B27 gst imax
    rw [co_g0 hC, bb_some, if_neg (nI_ge hi (by omega)), ob_at (p_shp hC.1), bb_some, c_gift hC hO hc hi hx hG, bb_some, nI_1]
    have hb := bit_0 (m := tkr a c x) (s := i) (by omega) (by omega)
    rw [tkr_bit hO hi] at hb
    by_cases hm : (!x.testBit i && mH a i c) = true
    · rw [if_neg (fun h => by rw [hb.mp h] at hm; cases hm)]
      by_cases hl : v < a (46 + 3 * c) + gL2 a (c + 1) (x ||| 2 ^ i)
      · rw [if_pos (nI_lt hl (by omega)), if_pos ⟨hm, hl⟩]
      · rw [if_neg (nI_nlt (by omega) (by omega)), if_neg (fun h => hl h.2)]
    · rw [if_pos (hb.mpr (by simpa using hm)), if_neg (fun h => hm h.1)]) (fun v hv => by
    show f_X6_bestGift_B27 M 107 o (nI c) (nI x) (nI (tkr a c x)) (nI v) (nI (a 0)) = _
    simp [f_X6_bestGift_B27, co_g0 hC]) (gL2 a (c + 1) x) (by have := gL_990 hO (c + 1) x; omega) 1048576 (by omega)).1
  have e : f_X6_bestGift_L27 M 107 o (nI c) (nI x) (nI (tkr a c x)) (nI (gL2 a (c + 1) x)) 0 = some (nI (fo (gst a c x) (a 0) (gL2 a (c + 1) x))) := e
  rw [f_X6_bestGift, p_r6 hC.1, bb_some, nI_1, x256, aI_at (p_s127 hC.1) (by omega) (by omega) (by omega), hG x hx, bb_some, c_tkr hC hO hc, bb_some, e, bb_some, gL_st hc]
/-- who takes a call first -/
def okg (a : Nat → Nat) (c x s : Nat) : Bool := (!x.testBit s && mH a s c) && decide (a (46 + 3 * c) + gL2 a (c + 1) (x ||| 2 ^ s) = gL2 a c x)
def FT (a : Nat → Nat) (c x j b : Nat) : Prop := (b = 8 ∧ ∀ s, j ≤ s → s < a 0 → okg a c x s = false) ∨ (j ≤ b ∧ b < a 0 ∧ okg a c x b = true ∧ ∀ s, j ≤ s → s < b → okg a c x s = false)
theorem ft_un {a : Nat → Nat} {c x j b b' : Nat} (hO : OkO a) (h : FT a c x j b) (h' : FT a c x j b') : b = b' := by
  have h8 := hO.1.1
  rcases h with ⟨h1, h2⟩ | ⟨h1, h2, h3, h4⟩ <;> rcases h' with ⟨g1, g2⟩ | ⟨g1, g2, g3, g4⟩
  · rw [h1, g1]
  · rw [h2 b' g1 g2] at g3; cases g3
  · rw [g2 b h1 h2] at h3; cases h3
  · rcases Nat.lt_trichotomy b b' with h | h | h
    · rw [g4 b h1 h] at h3; cases h3
    · exact h
    · rw [h4 b' g1 h] at g3; cases g3
theorem c_first {M : Mem} {o c x : Nat} {a : Nat → Nat} (hC : CO M o a) (hO : OkO a) (hc : c < a 1) (hx : x < 2 ^ a 0) (hG : GR M 127 a (2 ^ a 0) (c + 1)) (hG0 : GR M 127 a (2 ^ a 0) c) : ∃ b, f_X6_firstTaker M 107 o (nI c) (nI x) = some (nI b) ∧ FT a c x 0 b := by
  have h8 := hO.1.1
  have h10 := hO.1.2.1
  have p8 := pw8 h8
  have ht := tkr_lt hO (x := x) hc
  obtain ⟨r, e, hr⟩ := iter_rel (f := fun s : Int32 => f_X6_firstTaker_B11 M 107 o (nI c) (nI x) (nI (tkr a c x)) s) (a 0) (fun i s => s = nI i ∧ ∀ q, q < i → okg a c x q = false) (fun r => ∃ b, FT a c x 0 b ∧ (match r with | .inl v => v = nI b | .inr _ => b = 8)) (fun i s hi ⟨hs1, hs2⟩ => by
    subst hs1
    have b0 := gL_990 hO c x
    have b1 := gL_990 hO (c + 1) (x ||| 2 ^ i)
    have b2 := (hO.2.2 c hc).2.1
    have hb := bit_0 (m := tkr a c x) (s := i) (by omega) (by omega)
    rw [tkr_bit hO hi] at hb
    have nx : okg a c x i = false → ∀ q, q < i + 1 → okg a c x q = false := fun h q hq => by
      by_cases e : q = i
      · rw [e]; exact h
      · exact hs2 q (by omega)
    unfold f_X6_firstTaker_B11
    rw [co_g0 hC, bb_some, if_neg (nI_ge hi (by omega)), ob_at (p_shp hC.1), bb_some, c_gift hC hO hc hi hx hG, bb_some, p_r6 hC.1, bb_some, x256, aI_at (p_s127 hC.1) (by omega) (by omega) (by omega), hG0 x hx, bb_some, nI_1]
    by_cases hm : (!x.testBit i && mH a i c) = true
    · rw [if_neg (fun h => by rw [hb.mp h] at hm; cases hm)]
      by_cases hl : a (46 + 3 * c) + gL2 a (c + 1) (x ||| 2 ^ i) = gL2 a c x
      · rw [if_pos (by rw [hl])]
        exact Or.inr ⟨_, rfl, i, Or.inr ⟨Nat.zero_le _, hi, by unfold okg; rw [hm, decide_eq_true hl]; rfl, fun q _ hq => hs2 q hq⟩, rfl⟩
      · rw [if_neg (nI_nq (by omega) (by omega) hl)]
        exact Or.inl ⟨_, rfl, rfl, nx (by unfold okg; rw [decide_eq_false hl, Bool.and_false])⟩
    · have hm' : (!x.testBit i && mH a i c) = false := by simpa using hm
      rw [if_pos (hb.mpr hm')]
      exact Or.inl ⟨_, rfl, rfl, nx (by unfold okg; rw [hm']; rfl)⟩) (fun s ⟨hs1, hs2⟩ => by
    subst hs1
    exact ⟨.inr (), by simp [f_X6_firstTaker_B11, co_g0 hC], 8, Or.inl ⟨rfl, fun q _ hq => hs2 q hq⟩, rfl⟩) 1048576 0 0 (by omega) ⟨rfl, fun q hq => absurd hq (by omega)⟩ (by omega)
  have e : f_X6_firstTaker_L11 M 107 o (nI c) (nI x) (nI (tkr a c x)) 0 = some r := e
  obtain ⟨b, hb, hr⟩ := hr
  refine ⟨b, ?_, hb⟩
  rw [f_X6_firstTaker, c_tkr hC hO hc, bb_some, e, bb_some]
  cases r with
  | inl v => have hr : v = nI b := hr; rw [hr]
  | inr v => have hr : b = 8 := hr; rw [hr]; rfl
def S7 : Nat → Nat → Prop := fun q k => q = 127 ∨ q = 108 ∨ (q = 107 ∧ k = 0)
theorem s7_q {M M' : Mem} (h : Fr S7 M M') : Qf M M' := fr_q h (fun q k hh => by unfold S7 at hh; unfold zT; omega)
theorem s7_co {M M' : Mem} {o : Nat} {a : Nat → Nat} (hC : CO M o a) (hF : Fr S7 M M') : CO M' o a := co_fr hC hF (fun q k h => by have := hC.2.1; unfold S7 at h; omega)
/-- who is busy before call c -/
def sr (r : Nat → Nat) : Nat → Nat
  | 0 => 0
  | c + 1 => if r c = 8 then sr r c else sr r c ||| 2 ^ r c
theorem sr_cg {r r' : Nat → Nat} : ∀ c, (∀ i, i < c → r' i = r i) → sr r' c = sr r c := by
  intro c
  induction c with
  | zero => intro _; rfl
  | succ c ih =>
    intro h
    show (if r' c = 8 then sr r' c else sr r' c ||| 2 ^ r' c) = (if r c = 8 then sr r c else sr r c ||| 2 ^ r c)
    rw [h c (by omega), ih (fun i hi => h i (by omega))]
theorem sr_lt {a r : Nat → Nat} : ∀ c, (∀ i, i < c → r i = 8 ∨ r i < a 0) → sr r c < 2 ^ a 0 := by
  intro c
  induction c with
  | zero => intro _; exact Nat.two_pow_pos _
  | succ c ih =>
    intro h
    have := ih (fun i hi => h i (by omega))
    show (if r c = 8 then sr r c else sr r c ||| 2 ^ r c) < _
    split
    · exact this
    · exact or_lt this (pw_lt (by have := h c (by omega); omega))
theorem ft_lt {a : Nat → Nat} {c x j b : Nat} (h : FT a c x j b) : b = 8 ∨ b < a 0 := by
  rcases h with ⟨h, _⟩ | ⟨_, h, _⟩
  · exact Or.inl h
  · exact Or.inr h
def GCh (a r : Nat → Nat) (m : Nat) : Prop := ∀ c, c < m → FT a c (sr r c) 0 (r c)
theorem c_giveR {M : Mem} {o c : Nat} {a : Nat → Nat} (hC : CO M o a) (hO : OkO a) (hc : c < a 1) (hG : ∀ e, c + 1 ≤ e → e ≤ a 1 → GR M 127 a (2 ^ a 0) e) : ∃ M', f_X6_giveCalls_L44 M 107 o (nI c) 0 = some M' ∧ (∀ e, c ≤ e → e ≤ a 1 → GR M' 127 a (2 ^ a 0) e) ∧ Fr S7 M M' := by
  have h8 := hO.1.1
  have h10 := hO.1.2.1
  have p8 := pw8 h8
  have pp := Nat.two_pow_pos (a 0)
  obtain ⟨B, eB, h1, h2⟩ := iter_rel (f := fun s : Int32 × Mem => f_X6_giveCalls_B44 s.2 107 o (nI c) s.1) (2 ^ a 0) (fun i s => s.1 = nI i ∧ ((∀ e, c + 1 ≤ e → e ≤ a 1 → GR s.2 127 a (2 ^ a 0) e) ∧ ∀ x, x < i → s.2.1 127 (256 * c + x) = nI (gL2 a c x)) ∧ Fr S7 M s.2) (fun r => (∀ e, c ≤ e → e ≤ a 1 → GR r 127 a (2 ^ a 0) e) ∧ Fr S7 M r) (fun i s hi ⟨hs1, ⟨hs2, hs3⟩, hs4⟩ => by
    obtain ⟨s1, s2⟩ := s
    have hs1 : s1 = nI i := hs1
    subst hs1
    have hs2 : ∀ e, c + 1 ≤ e → e ≤ a 1 → GR s2 127 a (2 ^ a 0) e := hs2
    have hs3 : ∀ x, x < i → s2.1 127 (256 * c + x) = nI (gL2 a c x) := hs3
    have hs4 : Fr S7 M s2 := hs4
    have hC2 := s7_co hC hs4
    refine Or.inl ⟨(nI (i + 1), wI s2 127 (256 * c + i) (nI (gL2 a c i))), ?_, rfl, ⟨fun e h1 h2 x hx => ?_, fun x hx => ?_⟩, fr_put hs4 (Or.inl rfl)⟩
    · show f_X6_giveCalls_B44 s2 107 o (nI c) (nI i) = _
      unfold f_X6_giveCalls_B44
      rw [ob_at (co_shp hC2), bb_some, c_every hC2 hO, bb_some, if_neg (nI_nlt (by omega) (by omega)), p_r6 hC2.1, bb_some, ob_at (p_shp hC2.1), bb_some, c_bestG hC2 hO hc hi (hs2 (c + 1) (by omega) (by omega)), bb_some, x256, sI_at (p_s127 hC2.1) (by omega) (by omega), nar0, bb_some, nI_1]
    · show (wI s2 127 (256 * c + i) _).1 127 (256 * e + x) = _
      rw [wI_rd, if_neg (by omega)]; exact hs2 e h1 h2 x hx
    · show (wI s2 127 (256 * c + i) _).1 127 (256 * c + x) = _
      rw [wI_rd]
      by_cases e : x = i
      · subst e; rw [if_pos ⟨rfl, rfl⟩]
      · rw [if_neg (by omega)]; exact hs3 x (by omega)) (fun s ⟨hs1, ⟨hs2, hs3⟩, hs4⟩ => by
    obtain ⟨s1, s2⟩ := s
    have hs1 : s1 = nI (2 ^ a 0) := hs1
    subst hs1
    have hs4 : Fr S7 M s2 := hs4
    have hC2 := s7_co hC hs4
    refine ⟨s2, ?_, fun e h1 h2 => ?_, hs4⟩
    · show f_X6_giveCalls_B44 s2 107 o (nI c) (nI (2 ^ a 0)) = _
      unfold f_X6_giveCalls_B44
      rw [ob_at (co_shp hC2), bb_some, c_every hC2 hO, bb_some, if_pos (nI_lt (by omega) (by omega))]
    · by_cases he : e = c
      · subst he; exact hs3
      · exact hs2 e (by omega) h2) 1048576 0 (0, M) (by omega) ⟨rfl, ⟨hG, fun x hx => absurd hx (by omega)⟩, fr_refl⟩ (by omega)
  exact ⟨B, eB, h1, h2⟩
theorem c_give {M : Mem} {o : Nat} {a : Nat → Nat} (hC : CO M o a) (hO : OkO a) : ∃ r M', f_X6_giveCalls M 107 o = some M' ∧ (GCh a r (a 1) ∧ (∀ c, c < a 1 → M'.1 108 c = nI (r c)) ∧ M'.1 107 0 = nI (gL2 a 0 0)) ∧ Fr S7 M M' := by
  have h8 := hO.1.1
  have h10 := hO.1.2.1
  have p8 := pw8 h8
  have pp := Nat.two_pow_pos (a 0)
  obtain ⟨A, eA, hA, fA⟩ := iter_rel (f := fun s : Int32 × Mem => f_X6_giveCalls_B2 s.2 107 o s.1) 256 (fun i s => s.1 = nI i ∧ (∀ x, x < i → s.2.1 127 (256 * a 1 + x) = nI 0) ∧ Fr S7 M s.2) (fun r => GR r 127 a (2 ^ a 0) (a 1) ∧ Fr S7 M r) (fun i s hi ⟨hs1, hs3, hs4⟩ => by
    obtain ⟨s1, s2⟩ := s
    have hs1 : s1 = nI i := hs1
    subst hs1
    have hs3 : ∀ x, x < i → s2.1 127 (256 * a 1 + x) = nI 0 := hs3
    have hs4 : Fr S7 M s2 := hs4
    have hC2 := s7_co hC hs4
    refine Or.inl ⟨(nI (i + 1), wI s2 127 (256 * a 1 + i) (nI 0)), ?_, rfl, fun x hx => ?_, fr_put hs4 (Or.inl rfl)⟩
    · show f_X6_giveCalls_B2 s2 107 o (nI i) = _
      unfold f_X6_giveCalls_B2
      rw [if_neg (show ¬ 256 ≤ nI i from nI_ge (b := 256) hi (by omega)), p_r6 hC2.1, bb_some, co_g1 hC2, bb_some, x256, sI_at (p_s127 hC2.1) (by omega) (by omega), nar0, bb_some, nI_1, nI_0]
    · show (wI s2 127 (256 * a 1 + i) _).1 127 (256 * a 1 + x) = _
      rw [wI_rd]
      by_cases e : x = i
      · subst e; rw [if_pos ⟨rfl, rfl⟩]
      · rw [if_neg (by omega)]; exact hs3 x (by omega)) (fun s ⟨hs1, hs3, hs4⟩ => by
    obtain ⟨s1, s2⟩ := s
    have hs1 : s1 = nI 256 := hs1
    subst hs1
    have hs3 : ∀ x, x < 256 → s2.1 127 (256 * a 1 + x) = nI 0 := hs3
    exact ⟨s2, by show f_X6_giveCalls_B2 s2 107 o (nI 256) = _; rw [f_X6_giveCalls_B2, if_pos (by decide)], fun x hx => by rw [gL_0 (Nat.le_refl _)]; exact hs3 x (by omega), hs4⟩) 1048576 0 (0, M) (by omega) ⟨rfl, fun x hx => absurd hx (by omega), fr_refl⟩ (by omega)
  have eA : f_X6_giveCalls_L2 M 107 o 0 = some A := eA
  obtain ⟨B, eB, hB, fB⟩ := iter_rel (f := fun s : Int32 × Mem => f_X6_giveCalls_B38 s.2 107 o s.1) (a 1) (fun i s => s.1 = nI (a 1 - i) - 1 ∧ (∀ e, a 1 - i ≤ e → e ≤ a 1 → GR s.2 127 a (2 ^ a 0) e) ∧ Fr S7 M s.2) (fun r => (∀ e, e ≤ a 1 → GR r 127 a (2 ^ a 0) e) ∧ Fr S7 M r) (fun i s hi ⟨hs1, hs3, hs4⟩ => by
    obtain ⟨s1, s2⟩ := s
    have e1 : nI (a 1 - i) - 1 = nI (a 1 - i - 1) := pk_sub (b := 1) (by omega)
    have hs1 : s1 = nI (a 1 - i) - 1 := hs1
    rw [e1] at hs1
    subst hs1
    have hs3 : ∀ e, a 1 - i ≤ e → e ≤ a 1 → GR s2 127 a (2 ^ a 0) e := hs3
    have hs4 : Fr S7 M s2 := hs4
    obtain ⟨D, eD, hD, fD⟩ := c_giveR (s7_co hC hs4) hO (show a 1 - i - 1 < a 1 by omega) (fun e h1 h2 => hs3 e (by omega) h2)
    refine Or.inl ⟨(nI (a 1 - (i + 1)) - 1, D), ?_, rfl, fun e h1 h2 => hD e (by omega) h2, fr_trans hs4 fD⟩
    show f_X6_giveCalls_B38 s2 107 o (nI (a 1 - i - 1)) = _
    unfold f_X6_giveCalls_B38
    rw [if_neg (nI_pos (by omega)), eD, bb_some, show a 1 - (i + 1) = a 1 - i - 1 by omega, dn1]) (fun s ⟨hs1, hs3, hs4⟩ => by
    obtain ⟨s1, s2⟩ := s
    have hs1 : s1 = nI (a 1 - a 1) - 1 := hs1
    rw [Nat.sub_self] at hs1
    subst hs1
    exact ⟨s2, by show f_X6_giveCalls_B38 s2 107 o (nI 0 - 1) = _; rw [f_X6_giveCalls_B38, if_pos (by decide)], fun e h2 => hs3 e (by omega) h2, hs4⟩) 1048576 0 (nI (a 1) - 1, A) (by omega) ⟨rfl, fun e h1 h2 => by rw [show e = a 1 by omega]; exact hA, fA⟩ (by omega)
  have eB : f_X6_giveCalls_L38 A 107 o (nI (a 1) - 1) = some B := eB
  have hCA := s7_co hC fA
  have hSB := fr_sk fB hC.1
  let B1 := wI B 107 0 (nI (gL2 a 0 0))
  have fB1 : Fr S7 M B1 := fr_put fB (Or.inr (Or.inr ⟨rfl, rfl⟩))
  have hB1 : ∀ e, e ≤ a 1 → GR B1 127 a (2 ^ a 0) e := fun e he x hx => by
    show (wI B 107 0 _).1 127 (256 * e + x) = _
    rw [wI_rd, if_neg (by omega)]; exact hB e he x hx
  have eB1 : aI B 0 127 0 = some (nI (gL2 a 0 0)) := by
    have h1 : aI B 0 127 0 = some (B.1 127 0) := aI_at (p_s127 hSB) (i := 0) (by omega) (by omega) (by omega)
    have h2 : B.1 127 0 = nI (gL2 a 0 0) := hB 0 (Nat.zero_le _) 0 pp
    rw [h1, h2]
  obtain ⟨D, eD, ⟨r, hD1, hD2⟩, hD4, fD⟩ := iter_rel (f := fun s : Int32 × Int32 × Mem => f_X6_giveCalls_B97 s.2.2 107 o s.1 s.2.1) (a 1) (fun i s => (∃ r, GCh a r i ∧ (∀ d, d < i → s.2.2.1 108 d = nI (r d)) ∧ s.1 = nI (sr r i)) ∧ s.2.1 = nI i ∧ ((∀ e, e ≤ a 1 → GR s.2.2 127 a (2 ^ a 0) e) ∧ s.2.2.1 107 0 = nI (gL2 a 0 0)) ∧ Fr S7 M s.2.2) (fun q => (∃ r, GCh a r (a 1) ∧ (∀ d, d < a 1 → q.1 108 d = nI (r d))) ∧ q.1 107 0 = nI (gL2 a 0 0) ∧ Fr S7 M q) (fun i s hi ⟨⟨r, hr1, hr2, hr3⟩, hs2, ⟨hs3, hs5⟩, hs4⟩ => by
    obtain ⟨s1, s2, s3⟩ := s
    have hs2 : s2 = nI i := hs2
    have hr3 : s1 = nI (sr r i) := hr3
    subst hs2 hr3
    have hs3 : ∀ e, e ≤ a 1 → GR s3 127 a (2 ^ a 0) e := hs3
    have hs5 : s3.1 107 0 = nI (gL2 a 0 0) := hs5
    have hs4 : Fr S7 M s3 := hs4
    have hr2 : ∀ d, d < i → s3.1 108 d = nI (r d) := hr2
    have hC2 := s7_co hC hs4
    have hsl : sr r i < 2 ^ a 0 := sr_lt i (fun j hj => ft_lt (hr1 j hj))
    obtain ⟨b, e1, e2⟩ := c_first hC2 hO hi hsl (hs3 (i + 1) (by omega)) (hs3 i (by omega))
    have hb := ft_lt e2
    have up' : ∀ d, d < i → up r i b d = r d := fun d hd => up_n _ _ (by omega)
    have sru : ∀ d, d ≤ i → sr (up r i b) d = sr r d := fun d hd => sr_cg d (fun j hj => up' j (by omega))
    have srn : sr (up r i b) (i + 1) = if b = 8 then sr r i else sr r i ||| 2 ^ b := by
      show (if up r i b i = 8 then sr (up r i b) i else sr (up r i b) i ||| 2 ^ up r i b i) = _
      rw [up_s, sru i (Nat.le_refl _)]
    have hS3 : Sk (wI s3 108 i (nI b)) := hC2.1
    have rb : aI (wI s3 108 i (nI b)) 0 108 (nI i) = some (nI b) := by rw [aI_at (p_s108 hS3) (by omega) (by omega) (by omega), wI_same]
    refine Or.inl ⟨(nI (sr (up r i b) (i + 1)), nI (i + 1), wI s3 108 i (nI b)), ?_, ⟨up r i b, fun d hd => ?_, fun d hd => ?_, rfl⟩, rfl, ⟨fun e h1 x hx => ?_, ?_⟩, fr_put hs4 (Or.inr (Or.inl rfl))⟩
    · show f_X6_giveCalls_B97 s3 107 o (nI (sr r i)) (nI i) = _
      unfold f_X6_giveCalls_B97
      rw [co_g1 hC2, bb_some, if_neg (nI_ge hi (by omega)), p_r2 hC2.1, bb_some, ob_at (p_shp hC2.1), bb_some, e1, bb_some, sI_at (p_s108 hC2.1) (by omega) (by omega), nar0, bb_some, p_r2 hS3, bb_some, rb, bb_some, bb_some, rb, bb_some, nI_1, srn]
      by_cases h : b = 8
      · rw [if_pos (show nI b = 8 by rw [h]; rfl), if_pos h]
      · rw [if_neg (show ¬ nI b = 8 from nI_nq (k := 8) (by omega) (by omega) h), if_neg h, one_sl (by omega), or_at]
    · by_cases e : d = i
      · subst e; rw [sru d (Nat.le_refl _), up_s]; exact e2
      · rw [sru d (by omega), up' d (by omega)]; exact hr1 d (by omega)
    · show (wI s3 108 i _).1 108 d = _
      rw [wI_rd]
      by_cases e : d = i
      · subst e; rw [if_pos ⟨rfl, rfl⟩, up_s]
      · rw [if_neg (by omega), up' d (by omega)]; exact hr2 d (by omega)
    · show (wI s3 108 i _).1 127 (256 * e + x) = _
      rw [wI_rd, if_neg (by omega)]; exact hs3 e h1 x hx
    · show (wI s3 108 i _).1 107 0 = _
      rw [wI_rd, if_neg (by omega)]; exact hs5) (fun s ⟨⟨r, hr1, hr2, hr3⟩, hs2, ⟨hs3, hs5⟩, hs4⟩ => by
    obtain ⟨s1, s2, s3⟩ := s
    have hs2 : s2 = nI (a 1) := hs2
    subst hs2
    have hs4 : Fr S7 M s3 := hs4
    exact ⟨s3, by simp [f_X6_giveCalls_B97, co_g1 (s7_co hC hs4)], ⟨r, hr1, hr2⟩, hs5, hs4⟩) 1048576 0 (0, 0, B1) (by omega) ⟨⟨fun _ => 0, fun d hd => absurd hd (by omega), fun d hd => absurd hd (by omega), rfl⟩, rfl, ⟨hB1, wI_same _ _ _ _⟩, fB1⟩ (by omega)
  have eD : f_X6_giveCalls_L97 B1 107 o 0 0 = some D := eD
  refine ⟨r, D, ?_, ⟨hD1, hD2, hD4⟩, fD⟩
  unfold f_X6_giveCalls
  rw [eA, bb_some, co_g1 hCA, bb_some, eB, bb_some, p_r6 hSB, bb_some, eB1, bb_some, pI_at (p_shp hSB), bb_some]
  show ((f_X6_giveCalls_L97 B1 107 o 0 0).bind fun r7 => some r7) = _
  rw [eD, bb_some]
theorem mo_have {M : Mem} {a : Nat → Nat} (hM : MO M a) (hO : OkO a) {s c : Nat} (hs : s < a 0) (hc : c < a 1) : f_X12_mayHave M 255 (nI s) (nI c) = some (bI (mH a s c)) := by
  have h8 := hO.1.1
  have h10 := hO.1.2.1
  have hd := (hO.2.2 c hc).1
  unfold f_X12_mayHave mH
  rw [mo_ob hM, bb_some, mo_oc0 hM (by omega), bb_some]
  by_cases e : s = a (45 + 3 * c)
  · rw [if_pos (by rw [e]), decide_eq_true e]; rfl
  · rw [if_neg (nI_nq (by omega) (by omega) e), bb_some, bb_some, bb_some, mo_hears hM hO hs hd, bb_some, decide_eq_false e]
    by_cases h : hr a s (a (45 + 3 * c)) = true
    · rw [if_pos h, if_neg (by decide), h]; rfl
    · rw [if_neg h, if_pos rfl, show hr a s (a (45 + 3 * c)) = false by simpa using h]; rfl
def S6 : Nat → Nat → Prop := fun q _ => q = 268
theorem s6_q {M M' : Mem} (h : Fr S6 M M') : Qf M M' := fr_q h (fun q k hh => by unfold S6 at hh; unfold zT; omega)
theorem s6_mo {M M' : Mem} {a : Nat → Nat} (hM : MO M a) (hF : Fr S6 M M') : MO M' a := mo_fr hM hF (fun q k h => by unfold S6 at h; omega)
theorem mo_r268 {M : Mem} {a : Nat → Nat} (hS : Sk M) {c x : Nat} (hc : c ≤ 10) (hx : x < 256) (h : GR M 268 a 256 c) : aI M 0 268 (nI (256 * c + x)) = some (nI (gL2 a c x)) := by
  rw [aI_at (m_s268 hS) (by omega) (by omega) (by omega), h x hx]
theorem mo_gvL {M : Mem} {a : Nat → Nat} (hM : MO M a) (hO : OkO a) {c x : Nat} (hc : c < a 1) (hx : x < 256) (hG : GR M 268 a 256 (c + 1)) : f_X12_gives_L71 M 255 (nI c) (nI x) (nI (gL2 a (c + 1) x)) 0 = some (nI (gL2 a c x)) := by
  have h8 := hO.1.1
  have h10 := hO.1.2.1
  rw [gL_st hc]
  exact (iter_for (f := fun s : Int32 × Int32 => f_X12_gives_B71 M 255 (nI c) (nI x) s.1 s.2) (a 0) (gst a c x) (fun i v => (nI v, nI i)) nI (fun _ v => v ≤ 2000) (fun i v hi hv => by
    have b1 := gL_990 hO (c + 1) (x ||| 2 ^ i)
    have b2 := (hO.2.2 c hc).2.1
    refine ⟨?_, by unfold gst; split <;> omega⟩
    show f_X12_gives_B71 M 255 (nI c) (nI x) (nI v) (nI i) = _
    unfold f_X12_gives_B71 gst
    rw [mo_g12 hM, bb_some, if_neg (nI_ge hi (by omega)), m_holds M (by omega) (by omega), bb_some, nI_1, mo_ob hM, bb_some, mo_have hM hO hi hc, bb_some, bb_some, mo_oc1 hM (by omega), bb_some, m_r41 hM.1, bb_some, one_sl (by omega), or_at, z256, mo_r268 hM.1 (by omega) (or256 hx (by omega)) hG, bb_some, nI_add]
    by_cases hb : x.testBit i = true
    · rw [if_pos hb, if_neg (by decide), if_neg (fun h => by have := h.1; rw [hb] at this; cases this)]
    · have hb' : x.testBit i = false := by simpa using hb
      rw [if_neg hb, if_pos rfl]
      by_cases hm : mH a i c = true
      · rw [hm, if_neg (by decide)]
        by_cases hl : v < a (46 + 3 * c) + gL2 a (c + 1) (x ||| 2 ^ i)
        · rw [if_neg (nI_ge hl (by omega)), if_pos ⟨by rw [hb']; rfl, hl⟩]
        · rw [if_pos (nI_le (by omega) (by omega)), if_neg (fun h => hl h.2)]
      · have hm' : mH a i c = false := by simpa using hm
        rw [hm', if_pos (by rfl), if_neg (fun h => by have := h.1; rw [Bool.and_false] at this; cases this)]) (fun v hv => by
    show f_X12_gives_B71 M 255 (nI c) (nI x) (nI v) (nI (a 0)) = _
    simp [f_X12_gives_B71, mo_g12 hM]) (gL2 a (c + 1) x) (by have := gL_990 hO (c + 1) x; omega) 1048576 (by omega)).1
theorem mo_gives {M : Mem} {a : Nat → Nat} (hM : MO M a) (hO : OkO a) : ∃ M', f_X12_gives M 255 = some M' ∧ (∀ e, e ≤ a 1 → GR M' 268 a 256 e) ∧ Fr S6 M M' := by
  have h10 := hO.1.2.1
  obtain ⟨A, eA, hA, fA⟩ := iter_rel (f := fun s : Int32 × Mem => f_X12_gives_B2 s.2 255 s.1) 256 (fun i s => s.1 = nI i ∧ (∀ x, x < i → s.2.1 268 (256 * a 1 + x) = nI 0) ∧ Fr S6 M s.2) (fun r => GR r 268 a 256 (a 1) ∧ Fr S6 M r) (fun i s hi ⟨hs1, hs3, hs4⟩ => by
    obtain ⟨s1, s2⟩ := s
    have hs1 : s1 = nI i := hs1
    subst hs1
    have hs3 : ∀ x, x < i → s2.1 268 (256 * a 1 + x) = nI 0 := hs3
    have hs4 : Fr S6 M s2 := hs4
    have hM2 := s6_mo hM hs4
    refine Or.inl ⟨(nI (i + 1), wI s2 268 (256 * a 1 + i) (nI 0)), ?_, rfl, fun x hx => ?_, fr_put hs4 rfl⟩
    · show f_X12_gives_B2 s2 255 (nI i) = _
      unfold f_X12_gives_B2
      rw [if_neg (show ¬ 256 ≤ nI i from nI_ge (b := 256) hi (by omega)), m_r41 hM2.1, bb_some, mo_g13 hM2, bb_some, y256, sI_at (m_s268 hM2.1) (by omega) (by omega), nar0, bb_some, nI_1, nI_0]
    · show (wI s2 268 (256 * a 1 + i) _).1 268 (256 * a 1 + x) = _
      rw [wI_rd]
      by_cases e : x = i
      · subst e; rw [if_pos ⟨rfl, rfl⟩]
      · rw [if_neg (by omega)]; exact hs3 x (by omega)) (fun s ⟨hs1, hs3, hs4⟩ => by
    obtain ⟨s1, s2⟩ := s
    have hs1 : s1 = nI 256 := hs1
    subst hs1
    have hs3 : ∀ x, x < 256 → s2.1 268 (256 * a 1 + x) = nI 0 := hs3
    exact ⟨s2, by show f_X12_gives_B2 s2 255 (nI 256) = _; rw [f_X12_gives_B2, if_pos (by decide)], fun x hx => by rw [gL_0 (Nat.le_refl _)]; exact hs3 x hx, hs4⟩) 1048576 0 (0, M) (by omega) ⟨rfl, fun x hx => absurd hx (by omega), fr_refl⟩ (by omega)
  have eA : f_X12_gives_L2 M 255 0 = some A := eA
  obtain ⟨B, eB, hB, fB⟩ := iter_rel (f := fun s : Int32 × Mem => f_X12_gives_B38 s.2 255 s.1) (a 1) (fun i s => s.1 = nI (a 1 - i) - 1 ∧ (∀ e, a 1 - i ≤ e → e ≤ a 1 → GR s.2 268 a 256 e) ∧ Fr S6 M s.2) (fun r => (∀ e, e ≤ a 1 → GR r 268 a 256 e) ∧ Fr S6 M r) (fun i s hi ⟨hs1, hs3, hs4⟩ => by
    obtain ⟨s1, s2⟩ := s
    have e1 : nI (a 1 - i) - 1 = nI (a 1 - i - 1) := pk_sub (b := 1) (by omega)
    have hs1 : s1 = nI (a 1 - i) - 1 := hs1
    rw [e1] at hs1
    subst hs1
    have hs3 : ∀ e, a 1 - i ≤ e → e ≤ a 1 → GR s2 268 a 256 e := hs3
    have hs4 : Fr S6 M s2 := hs4
    generalize hc : a 1 - i - 1 = c
    have hc1 : a 1 - i = c + 1 := by omega
    have hca : c < a 1 := by omega
    rw [hc1] at hs3
    obtain ⟨D, eD, hD, fD⟩ := iter_rel (f := fun s : Int32 × Mem => f_X12_gives_B44 s.2 255 (nI c) s.1) 256 (fun j t => t.1 = nI j ∧ ((∀ e, c + 1 ≤ e → e ≤ a 1 → GR t.2 268 a 256 e) ∧ ∀ x, x < j → t.2.1 268 (256 * c + x) = nI (gL2 a c x)) ∧ Fr S6 M t.2) (fun r => (∀ e, c ≤ e → e ≤ a 1 → GR r 268 a 256 e) ∧ Fr S6 M r) (fun j t hj ⟨ht1, ⟨ht2, ht3⟩, ht4⟩ => by
      obtain ⟨t1, t2⟩ := t
      have ht1 : t1 = nI j := ht1
      subst ht1
      have ht2 : ∀ e, c + 1 ≤ e → e ≤ a 1 → GR t2 268 a 256 e := ht2
      have ht3 : ∀ x, x < j → t2.1 268 (256 * c + x) = nI (gL2 a c x) := ht3
      have ht4 : Fr S6 M t2 := ht4
      have hM2 := s6_mo hM ht4
      refine Or.inl ⟨(nI (j + 1), wI t2 268 (256 * c + j) (nI (gL2 a c j))), ?_, rfl, ⟨fun e h1 h2 x hx => ?_, fun x hx => ?_⟩, fr_put ht4 rfl⟩
      · show f_X12_gives_B44 t2 255 (nI c) (nI j) = _
        unfold f_X12_gives_B44
        rw [if_neg (show ¬ 256 ≤ nI j from nI_ge (b := 256) hj (by omega)), m_r41 hM2.1, bb_some, z256, mo_r268 hM2.1 (by omega) hj (ht2 (c + 1) (by omega) (by omega)), bb_some, mo_gvL hM2 hO hca hj (ht2 (c + 1) (by omega) (by omega)), bb_some, bb_some, y256, sI_at (m_s268 hM2.1) (by omega) (by omega), nar0, bb_some, nI_1]
      · show (wI t2 268 (256 * c + j) _).1 268 (256 * e + x) = _
        rw [wI_rd, if_neg (by omega)]; exact ht2 e h1 h2 x hx
      · show (wI t2 268 (256 * c + j) _).1 268 (256 * c + x) = _
        rw [wI_rd]
        by_cases e : x = j
        · subst e; rw [if_pos ⟨rfl, rfl⟩]
        · rw [if_neg (by omega)]; exact ht3 x (by omega)) (fun t ⟨ht1, ⟨ht2, ht3⟩, ht4⟩ => by
      obtain ⟨t1, t2⟩ := t
      have ht1 : t1 = nI 256 := ht1
      subst ht1
      refine ⟨t2, by show f_X12_gives_B44 t2 255 (nI c) (nI 256) = _; rw [f_X12_gives_B44, if_pos (by decide)], fun e h1 h2 => ?_, ht4⟩
      by_cases he : e = c
      · subst he; exact ht3
      · exact ht2 e (by omega) h2) 1048576 0 (0, s2) (by omega) ⟨rfl, ⟨hs3, fun x hx => absurd hx (by omega)⟩, hs4⟩ (by omega)
    have eD : f_X12_gives_L44 s2 255 (nI c) 0 = some D := eD
    refine Or.inl ⟨(nI c - 1, D), ?_, rfl, fun e h1 h2 => hD e (by omega) h2, fD⟩
    show f_X12_gives_B38 s2 255 (nI c) = _
    unfold f_X12_gives_B38
    rw [if_neg (nI_pos (by omega)), eD, bb_some, dn1]) (fun s ⟨hs1, hs3, hs4⟩ => by
    obtain ⟨s1, s2⟩ := s
    have hs1 : s1 = nI (a 1 - a 1) - 1 := hs1
    rw [Nat.sub_self] at hs1
    subst hs1
    exact ⟨s2, by show f_X12_gives_B38 s2 255 (nI 0 - 1) = _; rw [f_X12_gives_B38, if_pos (by decide)], fun e h2 => hs3 e (by omega) h2, hs4⟩) 1048576 0 (nI (a 1) - 1, A) (by omega) ⟨rfl, fun e h1 h2 => by rw [show e = a 1 by omega]; exact hA, fA⟩ (by omega)
  have eB : f_X12_gives_L38 A 255 (nI (a 1) - 1) = some B := eB
  exact ⟨B, by rw [f_X12_gives, eA, bb_some, mo_g13 (s6_mo hM fA), bb_some, eB, bb_some], hB, fB⟩
theorem mo_first {M : Mem} {a : Nat → Nat} (hM : MO M a) (hO : OkO a) {c x : Nat} (hc : c < a 1) (hx : x < 256) (hG : GR M 268 a 256 (c + 1)) (hG0 : GR M 268 a 256 c) (x2 : Int32) : ∃ b, f_X12_given_L66 M 255 x2 (nI x) (nI c) 8 (nI (a 0) - 1) = some (nI b) ∧ FT a c x 0 b := by
  have h8 := hO.1.1
  have h10 := hO.1.2.1
  obtain ⟨r, e, b, h1, h2⟩ := iter_rel (f := fun s : Int32 × Int32 => f_X12_given_B66 M 255 x2 (nI x) (nI c) s.1 s.2) (a 0) (fun i s => (∃ b, s.1 = nI b ∧ FT a c x (a 0 - i) b) ∧ s.2 = nI (a 0 - i) - 1) (fun r => ∃ b, r = nI b ∧ FT a c x 0 b) (fun i s hi ⟨⟨b, hs1, hs2⟩, hs3⟩ => by
    obtain ⟨s1, s2⟩ := s
    obtain ⟨k, hk1⟩ : ∃ k, a 0 - i = k + 1 := ⟨a 0 - i - 1, by omega⟩
    have hka : k < a 0 := by omega
    have hq3 : s2 = nI k := by
      have h : s2 = nI (a 0 - i) - 1 := hs3
      rw [h, hk1]; exact pk_sub (b := 1) (by omega)
    have hq1 : s1 = nI b := hs1
    have hs2 : FT a c x (k + 1) b := by rw [hk1] at hs2; exact hs2
    clear hs1 hs3
    subst hq1
    subst hq3
    have b0 := gL_990 hO c x
    have b1 := gL_990 hO (c + 1) (x ||| 2 ^ k)
    have b2 := (hO.2.2 c hc).2.1
    have F0 : okg a c x k = false → FT a c x k b := fun h => by
      have sp : ∀ s, k ≤ s → s = k ∨ k + 1 ≤ s := fun s hs => by omega
      rcases hs2 with ⟨g1, g2⟩ | ⟨g1, g2, g3, g4⟩
      · refine Or.inl ⟨g1, fun s hs hs' => ?_⟩
        rcases sp s hs with e | e
        · rw [e]; exact h
        · exact g2 s e hs'
      · refine Or.inr ⟨by omega, g2, g3, fun s hs hs' => ?_⟩
        rcases sp s hs with e | e
        · rw [e]; exact h
        · exact g4 s e hs'
    have F1 : okg a c x k = true → FT a c x k k := fun h => Or.inr ⟨Nat.le_refl _, hka, h, fun s hs hs' => absurd hs' (by omega)⟩
    have J0 : ∀ v, f_X12_given_J96 M 255 x2 (nI x) v (nI c) (nI k) 0 = some (.inl (v, nI k - 1)) := fun v => by
      rw [f_X12_given_J96, if_pos rfl, dn1]
    have J1 : f_X12_given_J96 M 255 x2 (nI x) (nI b) (nI c) (nI k) 1 = some (.inl (if a (46 + 3 * c) + gL2 a (c + 1) (x ||| 2 ^ k) = gL2 a c x then nI k else nI b, nI k - 1)) := by
      unfold f_X12_given_J96
      rw [if_neg (by decide), mo_ob hM, bb_some, mo_oc1 hM (by omega), bb_some, m_r41 hM.1, bb_some, one_sl (by omega), or_at, z256, mo_r268 hM.1 (by omega) (or256 hx (by omega)) hG, bb_some, bb_some, y256, mo_r268 hM.1 (by omega) hx hG0, bb_some, nI_add, dn1]
      by_cases hl : a (46 + 3 * c) + gL2 a (c + 1) (x ||| 2 ^ k) = gL2 a c x
      · rw [if_pos (by rw [hl]), if_pos hl]
      · rw [if_neg (nI_nq (by omega) (by omega) hl), if_neg hl]
    have ek : a 0 - (i + 1) = k := by omega
    rw [ek]
    refine Or.inl ?_
    show ∃ s' : Int32 × Int32, f_X12_given_B66 M 255 x2 (nI x) (nI c) (nI b) (nI k) = some (.inl s') ∧ _
    unfold f_X12_given_B66
    rw [if_neg (nI_pos (by omega)), m_holds M (by omega) (by omega), bb_some, mo_ob hM, bb_some, mo_have hM hO hka hc, bb_some]
    by_cases hb : x.testBit k = true
    · rw [if_pos hb, if_neg (by decide), J0]
      exact ⟨_, rfl, ⟨b, rfl, F0 (by unfold okg; rw [hb]; rfl)⟩, rfl⟩
    · have hb' : x.testBit k = false := by simpa using hb
      rw [if_neg hb, if_pos rfl]
      by_cases hm : mH a k c = true
      · rw [hm, if_neg (by decide), J1]
        by_cases hl : a (46 + 3 * c) + gL2 a (c + 1) (x ||| 2 ^ k) = gL2 a c x
        · rw [if_pos hl]
          exact ⟨_, rfl, ⟨k, rfl, F1 (by unfold okg; rw [hb', hm, decide_eq_true hl]; rfl)⟩, rfl⟩
        · rw [if_neg hl]
          exact ⟨_, rfl, ⟨b, rfl, F0 (by unfold okg; rw [decide_eq_false hl, Bool.and_false])⟩, rfl⟩
      · have hm' : mH a k c = false := by simpa using hm
        rw [hm', if_pos (by rfl), J0]
        exact ⟨_, rfl, ⟨b, rfl, F0 (by unfold okg; rw [hm', Bool.and_false]; rfl)⟩, rfl⟩) (fun s ⟨⟨b, hs1, hs2⟩, hs3⟩ => by
    obtain ⟨s1, s2⟩ := s
    have hq1 : s1 = nI b := hs1
    have hq3 : s2 = nI 0 - 1 := by
      have h : s2 = nI (a 0 - a 0) - 1 := hs3
      rw [Nat.sub_self] at h; exact h
    rw [Nat.sub_self] at hs2
    clear hs1 hs3
    subst hq1
    subst hq3
    exact ⟨nI b, by show f_X12_given_B66 M 255 x2 (nI x) (nI c) (nI b) (nI 0 - 1) = _; rw [f_X12_given_B66, if_pos (by decide)], b, rfl, hs2⟩) 1048576 0 (8, nI (a 0) - 1) (by omega) ⟨⟨8, rfl, Or.inl ⟨rfl, fun s h1 h2 => absurd h2 (by omega)⟩⟩, rfl⟩ (by omega)
  have e : f_X12_given_L66 M 255 x2 (nI x) (nI c) 8 (nI (a 0) - 1) = some r := e
  exact ⟨b, by rw [e, h1], h2⟩
theorem mo_givenL {M : Mem} {a r : Nat → Nat} (hM : MO M a) (hO : OkO a) (hG : ∀ e, e ≤ a 1 → GR M 268 a 256 e) (hr : GCh a r (a 1)) {k : Nat} (hk : k < a 1) : f_X12_given_L48 M 255 (nI k) 0 8 0 = some (nI (r k)) := by
  have h8 := hO.1.1
  have h10 := hO.1.2.1
  have p8 := pw8 h8
  obtain ⟨q, e, hq⟩ := iter_rel (f := fun s : Int32 × Int32 × Int32 => f_X12_given_B48 M 255 (nI k) s.1 s.2.1 s.2.2) (k + 1) (fun i s => s.1 = nI (sr r i) ∧ s.2.1 = nI (if i = 0 then 8 else r (i - 1)) ∧ s.2.2 = nI i) (fun q => q = nI (r k)) (fun i s hi ⟨hs1, hs2, hs3⟩ => by
    obtain ⟨s1, s2, s3⟩ := s
    have hs1 : s1 = nI (sr r i) := hs1
    have hs3 : s3 = nI i := hs3
    subst hs1 hs3
    have hsl : sr r i < 2 ^ a 0 := sr_lt i (fun j hj => ft_lt (hr j (by omega)))
    obtain ⟨b, e1, e2⟩ := mo_first hM hO (show i < a 1 by omega) (show sr r i < 256 by omega) (hG (i + 1) (by omega)) (hG i (by omega)) (nI k)
    have hb := ft_un hO e2 (hr i (by omega))
    subst hb
    have hb := ft_lt e2
    have srn : sr r (i + 1) = if r i = 8 then sr r i else sr r i ||| 2 ^ r i := rfl
    refine Or.inl ⟨(nI (sr r (i + 1)), nI (r i), nI (i + 1)), ?_, rfl, by rw [if_neg (by omega), show i + 1 - 1 = i by omega], rfl⟩
    show f_X12_given_B48 M 255 (nI k) (nI (sr r i)) s2 (nI i) = _
    unfold f_X12_given_B48
    rw [if_neg (nI_nlt (by omega) (by omega)), mo_g12 hM, bb_some, e1, bb_some, nI_1, srn]
    by_cases h : r i = 8
    · rw [if_pos (show nI (r i) = 8 by rw [h]; rfl), if_pos h, show nI (sr r i) ||| 0 = nI (sr r i ||| 0) from or_at _ 0, Nat.or_zero]
    · rw [if_neg (show ¬ nI (r i) = 8 from nI_nq (k := 8) (by omega) (by omega) h), if_neg h, one_sl (by omega), or_at]) (fun s ⟨hs1, hs2, hs3⟩ => by
    obtain ⟨s1, s2, s3⟩ := s
    have hs2 : s2 = nI (if k + 1 = 0 then 8 else r (k + 1 - 1)) := hs2
    have hs3 : s3 = nI (k + 1) := hs3
    rw [if_neg (by omega), show k + 1 - 1 = k by omega] at hs2
    subst hs3
    refine ⟨s2, ?_, hs2⟩
    show f_X12_given_B48 M 255 (nI k) s1 s2 (nI (k + 1)) = _
    unfold f_X12_given_B48
    rw [if_pos (nI_lt (by omega) (by omega))]) 1048576 0 (0, 8, 0) (by omega) ⟨rfl, rfl, rfl⟩ (by omega)
  have e : f_X12_given_L48 M 255 (nI k) 0 8 0 = some q := e
  rw [e, hq]
theorem call_given {M : Mem} (hI : Inv M) (a1 a2 : Int32)  : ∃ (r : Int32) (M1 M2 : Mem), f_X11_given M 1 a1 a2 = some (r, M1) ∧ shp M1 255 = some (.inl 12) ∧ f_X12_given M1 255 a1 a2 = some (r, M2) ∧ Inv M2 := by
  have hS := hI.1
  exact qm hI a1 (fC := f_X11_given M 1 a1 a2) (fM := fun M => f_X12_given M 255 a1 a2) (bad := -1) (fun e1 e2 => ⟨by simp [f_X11_given, d_r0 hS, t_ob hS, e1], by simp [f_X12_given, ob_at (m_shp hS), e2]⟩) (fun o a ho hO e1 hC => by
    have h10 := hO.1.2.1
    have ms : ∀ M1 M2, f_X12_isOffice M1 255 a1 = some (1, M2) → Sk M1 → f_X12_given M1 255 a1 a2 = (if a2 = (-1 : Int32) then f_X12_given_J23 M2 255 a2 else (ob M2 12 255).bind fun _ => (f_X12_isCall M2 255 a2).bind fun v4 => (if v4 = 0 then some ((-1 : Int32), M2) else f_X12_given_J23 M2 255 a2)) := fun M1 M2 e3 hS1 => by
      unfold f_X12_given
      rw [ob_at (m_shp hS1), bb_some, e3, bb_some]
      rfl
    obtain ⟨r, M1, eM, ⟨hch, h108, h107⟩, fM⟩ := c_give hC hO
    have hS1 := fr_sk fM hS
    by_cases hm : a2 = -1
    · subst hm
      refine ⟨nI (gL2 a 0 0), M1, ?_, s7_q fM, fun M2 e3 hM hq => ?_⟩
      · unfold f_X11_given f_X11_given_J28
        rw [d_r0 hS, bb_some, t_ob hS, bb_some, e1, bb_some, if_neg ho, if_pos rfl, d_r9 hS, bb_some, ob_at (p_shp hS), bb_some, eM, bb_some, if_pos rfl, d_r9 hS1, bb_some, gI_at (p_shp hS1), h107, bb_some]
      · obtain ⟨D, eD, hD, fD⟩ := mo_gives hM hO
        have hSD := fr_sk fD hM.1
        refine ⟨D, ?_, s6_q fD⟩
        have e0 : aI D 0 268 0 = some (nI (gL2 a 0 0)) := mo_r268 hSD (c := 0) (x := 0) (by omega) (by omega) (hD 0 (by omega))
        show f_X12_given M1 255 a1 (-1) = _
        rw [ms M1 M2 e3 hS1, if_pos rfl, f_X12_given_J23, mo_ob hM, bb_some, eD, bb_some, if_pos rfl, m_r41 hSD, bb_some, e0, bb_some]
    rcases io_cases a2 (n := a 1) (by omega) with hx | ⟨k, hk, rfl⟩
    · refine ⟨-1, M, ?_, qf_refl, fun M2 e3 hM hq => ⟨M2, ?_, qf_refl⟩⟩
      · unfold f_X11_given
        rw [d_r0 hS, bb_some, t_ob hS, bb_some, e1, bb_some, if_neg ho, if_neg hm, ob_at (co_shp hC), bb_some, c_noCall hC hx, bb_some, if_pos rfl]
      · show f_X12_given M 255 a1 a2 = _
        rw [ms M M2 e3 hS, if_neg hm, mo_ob hM, bb_some, mo_noCall hM hO hx, bb_some, if_pos rfl]
    · refine ⟨nI (r k), M1, ?_, s7_q fM, fun M2 e3 hM hq => ?_⟩
      · unfold f_X11_given f_X11_given_J28
        rw [d_r0 hS, bb_some, t_ob hS, bb_some, e1, bb_some, if_neg ho, if_neg hm, ob_at (co_shp hC), bb_some, c_hasCall hC hO hk, bb_some, if_neg (by decide), d_r9 hS, bb_some, ob_at (p_shp hS), bb_some, eM, bb_some, if_neg hm, d_r9 hS1, bb_some, p_r2 hS1, bb_some, aI_at (p_s108 hS1) (by omega) (by omega) (by omega), h108 k hk, bb_some]
      · obtain ⟨D, eD, hD, fD⟩ := mo_gives hM hO
        refine ⟨D, ?_, s6_q fD⟩
        show f_X12_given M1 255 a1 (nI k) = _
        rw [ms M1 M2 e3 hS1, if_neg hm, mo_ob hM, bb_some, mo_isCall hM hO hk, bb_some, if_neg (by decide), f_X12_given_J23, mo_ob hM, bb_some, eD, bb_some, if_neg hm, mo_givenL (s6_mo hM fD) hO hD hch hk, bb_some])
