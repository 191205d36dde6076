/-! rooms -/
theorem cb_st (p : Nat → Bool) (n : Nat) : cb p (n + 1) = if p n = true then cb p n + 1 else cb p n := rfl
theorem cb_mono {p q : Nat → Bool} {n : Nat} (h : ∀ i, i < n → p i = true → q i = true) : cb p n ≤ cb q n := by
  induction n with
  | zero => exact Nat.le_refl _
  | succ n ih =>
    have := ih (fun i hi => h i (by omega))
    have h2 := h n (by omega)
    rw [cb_st, cb_st]
    by_cases hp : p n = true
    · rw [if_pos hp, if_pos (h2 hp)]; omega
    · rw [if_neg hp]; split <;> omega
theorem cb_lt {p q : Nat → Bool} {n : Nat} (h : ∀ i, i < n → p i = true → q i = true) (hx : ∃ i, i < n ∧ q i = true ∧ p i = false) : cb p n < cb q n := by
  induction n with
  | zero => obtain ⟨i, hi, _⟩ := hx; omega
  | succ n ih =>
    have hm := cb_mono (fun i hi => h i (show i < n + 1 by omega)) (n := n)
    have h2 := h n (by omega)
    rw [cb_st, cb_st]
    obtain ⟨i, hi, h3, h4⟩ := hx
    by_cases e : i = n
    · subst e
      rw [if_pos h3, h4, if_neg (by decide)]; omega
    · have := ih (fun i hi => h i (by omega)) ⟨i, by omega, h3, h4⟩
      by_cases hp : p n = true
      · rw [if_pos hp, if_pos (h2 hp)]; omega
      · rw [if_neg hp]; split <;> omega
theorem cb_pos {p : Nat → Bool} {n i : Nat} (hi : i < n) (hp : p i = true) : 0 < cb p n := by
  induction n with
  | zero => omega
  | succ n ih =>
    rw [cb_st]
    by_cases e : i = n
    · subst e; rw [if_pos hp]; omega
    · have := ih (by omega); split <;> omega
def sub (v w : Nat) : Prop := ∀ i, v.testBit i = true → w.testBit i = true
theorem sub_refl (v : Nat) : sub v v := fun _ h => h
theorem sub_trans {u v w : Nat} (h : sub u v) (h' : sub v w) : sub u w := fun i hi => h' i (h i hi)
theorem sub_eq {v w : Nat} (h : sub v w) (h' : sub w v) : v = w := Nat.eq_of_testBit_eq (fun i => by
  cases e : v.testBit i with
  | true => rw [h i e]
  | false => cases e' : w.testBit i with
    | true => rw [h' i e'] at e; cases e
    | false => rfl)
theorem sub_or1 (v w : Nat) : sub v (v ||| w) := fun i h => by rw [Nat.testBit_or, h]; rfl
theorem sub_or2 (v w : Nat) : sub w (v ||| w) := fun i h => by rw [Nat.testBit_or, h, Bool.or_true]
theorem sub_or {u v w : Nat} (h : sub u w) (h' : sub v w) : sub (u ||| v) w := fun i hi => by
  rw [Nat.testBit_or] at hi
  cases e : u.testBit i with
  | true => exact h i e
  | false => rw [e, Bool.false_or] at hi; exact h' i hi
theorem or_sub {v w : Nat} (h : sub w v) : v ||| w = v := sub_eq (sub_or (sub_refl v) h) (sub_or1 v w)
/-- again and again -/
def fi (f : Nat → Nat) (k v : Nat) : Nat := fo (fun _ v => f v) k v
theorem fi_st (f : Nat → Nat) (k v : Nat) : fi f (k + 1) v = f (fi f k v) := rfl
theorem fi_fix {f : Nat → Nat} {n v : Nat} (h1 : ∀ u, sub u (f u)) (h2 : ∀ u, u < 2 ^ n → f u < 2 ^ n) (hv : v < 2 ^ n) {s : Nat} (hs : s < n) (hb : v.testBit s = true) : fi f n v < 2 ^ n ∧ sub v (fi f n v) ∧ f (fi f n v) = fi f n v := by
  have key : ∀ k, fi f k v < 2 ^ n ∧ sub v (fi f k v) ∧ (f (fi f k v) = fi f k v ∨ k + 1 ≤ cb (fun i => (fi f k v).testBit i) n) := by
    intro k
    induction k with
    | zero => exact ⟨hv, sub_refl _, Or.inr (cb_pos hs hb)⟩
    | succ k ih =>
      obtain ⟨g1, g2, g3⟩ := ih
      rw [fi_st]
      refine ⟨h2 _ g1, sub_trans g2 (h1 _), ?_⟩
      rcases g3 with g3 | g3
      · left; rw [g3, g3]
      · by_cases e : f (fi f k v) = fi f k v
        · left; rw [e, e]
        · right
          have hn : ∃ i, i < n ∧ (f (fi f k v)).testBit i = true ∧ (fi f k v).testBit i = false := by
            apply Classical.byContradiction
            intro hc
            apply e
            refine sub_eq (fun i hi => ?_) (h1 _)
            apply Classical.byContradiction
            intro hc2
            refine hc ⟨i, ?_, hi, by simpa using hc2⟩
            apply Classical.byContradiction
            intro h
            have := Nat.testBit_lt_two_pow (Nat.lt_of_lt_of_le (h2 _ g1) (Nat.pow_le_pow_right (n := 2) (by omega) (show n ≤ i by omega)))
            rw [this] at hi
            cases hi
          have := cb_lt (p := fun i => (fi f k v).testBit i) (q := fun i => (f (fi f k v)).testBit i) (n := n) (fun i _ hi => h1 _ i hi) hn
          omega
  obtain ⟨g1, g2, g3⟩ := key n
  refine ⟨g1, g2, ?_⟩
  rcases g3 with g3 | g3
  · exact g3
  · have := cb_le (fun i => (fi f n v).testBit i) n
    omega
/-- one who hears one of them is one of them -/
def Cl (a : Nat → Nat) (C : Nat) : Prop := ∀ i, i < a 0 → C.testBit i = true → sub (hb a i) C
theorem cl_or {a : Nat → Nat} {C D : Nat} (h : Cl a C) (h' : Cl a D) : Cl a (C ||| D) := fun i hi hb => by
  rw [Nat.testBit_or] at hb
  cases e : C.testBit i with
  | true => exact sub_trans (h i hi e) (sub_or1 _ _)
  | false => rw [e, Bool.false_or] at hb; exact sub_trans (h' i hi hb) (sub_or2 _ _)
/-- the model's way: those who hear come in at once -/
def wsq (a : Nat → Nat) (m : Nat) : Nat := fo (fun s v => if v.testBit s = true then v ||| hb a s else v) (a 0) m
theorem fo_up {g : Nat → Nat → Nat} {n v : Nat} (h : ∀ i v, i < n → sub v (g i v)) : ∀ k, k ≤ n → sub v (fo g k v) := by
  intro k
  induction k with
  | zero => intro _; exact sub_refl _
  | succ k ih => intro hk; exact sub_trans (ih (by omega)) (h k _ (by omega))
theorem whs_up (a : Nat → Nat) (m : Nat) : sub m (whs a m) := fo_up (n := a 0) (fun i v _ => by split; exact sub_or1 _ _; exact sub_refl _) _ (Nat.le_refl _)
theorem wsq_up (a : Nat → Nat) (m : Nat) : sub m (wsq a m) := fo_up (n := a 0) (fun i v _ => by split; exact sub_or1 _ _; exact sub_refl _) _ (Nat.le_refl _)
theorem wsq_lt {a : Nat → Nat} {m : Nat} (hm : m < 2 ^ a 0) : wsq a m < 2 ^ a 0 := fo_inv (fun _ v => v < 2 ^ a 0) hm (fun s v hs hv => by
  show (if v.testBit s = true then v ||| hb a s else v) < 2 ^ a 0
  split
  · exact or_lt hv (hb_lt s)
  · exact hv)
theorem whs_cl {a : Nat → Nat} {m C : Nat} (hC : Cl a C) (h : sub m C) : sub (whs a m) C := fo_inv (fun _ v => sub v C) h (fun s v hs hv => by
  show sub (if m.testBit s = true then v ||| hb a s else v) C
  split
  · rename_i hb; exact sub_or hv (hC s hs (h s hb))
  · exact hv)
theorem wsq_cl {a : Nat → Nat} {m C : Nat} (hC : Cl a C) (h : sub m C) : sub (wsq a m) C := fo_inv (fun _ v => sub v C) h (fun s v hs hv => by
  show sub (if v.testBit s = true then v ||| hb a s else v) C
  split
  · rename_i hb; exact sub_or hv (hC s hs (hv s hb))
  · exact hv)
theorem fo_at {g : Nat → Nat → Nat} {n v : Nat} (h : ∀ i v, i < n → sub v (g i v)) {s : Nat} (hs : s < n) : sub (g s (fo g s v)) (fo g n v) := by
  induction n with
  | zero => omega
  | succ n ih =>
    rcases (show s = n ∨ s < n by omega) with rfl | h'
    · exact sub_refl _
    · exact sub_trans (ih (fun i v hi => h i v (by omega)) h') (h n _ (by omega))
theorem whs_fix {a : Nat → Nat} {m : Nat} (h : whs a m = m) : Cl a m := fun s hs hbs => by
  have g := fo_at (g := fun s v => if m.testBit s = true then v ||| hb a s else v) (n := a 0) (v := m) (fun i v _ => by show sub v (if _ then _ else _); split; exact sub_or1 _ _; exact sub_refl _) hs
  have g : sub (if m.testBit s = true then _ ||| hb a s else _) (whs a m) := g
  rw [if_pos hbs, h] at g
  exact sub_trans (sub_or2 _ _) g
theorem wsq_fix {a : Nat → Nat} {m : Nat} (h : wsq a m = m) : Cl a m := fun s hs hbs => by
  have u := fo_up (g := fun s v => if v.testBit s = true then v ||| hb a s else v) (n := a 0) (v := m) (fun i v _ => by show sub v (if _ then _ else _); split; exact sub_or1 _ _; exact sub_refl _) s (by omega) s hbs
  have g := fo_at (g := fun s v => if v.testBit s = true then v ||| hb a s else v) (n := a 0) (v := m) (fun i v _ => by show sub v (if _ then _ else _); split; exact sub_or1 _ _; exact sub_refl _) hs
  have g : sub (if (fo (fun s v => if v.testBit s = true then v ||| hb a s else v) s m).testBit s = true then _ ||| hb a s else _) (wsq a m) := g
  rw [if_pos u, h] at g
  exact sub_trans (sub_or2 _ _) g
/-- the room of a desk -/
def rmo (a : Nat → Nat) (s : Nat) : Nat := fi (whs a) (a 0) (2 ^ s)
theorem fi_cl {f : Nat → Nat} {C v : Nat} (h : ∀ u, sub u C → sub (f u) C) (hv : sub v C) : ∀ k, sub (fi f k v) C := by
  intro k
  induction k with
  | zero => exact hv
  | succ k ih => rw [fi_st]; exact h _ ih
theorem tw (s : Nat) : (2 ^ s).testBit s = true := by rw [Nat.testBit_two_pow]; simp
theorem rmo_ok {a : Nat → Nat} {s : Nat} (hs : s < a 0) : rmo a s < 2 ^ a 0 ∧ (rmo a s).testBit s = true ∧ Cl a (rmo a s) ∧ fi (wsq a) (a 0) (2 ^ s) = rmo a s := by
  obtain ⟨f1, f2, f3⟩ := fi_fix (f := whs a) (whs_up a) (fun u hu => whs_lt hu) (pw_lt hs) hs (tw s)
  obtain ⟨g1, g2, g3⟩ := fi_fix (f := wsq a) (wsq_up a) (fun u hu => wsq_lt hu) (pw_lt hs) hs (tw s)
  refine ⟨f1, f2 s (tw s), whs_fix f3, sub_eq ?_ ?_⟩
  · exact fi_cl (fun u hu => wsq_cl (whs_fix f3) hu) f2 _
  · exact fi_cl (fun u hu => whs_cl (wsq_fix g3) hu) g2 _
theorem rmo_sub {a : Nat → Nat} {C s : Nat} (hC : Cl a C) (hs : C.testBit s = true) : sub (rmo a s) C := fi_cl (fun u hu => whs_cl hC hu) (fun i hi => by
  rw [Nat.testBit_two_pow] at hi
  have : s = i := by simpa using hi
  rw [← this]; exact hs) _
theorem c_room {M : Mem} {o : Nat} {a : Nat → Nat} (hC : CO M o a) (hO : OkO a) {s : Nat} (hs : s < a 0) : f_X5_roomOf M o (nI s) = some (nI (rmo a s)) := by
  have h8 := hO.1.1
  have e := (lpI (f := fun s : Int32 × Int32 => f_X5_roomOf_B6 M o s.1 s.2) 0 (a 0) (fun _ v => whs a v) nI nI (fun _ v => v < 2 ^ a 0) (2 ^ s) (pw_lt hs) (fun i v hi hv => by
    refine ⟨?_, whs_lt hv⟩
    simp only [Nat.zero_add, f_X5_roomOf_B6, co_g0 hC, if_neg (nI_ge hi (show a 0 < 2 ^ 31 by omega)), bb_some, ob_at (co_shp hC), c_with hC hO hv]) (fun v hv => by simp [f_X5_roomOf_B6, co_g0 hC]) (by omega)).1
  have e : f_X5_roomOf_L6 M o (nI (2 ^ s)) 0 = some (nI (rmo a s)) := e
  rw [f_X5_roomOf, one_sl (by omega), e, bb_some]
theorem hr_self (a : Nat → Nat) (i : Nat) : hr a i i = false := by simp [hr]
theorem mo_in {M : Mem} {a : Nat → Nat} (hM : MO M a) (hO : OkO a) {i v : Nat} (hi : i < a 0) (hv : v < 2 ^ a 0) (x3 : Int32) : f_X12_roomOf_L29 M 255 x3 (nI i) (nI v) 0 = some (nI (if v.testBit i = true then v ||| hb a i else v)) := by
  have h8 := hO.1.1
  have p8 := pw8 h8
  by_cases hbi : v.testBit i = true
  · rw [if_pos hbi, ← hb_or i v]
    exact (lpI (f := fun s : Int32 × Int32 => f_X12_roomOf_B29 M 255 x3 (nI i) s.1 s.2) 0 (a 0) (fun s acc => if hr a s i = true then acc ||| 2 ^ s else acc) nI nI (fun _ w => w < 2 ^ a 0 ∧ w.testBit i = true) v ⟨hv, hbi⟩ (fun j w hj hw => by
      refine ⟨?_, ?_, ?_⟩
      · simp only [Nat.zero_add, f_X12_roomOf_B29, mo_g12 hM, if_neg (nI_ge hj (show a 0 < 2 ^ 31 by omega)), bb_some, m_holds M (show w < 2 ^ 31 by omega) (show i < 32 by omega), if_pos hw.2, mo_ob hM, mo_hears hM hO hj hi, if_neg (show ¬ (1 : Int32) = 0 by decide), one_sl (show j < 32 by omega), or_at]
        by_cases hh : hr a j i = true
        · simp [hh]
        · simp [hh]
      · split
        · exact or_lt hw.1 (pw_lt hj)
        · exact hw.1
      · split
        · rw [Nat.testBit_or, hw.2]; rfl
        · exact hw.2) (fun w hw => by simp [f_X12_roomOf_B29, mo_g12 hM]) (by omega)).1
  · rw [if_neg hbi]
    have := (lpI (f := fun s : Int32 × Int32 => f_X12_roomOf_B29 M 255 x3 (nI i) s.1 s.2) 0 (a 0) (fun _ w => w) nI nI (fun _ w => w = v) v rfl (fun j w hj hw => by
      subst hw
      refine ⟨?_, rfl⟩
      simp only [Nat.zero_add, f_X12_roomOf_B29, mo_g12 hM, if_neg (nI_ge hj (show a 0 < 2 ^ 31 by omega)), bb_some, m_holds M (show w < 2 ^ 31 by omega) (show i < 32 by omega), if_neg hbi, if_true]) (fun w hw => by simp [f_X12_roomOf_B29, mo_g12 hM]) (by omega)).1
    rw [show fo (fun _ w => w) (a 0) v = v from fo_inv (fun _ w => w = v) rfl (fun _ w _ h => h)] at this
    exact this
theorem mo_sq {M : Mem} {a : Nat → Nat} (hM : MO M a) (hO : OkO a) {v : Nat} (hv : v < 2 ^ a 0) (x3 : Int32) : f_X12_roomOf_L17 M 255 x3 (nI v) 0 = some (nI (wsq a v)) := by
  have h8 := hO.1.1
  exact (lpI (f := fun s : Int32 × Int32 => f_X12_roomOf_B17 M 255 x3 s.1 s.2) 0 (a 0) (fun s v => if v.testBit s = true then v ||| hb a s else v) nI nI (fun _ w => w < 2 ^ a 0) v hv (fun j w hj hw => by
    refine ⟨?_, ?_⟩
    · simp only [Nat.zero_add, f_X12_roomOf_B17, mo_g12 hM, if_neg (nI_ge hj (show a 0 < 2 ^ 31 by omega)), bb_some, mo_in hM hO hj hw]
    · split
      · exact or_lt hw (hb_lt j)
      · exact hw) (fun w hw => by simp [f_X12_roomOf_B17, mo_g12 hM]) (by omega)).1
theorem mo_room {M : Mem} {a : Nat → Nat} (hM : MO M a) (hO : OkO a) {s : Nat} (hs : s < a 0) : f_X12_roomOf M 255 (nI s) = some (nI (rmo a s)) := by
  have h8 := hO.1.1
  have e := (lpI (f := fun s : Int32 × Int32 => f_X12_roomOf_B6 M 255 s.1 s.2) 0 (a 0) (fun _ v => wsq a v) nI nI (fun _ v => v < 2 ^ a 0) (2 ^ s) (pw_lt hs) (fun i v hi hv => by
    refine ⟨?_, wsq_lt hv⟩
    simp only [Nat.zero_add, f_X12_roomOf_B6, mo_g12 hM, if_neg (nI_ge hi (show a 0 < 2 ^ 31 by omega)), bb_some, mo_sq hM hO hv]) (fun v hv => by simp [f_X12_roomOf_B6, mo_g12 hM]) (by omega)).1
  have e : f_X12_roomOf_L6 M 255 (nI (2 ^ s)) 0 = some (nI (fi (wsq a) (a 0) (2 ^ s))) := e
  rw [f_X12_roomOf, one_sl (by omega), e, bb_some, (rmo_ok hs).2.2.2]
/-- seen, how many -/
def rc (a : Nat → Nat) (i : Nat) (v : Nat × Nat) : Nat × Nat := if v.1.testBit i = true then v else (v.1 ||| rmo a i, v.2 + 1)
def rl (a : Nat → Nat) (i : Nat) (v : Nat) : Nat := if pc (rmo a i) ≤ v then v else pc (rmo a i)
theorem pc_10 (m : Nat) : pc m ≤ 10 := by unfold pc; omega
theorem c_rcount {M : Mem} {o : Nat} {a : Nat → Nat} (hC : CO M o a) (hO : OkO a) : f_X5_roomCount M o = some (nI (fo (rc a) (a 0) (0, 0)).2) := by
  have h8 := hO.1.1
  have p8 := pw8 h8
  have e := (iter_for (f := fun s : Int32 × Int32 × Int32 => f_X5_roomCount_B6 M o s.1 s.2.1 s.2.2) (a 0) (rc a) (fun i v => (nI v.1, nI v.2, nI i)) (fun v => nI v.2) (fun _ v => v.1 < 2 ^ a 0) (fun i v hi hv => by
    refine ⟨?_, ?_⟩
    · show f_X5_roomCount_B6 M o (nI v.1) (nI v.2) (nI i) = _
      simp only [f_X5_roomCount_B6, co_g0 hC, if_neg (nI_ge hi (show a 0 < 2 ^ 31 by omega)), bb_some, bit_0 (show v.1 < 2 ^ 31 by omega) (show i < 32 by omega), ob_at (co_shp hC), c_room hC hO hi, or_at, nI_1, rc]
      by_cases hb : v.1.testBit i = true
      · rw [if_neg (by rw [hb]; decide), if_pos hb]
      · rw [if_pos (by simpa using hb), if_neg hb]
    · show (rc a i v).1 < 2 ^ a 0
      unfold rc
      split
      · exact hv
      · exact or_lt hv (rmo_ok hi).1) (fun v hv => by simp [f_X5_roomCount_B6, co_g0 hC]) (0, 0) (Nat.two_pow_pos _) 1048576 (by omega)).1
  have e : f_X5_roomCount_L6 M o 0 0 0 = some (nI (fo (rc a) (a 0) (0, 0)).2) := e
  rw [f_X5_roomCount, e, bb_some]
theorem ld_pc (M : Mem) {m : Nat} (h : m < 1024) : f_J6_bitCount_0f7a4 M (nI m) = some (nI (pc m)) := pc_at M m h
theorem c_lg1 {M : Mem} {o : Nat} {a : Nat → Nat} (hC : CO M o a) (hO : OkO a) {i v : Nat} (hi : i < a 0) (hv : v ≤ 10) : f_X5_largestRoom_B4 M o (nI v) (nI i) = some (.inl (nI (rl a i v), nI i + 1)) := by
  have h8 := hO.1.1
  have p8 := pw8 h8
  have n1 : ¬ nI (a 0) ≤ nI i := nI_ge hi (by omega)
  have e1 := c_room hC hO hi
  have hm := (rmo_ok hi).1
  have w1 := ld_pc M (show rmo a i < 1024 by omega)
  have hp := pc_10 (rmo a i)
  unfold f_X5_largestRoom_B4 rl
  generalize pc (rmo a i) = c1 at w1 hp ⊢
  generalize rmo a i = b1 at e1 w1
  rw [co_g0 hC, bb_some, if_neg n1, ob_at (co_shp hC), bb_some, e1, bb_some, w1, bb_some]
  unfold imax
  by_cases hh : c1 ≤ v
  · rw [if_pos hh, if_neg (by rw [nI_ltI (by omega) (by omega)]; omega)]
  · rw [if_neg hh, if_pos (by rw [nI_ltI (by omega) (by omega)]; omega)]
theorem rl_10 {a : Nat → Nat} {i v : Nat} (hv : v ≤ 10) : rl a i v ≤ 10 := by
  have hp := pc_10 (rmo a i)
  unfold rl
  split <;> omega
theorem c_large {M : Mem} {o : Nat} {a : Nat → Nat} (hC : CO M o a) (hO : OkO a) : f_X5_largestRoom M o = some (nI (fo (rl a) (a 0) 0)) := by
  have h8 := hO.1.1
  have e := (lpI (f := fun s : Int32 × Int32 => f_X5_largestRoom_B4 M o s.1 s.2) 0 (a 0) (rl a) nI nI (fun _ v => v ≤ 10) 0 (by omega) (fun i v hi hv => by
    rw [Nat.zero_add]
    exact ⟨c_lg1 hC hO hi hv, rl_10 hv⟩) (fun v hv => by simp [f_X5_largestRoom_B4, co_g0 hC]) (by omega)).1
  have e : f_X5_largestRoom_L4 M o 0 0 = some (nI (fo (rl a) (a 0) 0)) := e
  rw [f_X5_largestRoom, e, bb_some]
/-- all three: how many, the largest, seen -/
def rm3 (a : Nat → Nat) (i : Nat) (v : Nat × Nat × Nat) : Nat × Nat × Nat := ((rc a i (v.2.2, v.1)).2, rl a i v.2.1, (rc a i (v.2.2, v.1)).1)
theorem rm3_fo (a : Nat → Nat) (n : Nat) : (fo (rm3 a) n (0, 0, 0)).1 = (fo (rc a) n (0, 0)).2 ∧ (fo (rm3 a) n (0, 0, 0)).2.1 = fo (rl a) n 0 ∧ (fo (rm3 a) n (0, 0, 0)).2.2 = (fo (rc a) n (0, 0)).1 := by
  induction n with
  | zero => exact ⟨rfl, rfl, rfl⟩
  | succ n ih =>
    obtain ⟨h1, h2, h3⟩ := ih
    refine ⟨?_, ?_, ?_⟩
    · show (rc a n (_, _)).2 = (rc a n _).2
      rw [h3, h1]
    · show rl a n _ = rl a n _
      rw [h2]
    · show (rc a n (_, _)).1 = (rc a n _).1
      rw [h3, h1]
theorem mo_rB {M : Mem} {a : Nat → Nat} (hM : MO M a) (hO : OkO a) {i c l s : Nat} (hi : i < a 0) (hl : l ≤ 10) (hs : s < 2 ^ a 0) (hc : Cl a s) (x2 : Int32) : f_X12_rooms_B21 M 255 x2 (nI c) (nI l) (nI s) (nI i) = some (.inl (nI (rc a i (s, c)).2, nI (rl a i l), nI (rc a i (s, c)).1, nI (i + 1))) := by
  have h8 := hO.1.1
  have p8 := pw8 h8
  have n1 : ¬ nI (a 0) ≤ nI i := nI_ge hi (by omega)
  have e1 := mo_room hM hO hi
  have hm := (rmo_ok hi).1
  have w1 := bits_at M (rmo a i) (by omega)
  have hp := pc_10 (rmo a i)
  have hsub : s.testBit i = true → s ||| rmo a i = s := fun h => or_sub (rmo_sub hc h)
  have hh := m_holds M (show s < 2 ^ 31 by omega) (show i < 32 by omega)
  have J : ∀ y, f_X12_rooms_J58 M 255 x2 (nI c) (nI s) (nI i) (nI (rmo a i)) y = some (.inl (nI (rc a i (s, c)).2, y, nI (rc a i (s, c)).1, nI (i + 1))) := fun y => by
    unfold f_X12_rooms_J58 rc
    rw [hh, bb_some]
    by_cases hb : s.testBit i = true
    · rw [if_pos hb, if_neg (by decide), if_pos hb, or_at, hsub hb, nI_1]
      show some (Sum.inl (nI c + nI 0, y, nI s, nI (i + 1))) = _
      rw [nI_add, Nat.add_zero]
    · rw [if_neg hb, if_pos rfl, if_neg hb, or_at, nI_1, nI_1]
  unfold f_X12_rooms_B21
  rw [mo_g12 hM, bb_some, if_neg n1, mo_ob hM, bb_some, e1, bb_some, w1, bb_some, bb_some, J, J]
  unfold rl
  by_cases hle : pc (rmo a i) ≤ l
  · rw [if_pos hle, if_pos (by rw [nI_leI (by omega) (by omega)]; exact hle)]
  · rw [if_neg hle, if_neg (by rw [nI_leI (by omega) (by omega)]; exact hle)]
theorem cl_0 (a : Nat → Nat) : Cl a 0 := fun i _ h => by rw [Nat.zero_testBit] at h; cases h
theorem rc_ok {a : Nat → Nat} {i : Nat} {v : Nat × Nat} (hi : i < a 0) (h : v.1 < 2 ^ a 0 ∧ Cl a v.1) : (rc a i v).1 < 2 ^ a 0 ∧ Cl a (rc a i v).1 := by
  unfold rc
  split
  · exact h
  · exact ⟨or_lt h.1 (rmo_ok hi).1, cl_or h.2 (rmo_ok hi).2.2.1⟩
theorem mo_rooms {M : Mem} {a : Nat → Nat} (hM : MO M a) (hO : OkO a) (x2 : Int32) : f_X12_rooms_L21 M 255 x2 0 0 0 0 = some (nI (fo (rc a) (a 0) (0, 0)).2, nI (fo (rl a) (a 0) 0)) := by
  have h8 := hO.1.1
  have e := (iter_for (f := fun s : Int32 × Int32 × Int32 × Int32 => f_X12_rooms_B21 M 255 x2 s.1 s.2.1 s.2.2.1 s.2.2.2) (a 0) (rm3 a) (fun i v => (nI v.1, nI v.2.1, nI v.2.2, nI i)) (fun v => (nI v.1, nI v.2.1)) (fun _ v => v.2.1 ≤ 10 ∧ v.2.2 < 2 ^ a 0 ∧ Cl a v.2.2) (fun i v hi hv => ⟨mo_rB hM hO hi hv.1 hv.2.1 hv.2.2 x2, rl_10 hv.1, rc_ok hi (v := (v.2.2, v.1)) hv.2⟩) (fun v hv => by simp [f_X12_rooms_B21, mo_g12 hM]) (0, 0, 0) ⟨Nat.zero_le _, Nat.two_pow_pos _, cl_0 a⟩ 1048576 (by omega)).1
  have e : f_X12_rooms_L21 M 255 x2 0 0 0 0 = some (nI (fo (rm3 a) (a 0) (0, 0, 0)).1, nI (fo (rm3 a) (a 0) (0, 0, 0)).2.1) := e
  obtain ⟨h1, h2, h3⟩ := rm3_fo a (a 0)
  rw [e, h1, h2]
theorem call_rooms {M : Mem} (hI : Inv M) (a1 a2 : Int32) (h2 : a2 = 0 ∨ a2 = 1) : ∃ (r : Int32) (M1 M2 : Mem), (f_X11_rooms M 1 a1 a2 = some r ∧ M1 = M) ∧ shp M1 255 = some (.inl 12) ∧ f_X12_rooms M1 255 a1 a2 = some (r, M2) ∧ Inv M2 := by
  have hS := hI.1
  exact qp hI a1 (fC := f_X11_rooms M 1 a1 a2) (fM := fun M => f_X12_rooms M 255 a1 a2) (bad := -1) (fun e1 e2 => ⟨by simp [f_X11_rooms, d_r0 hS, t_ob hS, e1], by simp [f_X12_rooms, ob_at (m_shp hS), e2]⟩) (fun o a M2 ho hO e1 hC e3 hM => by
    by_cases h0 : a2 = 0
    · exact ⟨_, by simp only [f_X11_rooms, d_r0 hS, t_ob hS, e1, bb_some, if_neg ho, if_pos h0, ob_at (co_shp hC), c_rcount hC hO]; rfl, M2, by simp [f_X12_rooms, ob_at (m_shp hS), e3, mo_rooms hM hO, h0], qf_refl⟩
    · exact ⟨_, by simp only [f_X11_rooms, d_r0 hS, t_ob hS, e1, bb_some, if_neg ho, if_neg h0, ob_at (co_shp hC), c_large hC hO]; rfl, M2, by simp [f_X12_rooms, ob_at (m_shp hS), e3, mo_rooms hM hO, h0], qf_refl⟩)
