/-! a day as it is played -/
def Fg (S : Nat → Nat → Prop) (M M' : Mem) : Prop := (Sk M → Sk M') ∧ ∀ n k, ¬ S n k → M'.1 n k = M.1 n k
theorem fg_fr {S : Nat → Nat → Prop} {M M' : Mem} (h : Fr S M M') : Fg S M M' := ⟨fr_sk h, h.2⟩
theorem fg_trans {S : Nat → Nat → Prop} {M M' M'' : Mem} (h : Fg S M M') (h' : Fg S M' M'') : Fg S M M'' := ⟨fun hS => h'.1 (h.1 hS), fun n k hn => (h'.2 n k hn).trans (h.2 n k hn)⟩
theorem fg_q {S : Nat → Nat → Prop} {M M' : Mem} (h : Fg S M M') (hs : ∀ n k, S n k → ¬ zT n) : Qf M M' := ⟨h.1, fun n k hn => h.2 n k (fun hh => hs n k hh hn)⟩
theorem co_fg {S : Nat → Nat → Prop} {M M' : Mem} {o : Nat} {a : Nat → Nat} (h : CO M o a) (hF : Fg S M M') (hS : ∀ n k, S n k → n < o ∨ o + 10 < n) : CO M' o a :=
  ⟨hF.1 h.1, h.2.1, oc_cong (fun n k h1 h2 => hF.2 n k (fun hh => by have := hS n k hh; omega)) h.2.2⟩
theorem sf_cg {M M' : Mem} {f o : Nat} {a : Nat → Nat} (hf : flO f) (hC : CO M o a) (hF : Fg (SF f) M M') : CO M' o a := co_fg hC hF (fun q k h => by
  have := hC.2.1; unfold SF at h; unfold flO at hf; omega)
theorem sf_cd {M M' : Mem} {f q : Nat} {b : Nat → Nat} (hf : flO f) (hC : CD M q b) (hF : Fg (SF f) M M') : CD M' q b := by
  obtain ⟨h1, h2, h3, h4⟩ := hC
  have key : ∀ n k, n < 46 → M'.1 n k = M.1 n k := fun n k hn => hF.2 n k (fun hh => by unfold SF at hh; unfold flO at hf; omega)
  refine ⟨hF.1 h1, h2, ?_, fun k hk => ?_⟩
  · rw [key _ _ (by omega)]; exact h3
  · rw [key _ _ (by omega), key _ _ (by omega)]; exact h4 k hk
theorem sfg_q {M M' : Mem} {f : Nat} (hf : flO f) (h : Fg (SF f) M M') : Qf M M' := fg_q h (fun q k hh => by unfold SF at hh; unfold flO at hf; unfold zT; omega)
/-- all are there, nothing has rung -/
def us (a : Nat → Nat) : Nat → Nat := fun k => if k = 4 then 2 ^ a 0 - 1 else 0
theorem rt_mut : ∀ q ∈ refTab, ¬ ((q.1 = 68 ∨ q.1 = 109) ∧ q.2.1 = 3) := by decide +kernel
theorem wR_sk {M : Mem} {f o : Nat} (hS : Sk M) (hf : flO f) : Sk (wR M f 3 o) := by
  refine ⟨hS.1, fun q hq => ?_⟩
  show (if q.1 = f ∧ q.2.1 = 3 then o else M.2.2.1 q.1 q.2.1) = _
  rw [if_neg (fun h => rt_mut q hq ⟨by unfold flO at hf; omega, h.2⟩)]
  exact hS.2 q hq
theorem us_ok {a : Nat → Nat} : FOk a 0 (us a) := by
  have := Nat.two_pow_pos (a 0)
  have := Nat.two_pow_pos (a 1)
  refine ⟨⟨by show 2 ^ a 0 - 1 < 2 ^ a 0; omega, by show 0 < 2 ^ a 1; omega, by show 0 ≤ 99 * 0; omega⟩, fun d hd => ?_, fun d _ hd => ?_⟩
  · unfold us; rw [if_neg (by omega), if_neg (by omega)]; omega
  · unfold us; rw [if_neg (by omega), if_neg (by omega)]; exact ⟨rfl, rfl⟩
theorem c_begin {M : Mem} {f o : Nat} {a : Nat → Nat} (hC : CO M o a) (hO : OkO a) (hf : flO f) : ∃ M', f_X2_begin M f o = some M' ∧ FC M' f o (us a) ∧ Fg (SF f) M M' := by
  have h8 := hO.1.1
  have hS := hC.1
  have hS1 : Sk (wR M f 3 o) := wR_sk hS hf
  have hC1 : CO (wR M f 3 o) o a := ⟨hS1, hC.2.1, oc_cong (fun n k _ _ => rfl) hC.2.2⟩
  have sh : ∀ {N : Mem}, Sk N → shp N f = some (.inl 2) := fun h => (fl_shp h hf).1
  let N := wI (wI (wI (wI (wI (wI (wI (wR M f 3 o) f 4 (nI (2 ^ a 0 - 1))) f 0 0) f 5 0) f 6 0) f 1 0) f 2 0) f 7 0
  have hSN : Sk N := hS1
  have fN : Fr (SF f) (wR M f 3 o) N := fr_put (fr_put (fr_put (fr_put (fr_put (fr_put (fr_wI (Or.inl ⟨rfl, by omega⟩)) (Or.inl ⟨rfl, by omega⟩)) (Or.inl ⟨rfl, by omega⟩)) (Or.inl ⟨rfl, by omega⟩)) (Or.inl ⟨rfl, by omega⟩)) (Or.inl ⟨rfl, by omega⟩)) (Or.inl ⟨rfl, by omega⟩)
  have rN : ∀ k, k < 8 → k ≠ 3 → N.1 f k = nI (us a k) := fun k hk h3 => by
    rcases (show k = 0 ∨ k = 1 ∨ k = 2 ∨ k = 4 ∨ k = 5 ∨ k = 6 ∨ k = 7 by omega) with rfl | rfl | rfl | rfl | rfl | rfl | rfl <;> simp [N, wI, us, nI_0]
  obtain ⟨B, eB, zB, fB⟩ := iter_rel (f := fun s : Int32 × Mem => f_X2_begin_B45 s.2 f s.1) 8 (fun i s => s.1 = nI i ∧ (∀ d, d < i → s.2.1 (f + 12) d = 0 ∧ s.2.1 (f + 13) d = 0 ∧ s.2.1 (f + 14) d = 0) ∧ Fr (fun q _ => f + 12 ≤ q ∧ q ≤ f + 14) N s.2) (fun r => (∀ d, d < 8 → r.1 (f + 12) d = 0 ∧ r.1 (f + 13) d = 0 ∧ r.1 (f + 14) d = 0) ∧ Fr (fun q _ => f + 12 ≤ q ∧ q ≤ f + 14) N r) (fun i s hi ⟨hs1, hs2, hs3⟩ => by
    obtain ⟨s1, s2⟩ := s
    have hs1 : s1 = nI i := hs1
    subst hs1
    have hs3 : Fr (fun q _ => f + 12 ≤ q ∧ q ≤ f + 14) N s2 := hs3
    have hs2 : ∀ d, d < i → s2.1 (f + 12) d = 0 ∧ s2.1 (f + 13) d = 0 ∧ s2.1 (f + 14) d = 0 := hs2
    have hS2 := fr_sk hs3 hSN
    have w1 : sI s2 0 (f + 12) (nI i) 0 = some (wI s2 (f + 12) i 0) := by rw [sI_at (fl_shp hS2 hf).2.1 hi (by omega), nar0]
    have w2 : sI (wI s2 (f + 12) i 0) 0 (f + 13) (nI i) 0 = some (wI (wI s2 (f + 12) i 0) (f + 13) i 0) := by rw [sI_at (fl_shp (M := wI s2 (f + 12) i 0) hS2 hf).2.2.1 hi (by omega), nar0]
    have w3 : sI (wI (wI s2 (f + 12) i 0) (f + 13) i 0) 0 (f + 14) (nI i) 0 = some (wI (wI (wI s2 (f + 12) i 0) (f + 13) i 0) (f + 14) i 0) := by rw [sI_at (fl_shp (M := wI (wI s2 (f + 12) i 0) (f + 13) i 0) hS2 hf).2.2.2 hi (by omega), nar0]
    refine Or.inl ⟨(nI (i + 1), wI (wI (wI s2 (f + 12) i 0) (f + 13) i 0) (f + 14) i 0), ?_, rfl, fun d hd => ?_, fr_put (fr_put (fr_put hs3 ⟨by omega, by omega⟩) ⟨by omega, by omega⟩) ⟨by omega, by omega⟩⟩
    · show f_X2_begin_B45 s2 f (nI i) = _
      unfold f_X2_begin_B45
      rw [if_neg (show ¬ 8 ≤ nI i from nI_ge (b := 8) hi (by omega)), (fl_r hS2 hf).1, bb_some, w1, bb_some, (fl_r (M := wI s2 (f + 12) i 0) hS2 hf).2.1, bb_some, w2, bb_some, (fl_r (M := wI (wI s2 (f + 12) i 0) (f + 13) i 0) hS2 hf).2.2.1, bb_some, w3, bb_some, nI_1]
    · by_cases e : d = i
      · subst e
        exact ⟨by simp [wI], by simp [wI], by simp [wI]⟩
      · obtain ⟨h1, h2, h3⟩ := hs2 d (by omega)
        exact ⟨by simp [wI, e, h1], by simp [wI, e, h2], by simp [wI, e, h3]⟩) (fun s ⟨hs1, hs2, hs3⟩ => by
    obtain ⟨s1, s2⟩ := s
    have hs1 : s1 = nI 8 := hs1
    subst hs1
    exact ⟨s2, by simp [f_X2_begin_B45, show nI 8 = 8 from rfl], hs2, hs3⟩) 1048576 0 (0, N) (by omega) ⟨rfl, fun d hd => absurd hd (by omega), fr_refl⟩ (by omega)
  have eB : f_X2_begin_L45 N f 0 = some B := eB
  refine ⟨B, ?_, ⟨⟨fr_sk fB hSN, hf, ?_⟩, fun k hk h3 => ?_, fun d hd => ?_⟩, ⟨fun _ => fr_sk fB hSN, fun n k hn => ?_⟩⟩
  · unfold f_X2_begin
    rw [pR_at (fl_shp hS hf).1, bb_some, ob_at (co_shp hC1), bb_some, c_every hC1 hO, bb_some, pI_at (sh hS1), bb_some, pI_at (sh (N := wI (wR M f 3 o) f 4 (nI (2 ^ a 0 - 1))) hS1), bb_some, pI_at (sh (N := wI (wI (wR M f 3 o) f 4 (nI (2 ^ a 0 - 1))) f 0 0) hS1), bb_some, pI_at (sh (N := wI (wI (wI (wR M f 3 o) f 4 (nI (2 ^ a 0 - 1))) f 0 0) f 5 0) hS1), bb_some, pI_at (sh (N := wI (wI (wI (wI (wR M f 3 o) f 4 (nI (2 ^ a 0 - 1))) f 0 0) f 5 0) f 6 0) hS1), bb_some, pI_at (sh (N := wI (wI (wI (wI (wI (wR M f 3 o) f 4 (nI (2 ^ a 0 - 1))) f 0 0) f 5 0) f 6 0) f 1 0) hS1), bb_some, pI_at (sh (N := wI (wI (wI (wI (wI (wI (wR M f 3 o) f 4 (nI (2 ^ a 0 - 1))) f 0 0) f 5 0) f 6 0) f 1 0) f 2 0) hS1), bb_some]
    show (f_X2_begin_L45 N f 0).bind _ = _
    rw [eB, bb_some]
  · rw [show B.2 = N.2 from fB.1]
    show (if f = f ∧ 3 = 3 then o else M.2.2.1 f 3) = o
    rw [if_pos ⟨rfl, rfl⟩]
  · rw [fB.2 f k (by omega)]; exact rN k hk h3
  · obtain ⟨h1, h2, h3⟩ := zB d hd
    have z : ∀ j, 10 ≤ j → nI (us a j) = 0 := fun j hj => by unfold us; rw [if_neg (by omega), nI_0]
    rw [h1, h2, h3, z _ (by omega), z _ (by omega), z _ (by omega)]
    exact ⟨rfl, rfl, rfl⟩
  · rw [fB.2 n k (fun hh => hn (Or.inr ⟨hh.1, by have := hh.2; omega⟩)), fN.2 n k hn]; rfl
def plf (a dy : Nat → Nat) (i : Nat) (p : Bool × Nat × (Nat → Nat)) : Bool × Nat × (Nat → Nat) := if p.1 = true then p else match dod a (dy (1 + 2 * i)) (dy (2 + 2 * i)) p.2.2 with
  | none => (true, p.2.1, p.2.2)
  | some u' => (false, p.2.1 + 1, u')
def plr (a dy : Nat → Nat) (k : Nat) : Bool × Nat × (Nat → Nat) := fo (plf a dy) k (false, 0, us a)
theorem plr_st (a dy : Nat → Nat) (k : Nat) : plr a dy (k + 1) = plf a dy k (plr a dy k) := rfl
theorem plr_stop {a dy : Nat → Nat} {i : Nat} (h : (plr a dy i).1 = true) : ∀ j, i ≤ j → plr a dy j = plr a dy i := by
  intro j
  induction j with
  | zero => intro hj; rw [show i = 0 by omega]
  | succ j ih =>
    intro hj
    by_cases e : i = j + 1
    · rw [e]
    · have := ih (by omega)
      rw [plr_st, this, plf, if_pos h]
theorem plr_ok {a dy : Nat → Nat} (hO : OkO a) : ∀ k, k ≤ 400 → FOk a k (plr a dy k).2.2 ∧ (plr a dy k).2.1 ≤ k ∧ ((plr a dy k).1 = false → (plr a dy k).2.1 = k) := by
  intro k
  induction k with
  | zero => intro _; exact ⟨us_ok, Nat.le_refl _, fun _ => rfl⟩
  | succ k ih =>
    intro hk
    obtain ⟨h1, h2, h3⟩ := ih (by omega)
    rw [plr_st]
    unfold plf
    by_cases hb : (plr a dy k).1 = true
    · rw [if_pos hb]
      exact ⟨fok_up (by omega) h1, by omega, fun h => by rw [hb] at h; cases h⟩
    · rw [if_neg hb]
      have h3 := h3 (by simpa using hb)
      cases e : dod a (dy (1 + 2 * k)) (dy (2 + 2 * k)) (plr a dy k).2.2 with
      | none => exact ⟨fok_up (by omega) h1, by show (plr a dy k).2.1 ≤ k + 1; omega, fun h => by cases h⟩
      | some u' => exact ⟨fok_dod hO (by omega) h1 e, by show (plr a dy k).2.1 + 1 ≤ k + 1; omega, fun _ => by show (plr a dy k).2.1 + 1 = k + 1; omega⟩
theorem imin_at {x y : Nat} (hx : x < 2 ^ 31) (hy : y < 2 ^ 31) : imin (nI x) (nI y) = nI (min x y) := by
  unfold imin
  by_cases h : y < x
  · rw [if_pos ((nI_ltI hy hx).mpr h), Nat.min_eq_right (by omega)]
  · rw [if_neg (fun hh => h ((nI_ltI hy hx).mp hh)), Nat.min_eq_left (by omega)]
theorem c_play {M : Mem} {f o q k : Nat} {a dy : Nat → Nat} (hC : CO M o a) (hO : OkO a) (hD : CD M q dy) (hDy : OkD dy) (hf : flO f) (hk : k < 2 ^ 31) : ∃ M', f_X2_playDay M f o q (nI k) = some (nI (plr a dy (min k (dy 0))).2.1, M') ∧ FC M' f o (plr a dy (min k (dy 0))).2.2 ∧ Fg (SF f) M M' := by
  have h40 := hDy.1
  obtain ⟨A, eA, hA, fA⟩ := c_begin hC hO hf
  have hCA := sf_cg hf hC fA
  have hDA := sf_cd hf hD fA
  have hL : min k (dy 0) ≤ 40 := by have := Nat.min_le_right k (dy 0); omega
  have hL2 : min k (dy 0) ≤ dy 0 := Nat.min_le_right k (dy 0)
  generalize hLe : min k (dy 0) = L at hL hL2
  obtain ⟨r, e, h⟩ := iter_rel (f := fun s : Int32 × Mem => f_X2_playDay_B18 s.2 f q (nI L) s.1) L (fun i s => s.1 = nI i ∧ (plr a dy i).1 = false ∧ FC s.2 f o (plr a dy i).2.2 ∧ Fr (SF f) A s.2) (fun r => (∃ M', r = .inl (nI (plr a dy L).2.1, M') ∧ FC M' f o (plr a dy L).2.2 ∧ Fr (SF f) A M') ∨ (∃ M', r = .inr M' ∧ (plr a dy L).2.1 = L ∧ FC M' f o (plr a dy L).2.2 ∧ Fr (SF f) A M')) (fun i s hi ⟨hs1, hs2, hs3, hs4⟩ => by
    obtain ⟨s1, s2⟩ := s
    have hs1 : s1 = nI i := hs1
    subst hs1
    have hs3 : FC s2 f o (plr a dy i).2.2 := hs3
    have hs4 : Fr (SF f) A s2 := hs4
    have hC2 := sf_co hf hCA hs4
    have hD2 := sf_cd hf hDA (fg_fr hs4)
    obtain ⟨d1, d2⟩ := hDy.2 i (by omega)
    obtain ⟨ok1, ok2, ok3⟩ := plr_ok (dy := dy) hO i (by omega)
    have ok3 := ok3 hs2
    obtain ⟨B, eB, hB, fB⟩ := c_act hC2 hO hs3 ok1 (by omega) d1 d2
    have st : plr a dy (i + 1) = (match dod a (dy (1 + 2 * i)) (dy (2 + 2 * i)) (plr a dy i).2.2 with | none => (true, (plr a dy i).2.1, (plr a dy i).2.2) | some u' => (false, (plr a dy i).2.1 + 1, u')) := by
      rw [plr_st, plf, if_neg (by rw [hs2]; decide)]
    show (∃ s', f_X2_playDay_B18 s2 f q (nI L) (nI i) = some (.inl s') ∧ _) ∨ (∃ r, f_X2_playDay_B18 s2 f q (nI L) (nI i) = some (.inr r) ∧ _)
    unfold f_X2_playDay_B18
    rw [if_neg (nI_ge hi (by omega)), (cd_r hD2).1, bb_some, cd_deed hD2 hDy (by omega), bb_some, (cd_r hD2).2, bb_some, cd_num hD2 hDy (by omega), bb_some, fc_ob hs3, bb_some, eB, bb_some]
    cases ed : dod a (dy (1 + 2 * i)) (dy (2 + 2 * i)) (plr a dy i).2.2 with
    | none =>
      rw [ed] at hB st
      have hB : FC B f o (plr a dy i).2.2 := hB
      have hp : plr a dy L = (true, (plr a dy i).2.1, (plr a dy i).2.2) := by
        rw [plr_stop (i := i + 1) (by rw [st]) L (by omega), st]
      rw [hp, ok3]
      exact Or.inr ⟨_, rfl, Or.inl ⟨B, rfl, hB, fr_trans hs4 fB⟩⟩
    | some u' =>
      rw [ed] at hB st
      have hB : FC B f o u' := hB
      refine Or.inl ⟨(nI (i + 1), B), ?_, rfl, by rw [st], by rw [st]; exact hB, fr_trans hs4 fB⟩
      show (if (1 : Int32) = 0 then _ else _) = _
      rw [if_neg (by decide), nI_1]) (fun s ⟨hs1, hs2, hs3, hs4⟩ => by
    obtain ⟨s1, s2⟩ := s
    have hs1 : s1 = nI L := hs1
    subst hs1
    obtain ⟨ok1, ok2, ok3⟩ := plr_ok (dy := dy) hO L (by omega)
    exact ⟨.inr s2, by simp [f_X2_playDay_B18], Or.inr ⟨s2, rfl, ok3 hs2, hs3, hs4⟩⟩) 1048576 0 (0, A) (by omega) ⟨rfl, rfl, hA, fr_refl⟩ (by omega)
  have e : f_X2_playDay_L18 A f q (nI L) 0 = some r := e
  have im : imin (nI k) (nI (dy 0)) = nI L := by rw [imin_at hk (by omega), hLe]
  rcases h with ⟨M', rfl, h1, h2⟩ | ⟨M', rfl, h0, h1, h2⟩
  · refine ⟨M', ?_, h1, fg_trans fA (fg_fr h2)⟩
    unfold f_X2_playDay
    rw [ob_at (fl_shp hC.1 hf).1, bb_some, eA, bb_some, cd_g0 hDA, bb_some, im, e, bb_some]
  · refine ⟨M', ?_, h1, fg_trans fA (fg_fr h2)⟩
    unfold f_X2_playDay
    rw [ob_at (fl_shp hC.1 hf).1, bb_some, eA, bb_some, cd_g0 hDA, bb_some, im, e, bb_some, h0]
def SB : Nat → Nat → Prop := fun q k => (q = 255 ∧ (16 ≤ k ∧ k ≤ 18 ∨ 20 ≤ k ∧ k ≤ 27)) ∨ q = 259 ∨ q = 260 ∨ q = 261 ∨ q = 262
theorem sb_q {M M' : Mem} (h : Fr SB M M') : Qf M M' := fr_q h (fun q k hh => by unfold SB at hh; unfold zT; omega)
theorem sd_sb {M M' : Mem} (h : Fr SD M M') : Fr SB M M' := fr_mono h (fun q k hh => by unfold SD at hh; unfold SB; omega)
theorem sb_md {M M' : Mem} {b : Nat → Nat} (hD : MD M b) (hF : Fr SB M M') : MD M' b := by
  obtain ⟨h1, p, h2, h3, h4⟩ := hD
  exact ⟨fr_sk hF h1, p, h2, by rw [hF.2 255 19 (by unfold SB; omega)]; exact h3, ms_cong (fun k => hF.2 256 k (by unfold SB; omega)) h4⟩
theorem mo_begins {M : Mem} {a : Nat → Nat} (hM : MO M a) (hO : OkO a) : ∃ M', f_X12_begins M 255 = some M' ∧ MF M' a (us a) ∧ M'.1 255 27 = 0 ∧ Fr SB M M' := by
  have h8 := hO.1.1
  obtain ⟨A, eA, hA, fA⟩ := mo_told hM hO
  have z8 : ∀ j, j < 8 → A.1 259 j = 0 := by
    obtain ⟨A', eA', hz⟩ := mo_told8 hM
    rw [eA] at eA'
    cases eA'
    exact hz
  have hSA := hA.1.1
  have sh : ∀ {N : Mem}, Sk N → shp N 255 = some (.inl 12) := fun h => m_shp h
  let N := wI (wI (wI (wI (wI (wI (wI (wI A 255 20 (nI (2 ^ a 0 - 1))) 255 21 0) 255 22 0) 255 23 0) 255 24 0) 255 25 0) 255 26 0) 255 27 0
  have hSN : Sk N := hSA
  have fN : Fr SB A N := fr_put (fr_put (fr_put (fr_put (fr_put (fr_put (fr_put (fr_wI (Or.inl ⟨rfl, by omega⟩)) (Or.inl ⟨rfl, by omega⟩)) (Or.inl ⟨rfl, by omega⟩)) (Or.inl ⟨rfl, by omega⟩)) (Or.inl ⟨rfl, by omega⟩)) (Or.inl ⟨rfl, by omega⟩)) (Or.inl ⟨rfl, by omega⟩)) (Or.inl ⟨rfl, by omega⟩)
  have fN2 : Fr (fun q k => q = 255 ∧ 20 ≤ k) A N := fr_put (fr_put (fr_put (fr_put (fr_put (fr_put (fr_put (fr_wI ⟨rfl, by omega⟩) ⟨rfl, by omega⟩) ⟨rfl, by omega⟩) ⟨rfl, by omega⟩) ⟨rfl, by omega⟩) ⟨rfl, by omega⟩) ⟨rfl, by omega⟩) ⟨rfl, by omega⟩
  have fA' : Fr SB M A := fr_mono fA (fun q k hh => by unfold ST at hh; unfold SB; omega)
  have rN : ∀ k, k < 8 → k ≠ 3 → N.1 255 (mk k) = nI (us a k) := fun k hk h3 => by
    rcases (show k = 0 ∨ k = 1 ∨ k = 2 ∨ k = 4 ∨ k = 5 ∨ k = 6 ∨ k = 7 by omega) with rfl | rfl | rfl | rfl | rfl | rfl | rfl <;> simp [N, wI, us, nI_0, mk]
  have r27 : N.1 255 27 = 0 := by simp [N, wI]
  obtain ⟨B, eB, zB, fB⟩ := iter_rel (f := fun s : Int32 × Mem => f_X12_begins_B53 s.2 255 s.1) 8 (fun i s => s.1 = nI i ∧ (∀ d, d < i → s.2.1 261 d = 0 ∧ s.2.1 262 d = 0) ∧ Fr (fun q _ => q = 261 ∨ q = 262) N s.2) (fun r => (∀ d, d < 8 → r.1 261 d = 0 ∧ r.1 262 d = 0) ∧ Fr (fun q _ => q = 261 ∨ q = 262) N r) (fun i s hi ⟨hs1, hs2, hs3⟩ => by
    obtain ⟨s1, s2⟩ := s
    have hs1 : s1 = nI i := hs1
    subst hs1
    have hs3 : Fr (fun q _ => q = 261 ∨ q = 262) N s2 := hs3
    have hs2 : ∀ d, d < i → s2.1 261 d = 0 ∧ s2.1 262 d = 0 := hs2
    have hS2 := fr_sk hs3 hSN
    have w1 : sI s2 0 261 (nI i) 0 = some (wI s2 261 i 0) := by rw [sI_at (m_s261 hS2) hi (by omega), nar0]
    have w2 : sI (wI s2 261 i 0) 0 262 (nI i) 0 = some (wI (wI s2 261 i 0) 262 i 0) := by rw [sI_at (m_s262 (M := wI s2 261 i 0) hS2) hi (by omega), nar0]
    refine Or.inl ⟨(nI (i + 1), wI (wI s2 261 i 0) 262 i 0), ?_, rfl, fun d hd => ?_, fr_put (fr_put hs3 (Or.inl rfl)) (Or.inr rfl)⟩
    · show f_X12_begins_B53 s2 255 (nI i) = _
      unfold f_X12_begins_B53
      rw [if_neg (show ¬ 8 ≤ nI i from nI_ge (b := 8) hi (by omega)), m_r28 hS2, bb_some, w1, bb_some, m_r29 (M := wI s2 261 i 0) hS2, bb_some, w2, bb_some, nI_1]
    · by_cases e : d = i
      · subst e
        exact ⟨by simp [wI], by simp [wI]⟩
      · obtain ⟨h1, h2⟩ := hs2 d (by omega)
        exact ⟨by simp [wI, e, h1], by simp [wI, e, h2]⟩) (fun s ⟨hs1, hs2, hs3⟩ => by
    obtain ⟨s1, s2⟩ := s
    have hs1 : s1 = nI 8 := hs1
    subst hs1
    exact ⟨s2, by simp [f_X12_begins_B53, show nI 8 = 8 from rfl], hs2, hs3⟩) 1048576 0 (0, N) (by omega) ⟨rfl, fun d hd => absurd hd (by omega), fr_refl⟩ (by omega)
  have eB : f_X12_begins_L53 N 255 0 = some B := eB
  have fB' : Fr SB N B := fr_mono fB (fun q k hh => by unfold SB; omega)
  have hRN : MR N a (kdO a) (fun _ => 0) := mr_fr hA fN2 (fun q k hh => by omega)
  have hRB : MR B a (kdO a) (fun _ => 0) := mr_fr hRN fB (fun q k hh => by omega)
  have z : ∀ j, 10 ≤ j → us a j = 0 := fun j hj => by unfold us; rw [if_neg (by omega)]
  refine ⟨B, ?_, ⟨⟨hRB.1, fun s hs => ?_⟩, fun k hk h3 => ?_, fun d hd => ?_⟩, ?_, fr_trans fA' (fr_trans fN fB')⟩
  · unfold f_X12_begins
    rw [mo_ob hM, bb_some, eA, bb_some, mo_g12 hA.1, bb_some, all_sl (by omega), pI_at (sh hSA), bb_some, pI_at (sh (N := wI A 255 20 (nI (2 ^ a 0 - 1))) hSA), bb_some, pI_at (sh (N := wI (wI A 255 20 (nI (2 ^ a 0 - 1))) 255 21 0) hSA), bb_some, pI_at (sh (N := wI (wI (wI A 255 20 (nI (2 ^ a 0 - 1))) 255 21 0) 255 22 0) hSA), bb_some, pI_at (sh (N := wI (wI (wI (wI A 255 20 (nI (2 ^ a 0 - 1))) 255 21 0) 255 22 0) 255 23 0) hSA), bb_some, pI_at (sh (N := wI (wI (wI (wI (wI A 255 20 (nI (2 ^ a 0 - 1))) 255 21 0) 255 22 0) 255 23 0) 255 24 0) hSA), bb_some, pI_at (sh (N := wI (wI (wI (wI (wI (wI A 255 20 (nI (2 ^ a 0 - 1))) 255 21 0) 255 22 0) 255 23 0) 255 24 0) 255 25 0) hSA), bb_some, pI_at (sh (N := wI (wI (wI (wI (wI (wI (wI A 255 20 (nI (2 ^ a 0 - 1))) 255 21 0) 255 22 0) 255 23 0) 255 24 0) 255 25 0) 255 26 0) hSA), bb_some]
    show (f_X12_begins_L53 N 255 0).bind _ = _
    rw [eB, bb_some]
  · have := hRB.2 s hs
    dsimp only at this ⊢
    rw [z _ (by omega)]
    exact this
  · have r := mk_r k
    rw [fB.2 255 _ (by omega)]; exact rN k hk h3
  · obtain ⟨h1, h2⟩ := zB d hd
    rw [h1, h2, fB.2 259 _ (by omega), fN2.2 259 _ (by omega), z8 d hd, z _ (by omega), z _ (by omega), z _ (by omega), nI_0]
    exact ⟨rfl, rfl, rfl⟩
  · rw [fB.2 255 _ (by omega)]; exact r27
theorem mo_runs {M : Mem} {k : Nat} {a dy : Nat → Nat} (hM : MO M a) (hO : OkO a) (hD : MD M dy) (hDy : OkD dy) (hk : k < 2 ^ 31) : ∃ M', f_X12_runs M 255 (nI k) = some M' ∧ MF M' a (plr a dy (min k (dy 0))).2.2 ∧ M'.1 255 27 = nI (plr a dy (min k (dy 0))).2.1 ∧ Fr SB M M' := by
  have h40 := hDy.1
  obtain ⟨A, eA, hA, zA, fA⟩ := mo_begins hM hO
  have hDA := sb_md hD fA
  have hL : min k (dy 0) ≤ 40 := by have := Nat.min_le_right k (dy 0); omega
  have hL2 : min k (dy 0) ≤ dy 0 := Nat.min_le_right k (dy 0)
  have hL3 : min k (dy 0) ≤ k := Nat.min_le_left k (dy 0)
  have hL4 : min k (dy 0) = k ∨ min k (dy 0) = dy 0 := by omega
  generalize min k (dy 0) = L at hL hL2 hL3 hL4
  obtain ⟨B, e, h1, h2, h3⟩ := iter_rel (f := fun s : Mem => f_X12_runs_B4 s 255 (nI k)) L (fun i s => s.1 255 27 = nI i ∧ (plr a dy i).1 = false ∧ MF s a (plr a dy i).2.2 ∧ Fr SB A s) (fun r => MF r a (plr a dy L).2.2 ∧ r.1 255 27 = nI (plr a dy L).2.1 ∧ Fr SB A r) (fun i s hi ⟨hs1, hs2, hs3, hs4⟩ => by
    have hD2 := sb_md hDA hs4
    obtain ⟨p, p1, p2⟩ := md_rd hD2
    have p0 := p2 0 (by omega)
    rw [Nat.add_zero] at p0
    have pa := p2 (1 + 2 * i) (by omega)
    have pb := p2 (2 + 2 * i) (by omega)
    have g27 : gI s 12 255 27 = some (nI i) := by rw [gI_at (m_shp hs3.1.1.1), hs1]
    have ea : nI p + 1 + 2 * nI i = nI (p + (1 + 2 * i)) := by
      show nI p + nI 1 + nI 2 * nI i = _
      rw [pk_mul, nI_add, nI_add, Nat.add_assoc]
    have eb : nI p + 2 + 2 * nI i = nI (p + (2 + 2 * i)) := by
      show nI p + nI 2 + nI 2 * nI i = _
      rw [pk_mul, nI_add, nI_add, Nat.add_assoc]
    obtain ⟨d1, d2⟩ := hDy.2 i (by omega)
    obtain ⟨ok1, ok2, ok3⟩ := plr_ok (dy := dy) hO i (by omega)
    have ok3 := ok3 hs2
    obtain ⟨B, eB, hB, fB⟩ := mo_does hs3 hO ok1 (by omega) d1 d2
    have st : plr a dy (i + 1) = (match dod a (dy (1 + 2 * i)) (dy (2 + 2 * i)) (plr a dy i).2.2 with | none => (true, (plr a dy i).2.1, (plr a dy i).2.2) | some u' => (false, (plr a dy i).2.1 + 1, u')) := by
      rw [plr_st, plf, if_neg (by rw [hs2]; decide)]
    have b27 : B.1 255 27 = nI i := by rw [fB.2 255 27 (by unfold SD; omega), hs1]
    have sbB : Fr SB A B := fr_trans hs4 (sd_sb fB)
    show (∃ s', f_X12_runs_B4 s 255 (nI k) = some (.inl s') ∧ _) ∨ (∃ r, f_X12_runs_B4 s 255 (nI k) = some (.inr r) ∧ _)
    unfold f_X12_runs_B4
    rw [g27, bb_some, if_neg (nI_ge (show i < k by omega) hk), bb_some, m_r0 hs3.1.1.1, bb_some, p1, bb_some, p0, bb_some, if_neg (nI_ge (show i < dy 0 by omega) (by omega)), bb_some, bb_some, bb_some, ea, pa, bb_some, bb_some, bb_some, bb_some, eb, pb, bb_some, mo_ob hs3.1.1, bb_some, eB, bb_some]
    cases ed : dod a (dy (1 + 2 * i)) (dy (2 + 2 * i)) (plr a dy i).2.2 with
    | none =>
      rw [ed] at hB st
      have hB : MF B a (plr a dy i).2.2 := hB
      have hp : plr a dy L = (true, (plr a dy i).2.1, (plr a dy i).2.2) := by
        rw [plr_stop (i := i + 1) (by rw [st]) L (by omega), st]
      rw [hp]
      exact Or.inr ⟨B, rfl, hB, by rw [b27]; show nI i = nI (plr a dy i).2.1; rw [ok3], sbB⟩
    | some u' =>
      rw [ed] at hB st
      have hB : MF B a u' := hB
      have gB : gI B 12 255 27 = some (nI i) := by rw [gI_at (m_shp hB.1.1.1), b27]
      have fW : Fr (fun q j => q = 255 ∧ j = 27) B (wI B 255 27 (nI (i + 1))) := fr_wI ⟨rfl, rfl⟩
      refine Or.inl ⟨wI B 255 27 (nI (i + 1)), ?_, wI_same _ _ _ _, by rw [st], by rw [st]; exact mf_fr hB fW (fun q j hh => by omega), fr_put sbB (Or.inl ⟨rfl, by omega⟩)⟩
      show (if (1 : Int32) = 0 then _ else (gI B 12 255 27).bind fun v18 => (pI B 12 255 27 (v18 + 1)).bind fun M19 => some (Sum.inl M19)) = _
      rw [if_neg (by decide), gB, bb_some, nI_1, pI_at (m_shp hB.1.1.1), bb_some]) (fun s ⟨hs1, hs2, hs3, hs4⟩ => by
    have hD2 := sb_md hDA hs4
    obtain ⟨p, p1, p2⟩ := md_rd hD2
    have p0 := p2 0 (by omega)
    rw [Nat.add_zero] at p0
    have g27 : gI s 12 255 27 = some (nI L) := by rw [gI_at (m_shp hs3.1.1.1), hs1]
    obtain ⟨ok1, ok2, ok3⟩ := plr_ok (dy := dy) hO L (by omega)
    refine ⟨s, ?_, hs3, by rw [hs1, ok3 hs2], hs4⟩
    unfold f_X12_runs_B4
    rw [g27, bb_some]
    rcases hL4 with h | h
    · rw [if_pos (nI_le (by omega) (by omega))]
    · rw [bb_some, m_r0 hs3.1.1.1, bb_some, p1, bb_some, p0, bb_some, if_pos (show nI (dy 0) ≤ nI L from nI_le (by omega) (by omega))]
      split <;> rfl) 1048576 0 A (by omega) ⟨zA, rfl, hA, fr_refl⟩ (by omega)
  have e : f_X12_runs_L4 A 255 (nI k) = some B := e
  exact ⟨B, by rw [f_X12_runs, mo_ob hM, bb_some, eA, bb_some, e, bb_some], h1, h2, fr_trans fA h3⟩
