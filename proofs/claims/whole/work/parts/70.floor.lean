/-! a day, deed by deed: the class -/
def up (u : Nat → Nat) (k v : Nat) : Nat → Nat := fun j => if j = k then v else u j
theorem up_s (u : Nat → Nat) (k v : Nat) : up u k v k = v := if_pos rfl
theorem up_n (u : Nat → Nat) {k j : Nat} (v : Nat) (h : j ≠ k) : up u k v j = u j := if_neg h
def flO (f : Nat) : Prop := f = 68 ∨ f = 109
def FC (M : Mem) (f o : Nat) (u : Nat → Nat) : Prop := (Sk M ∧ flO f ∧ M.2.2.1 f 3 = o) ∧ (∀ k, k < 8 → k ≠ 3 → M.1 f k = nI (u k)) ∧ ∀ d, d < 8 → M.1 (f + 12) d = nI (u (10 + d)) ∧ M.1 (f + 13) d = nI (u (20 + d)) ∧ M.1 (f + 14) d = nI (u (30 + d))
def SF (f : Nat) : Nat → Nat → Prop := fun q k => (q = f ∧ k < 8) ∨ (f + 12 ≤ q ∧ q ≤ f + 15)
def SE (f : Nat) : Nat → Nat → Prop := fun q k => (q = f ∧ k < 8) ∨ (f + 12 ≤ q ∧ q ≤ f + 14)
theorem se_sf {M M' : Mem} {f : Nat} (h : Fr (SE f) M M') : Fr (SF f) M M' := fr_mono h (fun q k hh => by unfold SE at hh; unfold SF; omega)
theorem sf_co {M M' : Mem} {f o : Nat} {a : Nat → Nat} (hf : flO f) (hC : CO M o a) (hF : Fr (SF f) M M') : CO M' o a := co_fr hC hF (fun q k h => by
  have := hC.2.1; unfold SF at h; unfold flO at hf; omega)
theorem se_co {M M' : Mem} {f o : Nat} {a : Nat → Nat} (hf : flO f) (hC : CO M o a) (hF : Fr (SE f) M M') : CO M' o a := sf_co hf hC (se_sf hF)
theorem sf_q {M M' : Mem} {f : Nat} (hf : flO f) (h : Fr (SF f) M M') : Qf M M' := fr_q h (fun q k hh => by unfold SF at hh; unfold flO at hf; unfold zT; omega)
theorem fl_li {f : Nat} (hf : flO f) : f + 15 ∈ liL := by rcases hf with rfl | rfl <;> decide
section
variable {M : Mem} {f o : Nat} {u : Nat → Nat}
theorem fl_shp (hS : Sk M) (hf : flO f) : shp M f = some (.inl 2) ∧ shp M (f + 12) = some (.inr (0, 8)) ∧ shp M (f + 13) = some (.inr (0, 8)) ∧ shp M (f + 14) = some (.inr (0, 8)) := by
  rcases hf with rfl | rfl <;> exact ⟨sk_shp hS (by omega) rfl, sk_shp hS (by omega) rfl, sk_shp hS (by omega) rfl, sk_shp hS (by omega) rfl⟩
theorem fl_r (hS : Sk M) (hf : flO f) : gR M 2 f 9 = some (f + 12) ∧ gR M 2 f 10 = some (f + 13) ∧ gR M 2 f 11 = some (f + 14) ∧ gR M 2 f 12 = some (f + 15) := by
  have sh := (fl_shp hS hf).1
  rw [gR_at sh, gR_at sh, gR_at sh, gR_at sh]
  rcases hf with rfl | rfl
  · rw [hS.2 (68, 9, 80) (by decide), hS.2 (68, 10, 81) (by decide), hS.2 (68, 11, 82) (by decide), hS.2 (68, 12, 83) (by decide)]; exact ⟨rfl, rfl, rfl, rfl⟩
  · rw [hS.2 (109, 9, 121) (by decide), hS.2 (109, 10, 122) (by decide), hS.2 (109, 11, 123) (by decide), hS.2 (109, 12, 124) (by decide)]; exact ⟨rfl, rfl, rfl, rfl⟩
theorem fc_ob (h : FC M f o u) : ob M 2 f = some () := ob_at (fl_shp h.1.1 h.1.2.1).1
theorem fc_g (h : FC M f o u) {k : Nat} (hk : k < 8) (h3 : k ≠ 3) : gI M 2 f k = some (nI (u k)) := by rw [gI_at (fl_shp h.1.1 h.1.2.1).1, h.2.1 k hk h3]
theorem fc_o (h : FC M f o u) : gR M 2 f 3 = some o := by rw [gR_at (fl_shp h.1.1 h.1.2.1).1, h.1.2.2]
theorem fc_9 (h : FC M f o u) : gR M 2 f 9 = some (f + 12) := (fl_r h.1.1 h.1.2.1).1
theorem fc_10 (h : FC M f o u) : gR M 2 f 10 = some (f + 13) := (fl_r h.1.1 h.1.2.1).2.1
theorem fc_11 (h : FC M f o u) : gR M 2 f 11 = some (f + 14) := (fl_r h.1.1 h.1.2.1).2.2.1
theorem fc_12 (h : FC M f o u) : gR M 2 f 12 = some (f + 15) := (fl_r h.1.1 h.1.2.1).2.2.2
theorem fl_lt (hf : flO f) : f < 900 := by unfold flO at hf; omega
theorem fc_h (h : FC M f o u) {d : Nat} (hd : d < 8) : aI M 0 (f + 12) (nI d) = some (nI (u (10 + d))) := by
  have := fl_lt h.1.2.1
  rw [aI_at (fl_shp h.1.1 h.1.2.1).2.1 hd (by omega) (by omega), (h.2.2 d hd).1]
theorem fc_s (h : FC M f o u) {d : Nat} (hd : d < 8) : aI M 0 (f + 13) (nI d) = some (nI (u (20 + d))) := by
  have := fl_lt h.1.2.1
  rw [aI_at (fl_shp h.1.1 h.1.2.1).2.2.1 hd (by omega) (by omega), (h.2.2 d hd).2.1]
theorem fc_d (h : FC M f o u) {d : Nat} (hd : d < 8) : aI M 0 (f + 14) (nI d) = some (nI (u (30 + d))) := by
  have := fl_lt h.1.2.1
  rw [aI_at (fl_shp h.1.1 h.1.2.1).2.2.2 hd (by omega) (by omega), (h.2.2 d hd).2.2]
theorem fc_pg (h : FC M f o u) {k : Nat} (hk : k < 8) (h3 : k ≠ 3) (v : Nat) : pI M 2 f k (nI v) = some (wI M f k (nI v)) ∧ FC (wI M f k (nI v)) f o (up u k v) ∧ Fr (SE f) M (wI M f k (nI v)) := by
  refine ⟨pI_at (fl_shp h.1.1 h.1.2.1).1 _ _, ⟨h.1, fun j hj h3 => ?_, fun d hd => ?_⟩, fr_wI (Or.inl ⟨rfl, by omega⟩)⟩
  · rw [wI_rd]
    by_cases e : j = k
    · subst e; rw [if_pos ⟨rfl, rfl⟩, up_s]
    · rw [if_neg (by omega), up_n _ _ e]; exact h.2.1 j hj h3
  · rw [wI_rd, if_neg (by omega), wI_rd, if_neg (by omega), wI_rd, if_neg (by omega), up_n _ _ (by omega), up_n _ _ (by omega), up_n _ _ (by omega)]
    exact h.2.2 d hd
theorem fc_ph (h : FC M f o u) {d : Nat} (hd : d < 8) (v : Nat) : sI M 0 (f + 12) (nI d) (nI v) = some (wI M (f + 12) d (nI v)) ∧ FC (wI M (f + 12) d (nI v)) f o (up u (10 + d) v) ∧ Fr (SE f) M (wI M (f + 12) d (nI v)) := by
  refine ⟨by rw [sI_at (fl_shp h.1.1 h.1.2.1).2.1 hd (by omega), nar0], ⟨h.1, fun j hj h3 => ?_, fun e he => ?_⟩, fr_wI (Or.inr ⟨by omega, by omega⟩)⟩
  · rw [wI_rd, if_neg (by omega), up_n _ _ (by omega)]; exact h.2.1 j hj h3
  · refine ⟨?_, ?_, ?_⟩
    · rw [wI_rd]
      by_cases e' : e = d
      · subst e'; rw [if_pos ⟨rfl, rfl⟩, up_s]
      · rw [if_neg (by omega), up_n _ _ (by omega)]; exact (h.2.2 e he).1
    · rw [wI_rd, if_neg (by omega), up_n _ _ (by omega)]; exact (h.2.2 e he).2.1
    · rw [wI_rd, if_neg (by omega), up_n _ _ (by omega)]; exact (h.2.2 e he).2.2
theorem fc_ps (h : FC M f o u) {d : Nat} (hd : d < 8) (v : Nat) : sI M 0 (f + 13) (nI d) (nI v) = some (wI M (f + 13) d (nI v)) ∧ FC (wI M (f + 13) d (nI v)) f o (up u (20 + d) v) ∧ Fr (SE f) M (wI M (f + 13) d (nI v)) := by
  refine ⟨by rw [sI_at (fl_shp h.1.1 h.1.2.1).2.2.1 hd (by omega), nar0], ⟨h.1, fun j hj h3 => ?_, fun e he => ?_⟩, fr_wI (Or.inr ⟨by omega, by omega⟩)⟩
  · rw [wI_rd, if_neg (by omega), up_n _ _ (by omega)]; exact h.2.1 j hj h3
  · refine ⟨?_, ?_, ?_⟩
    · rw [wI_rd, if_neg (by omega), up_n _ _ (by omega)]; exact (h.2.2 e he).1
    · rw [wI_rd]
      by_cases e' : e = d
      · subst e'; rw [if_pos ⟨rfl, rfl⟩, up_s]
      · rw [if_neg (by omega), up_n _ _ (by omega)]; exact (h.2.2 e he).2.1
    · rw [wI_rd, if_neg (by omega), up_n _ _ (by omega)]; exact (h.2.2 e he).2.2
theorem fc_pd (h : FC M f o u) {d : Nat} (hd : d < 8) (v : Nat) : sI M 0 (f + 14) (nI d) (nI v) = some (wI M (f + 14) d (nI v)) ∧ FC (wI M (f + 14) d (nI v)) f o (up u (30 + d) v) ∧ Fr (SE f) M (wI M (f + 14) d (nI v)) := by
  refine ⟨by rw [sI_at (fl_shp h.1.1 h.1.2.1).2.2.2 hd (by omega), nar0], ⟨h.1, fun j hj h3 => ?_, fun e he => ?_⟩, fr_wI (Or.inr ⟨by omega, by omega⟩)⟩
  · rw [wI_rd, if_neg (by omega), up_n _ _ (by omega)]; exact h.2.1 j hj h3
  · refine ⟨?_, ?_, ?_⟩
    · rw [wI_rd, if_neg (by omega), up_n _ _ (by omega)]; exact (h.2.2 e he).1
    · rw [wI_rd, if_neg (by omega), up_n _ _ (by omega)]; exact (h.2.2 e he).2.1
    · rw [wI_rd]
      by_cases e' : e = d
      · subst e'; rw [if_pos ⟨rfl, rfl⟩, up_s]
      · rw [if_neg (by omega), up_n _ _ (by omega)]; exact (h.2.2 e he).2.2
end
theorem lc_put {M : Mem} {n m k : Nat} {v : Int32} {l : Option (Nat × Nat × Nat)} (h : LC M n l) (hm : m ≠ n) : LC (wI M m k v) n l := by
  cases l with
  | none => exact ⟨by rw [wI_rd, if_neg (by omega)]; exact h.1, by rw [wI_rd, if_neg (by omega)]; exact h.2.1, by rw [wI_rd, if_neg (by omega)]; exact h.2.2⟩
  | some l => obtain ⟨w, r, t⟩ := l; exact ⟨by rw [wI_rd, if_neg (by omega)]; exact h.1, by rw [wI_rd, if_neg (by omega)]; exact h.2.1, by rw [wI_rd, if_neg (by omega)]; exact h.2.2⟩
theorem fl_pg {M : Mem} {f o : Nat} {u : Nat → Nat} {l : Option (Nat × Nat × Nat)} (h : FC M f o u) (hl : LC M (f + 15) l) {k : Nat} (hk : k < 8) (h3 : k ≠ 3) (v : Nat) : ∃ M', pI M 2 f k (nI v) = some M' ∧ (FC M' f o (up u k v) ∧ LC M' (f + 15) l) ∧ Fr (SE f) M M' := by
  obtain ⟨p1, p2, p3⟩ := fc_pg h hk h3 v
  exact ⟨_, p1, ⟨p2, lc_put hl (by omega)⟩, p3⟩
theorem fl_ph {M : Mem} {f o : Nat} {u : Nat → Nat} {l : Option (Nat × Nat × Nat)} (h : FC M f o u) (hl : LC M (f + 15) l) {d : Nat} (hd : d < 8) (v : Nat) : ∃ M', sI M 0 (f + 12) (nI d) (nI v) = some M' ∧ (FC M' f o (up u (10 + d) v) ∧ LC M' (f + 15) l) ∧ Fr (SE f) M M' := by
  obtain ⟨p1, p2, p3⟩ := fc_ph h hd v
  exact ⟨_, p1, ⟨p2, lc_put hl (by omega)⟩, p3⟩
theorem fl_ps {M : Mem} {f o : Nat} {u : Nat → Nat} {l : Option (Nat × Nat × Nat)} (h : FC M f o u) (hl : LC M (f + 15) l) {d : Nat} (hd : d < 8) (v : Nat) : ∃ M', sI M 0 (f + 13) (nI d) (nI v) = some M' ∧ (FC M' f o (up u (20 + d) v) ∧ LC M' (f + 15) l) ∧ Fr (SE f) M M' := by
  obtain ⟨p1, p2, p3⟩ := fc_ps h hd v
  exact ⟨_, p1, ⟨p2, lc_put hl (by omega)⟩, p3⟩
theorem fc_fr {S : Nat → Nat → Prop} {M M' : Mem} {f o : Nat} {u : Nat → Nat} (h : FC M f o u) (hF : Fr S M M') (hS : ∀ n k, S n k → (n < f ∨ f + 14 < n)) : FC M' f o u := by
  refine ⟨⟨fr_sk hF h.1.1, h.1.2.1, by rw [hF.1]; exact h.1.2.2⟩, fun k hk h3 => ?_, fun d hd => ?_⟩
  · rw [hF.2 f k (fun hh => by have := hS _ _ hh; omega)]; exact h.2.1 k hk h3
  · rw [hF.2 (f + 12) d (fun hh => by have := hS _ _ hh; omega), hF.2 (f + 13) d (fun hh => by have := hS _ _ hh; omega), hF.2 (f + 14) d (fun hh => by have := hS _ _ hh; omega)]; exact h.2.2 d hd
/-- a call that nobody lifts in time -/
def mis (a : Nat → Nat) (c : Nat) (u : Nat → Nat) : Nat → Nat := if a 3 ≠ 0 ∧ a 3 ≤ a (47 + 3 * c) then up u 6 (u 6 + 1) else up u 5 (u 5 + 1)
def hit1 (a : Nat → Nat) (c r : Nat) (u : Nat → Nat) : Nat → Nat := up (up u 0 (u 0 ||| 2 ^ c)) 1 (u 1 + gtN a c r)
def hit2 (w t : Nat) (u : Nat → Nat) : Nat → Nat := if t = 2 ^ w then u else up u 7 (u 7 + 1)
def hit3 (a : Nat → Nat) (d w : Nat) (u : Nat → Nat) : Nat → Nat := if w = d then u else up (up (up u (10 + w) (u (10 + w) + 1)) 2 (u 2 + a (8 + 5 * w))) (20 + d) (u (20 + d) + 1)
def hit (a : Nat → Nat) (c w r t : Nat) (u : Nat → Nat) : Nat → Nat := hit3 a (a (45 + 3 * c)) w (hit2 w t (hit1 a c r u))
def stl (a : Nat → Nat) (c : Nat) (l : Option (Nat × Nat × Nat)) (u : Nat → Nat) : Nat → Nat := match l with
  | none => mis a c u
  | some (w, r, t) => if iT a c r = true then hit a c w r t u else mis a c u
theorem pc_one : ∀ t, t < 256 → ∀ w, w < 8 → t.testBit w = true → (pc t ≤ 1 ↔ t = 2 ^ w) := by decide +kernel
theorem c_miss {M : Mem} {f o c : Nat} {a u : Nat → Nat} (hC : CO M o a) (hO : OkO a) (hc : c < a 1) (hF : FC M f o u) : ∃ M', f_X2_miss M f (nI c) = some M' ∧ FC M' f o (mis a c u) ∧ Fr (SE f) M M' := by
  obtain ⟨g1, g2, g3, g4⟩ := okc hO hc
  have h3 := hO.1.2.2.2.1
  have e1 : nI (a 3) ≤ 0 ↔ a 3 = 0 := by
    have := nI_leI (a := a 3) (b := 0) (by omega) (by omega)
    rw [nI_0] at this
    rw [this]; omega
  have e2 : nI (a (47 + 3 * c)) < nI (a 3) ↔ a (47 + 3 * c) < a 3 := nI_ltI (by omega) (by omega)
  have J : ∃ M', f_X2_miss_J42 M f = some M' ∧ FC M' f o (up u 5 (u 5 + 1)) ∧ Fr (SE f) M M' := by
    obtain ⟨p1, p2, p3⟩ := fc_pg hF (k := 5) (by omega) (by omega) (u 5 + 1)
    exact ⟨_, by rw [f_X2_miss_J42, fc_g hF (by omega) (by omega), bb_some, nI_1, p1, bb_some], p2, p3⟩
  unfold f_X2_miss mis
  rw [fc_o hF, bb_some, co_g3 hC, bb_some]
  by_cases h0 : a 3 = 0
  · rw [if_pos (e1.mpr h0), if_neg (by omega)]
    exact J
  · rw [if_neg (fun h => h0 (e1.mp h)), bb_some, co_g3 hC, bb_some, bb_some, co_r12 hC, bb_some, co_pat hC hO hc, bb_some]
    by_cases h1 : a (47 + 3 * c) < a 3
    · rw [if_pos (e2.mpr h1), if_neg (by omega)]
      exact J
    · rw [if_neg (fun h => h1 (e2.mp h)), if_pos (by omega), fc_g hF (by omega) (by omega), bb_some, nI_1]
      obtain ⟨p1, p2, p3⟩ := fc_pg hF (k := 6) (by omega) (by omega) (u 6 + 1)
      exact ⟨_, by rw [p1, bb_some], p2, p3⟩
theorem c_J92 {M : Mem} {f o c w r t : Nat} {a u : Nat → Nat} (hC : CO M o a) (hO : OkO a) (hc : c < a 1) (hF : FC M f o u) (hl : LC M (f + 15) (some (w, r, t))) (hw : w < a 0) : ∃ M', f_X2_settle_J92 M f (nI c) = some M' ∧ (FC M' f o (hit3 a (a (45 + 3 * c)) w u) ∧ LC M' (f + 15) (some (w, r, t))) ∧ Fr (SE f) M M' := by
  obtain ⟨g1, g2, g3, g4⟩ := okc hO hc
  have h8 := hO.1.1
  have hf := hF.1.2.1
  have li := fl_li hf
  unfold f_X2_settle_J92 hit3
  rw [fc_o hF, bb_some, co_r10 hC, bb_some, co_cdesk hC hO hc, bb_some, fc_12 hF, bb_some, gI_at (li_shp hF.1.1 li), bb_some, hl.1]
  by_cases he : w = a (45 + 3 * c)
  · rw [if_pos (by rw [he]), if_pos he]
    exact ⟨M, rfl, ⟨hF, hl⟩, fr_refl⟩
  · rw [if_neg (nI_nq (by omega) (by omega) he), if_neg he, fc_9 hF, bb_some, bb_some, gI_at (li_shp hF.1.1 li), bb_some, hl.1, fc_h hF (by omega), bb_some, nI_1]
    obtain ⟨A, eA, ⟨hA, lA⟩, fA⟩ := fl_ph hF hl (d := w) (by omega) (u (10 + w) + 1)
    have hCA := se_co hf hC fA
    obtain ⟨B, eB, ⟨hB, lB⟩, fB⟩ := fl_pg hA lA (k := 2) (by omega) (by omega) (u 2 + a (8 + 5 * w))
    obtain ⟨D, eD, ⟨hD, lD⟩, fD⟩ := fl_ps hB lB (d := a (45 + 3 * c)) (by omega) (u (20 + a (45 + 3 * c)) + 1)
    have e2 : up u (10 + w) (u (10 + w) + 1) 2 = u 2 := up_n _ _ (by omega)
    have e3 : up (up u (10 + w) (u (10 + w) + 1)) 2 (u 2 + a (8 + 5 * w)) (20 + a (45 + 3 * c)) = u (20 + a (45 + 3 * c)) := by rw [up_n _ _ (by omega), up_n _ _ (by omega)]
    rw [eA, bb_some, fc_g hA (by omega) (by omega), bb_some, fc_o hA, bb_some, co_r8 hCA, bb_some, fc_12 hA, bb_some, gI_at (li_shp hA.1.1 li), bb_some, lA.1, co_cost hCA hO hw, bb_some, e2, nI_add, eB, bb_some, fc_10 hB, bb_some, fc_s hB (by omega), bb_some, e3, nI_1, eD, bb_some]
    exact ⟨D, rfl, ⟨hD, lD⟩, fr_trans fA (fr_trans fB fD)⟩
theorem c_settle {M : Mem} {f o c : Nat} {a u : Nat → Nat} {l : Option (Nat × Nat × Nat)} (hC : CO M o a) (hO : OkO a) (hc : c < a 1) (hF : FC M f o u) (hl : LC M (f + 15) l) (hk : LOk (a 0) l) : ∃ M', f_X2_settle M f (nI c) = some M' ∧ FC M' f o (stl a c l u) ∧ Fr (SE f) M M' := by
  obtain ⟨g1, g2, g3, g4⟩ := okc hO hc
  have h8 := hO.1.1
  have p8 := pw8 h8
  have h10 := hO.1.2.1
  have hf := hF.1.2.1
  have li := fl_li hf
  have hrr := rr_lt hk
  have h4 := hO.1.2.2.2.2
  have gl : gI M 3 (f + 15) 1 = some (nI (rr l)) := by rw [gI_at (li_shp hF.1.1 li), lc_rr hl]
  obtain ⟨N, eN, hN, fN⟩ := c_miss hC hO hc hF
  unfold f_X2_settle
  rw [fc_o hF, bb_some, fc_12 hF, bb_some, gl, bb_some, ob_at (co_shp hC), bb_some, c_inTime hC hO hc hrr, bb_some]
  cases l with
  | none =>
    rw [show iT a c (rr none) = false from iT0 a c]
    show ∃ M', ((ob M 2 f).bind fun _ => (f_X2_miss M f (nI c)).bind fun z6 => some z6) = some M' ∧ _
    rw [fc_ob hF, bb_some, eN, bb_some]
    exact ⟨N, rfl, hN, fN⟩
  | some l =>
    obtain ⟨w, r, t⟩ := l
    obtain ⟨k1, k2, k3, k4⟩ := hk
    show ∃ M', _ ∧ FC M' f o (if iT a c r = true then hit a c w r t u else mis a c u) ∧ _
    show ∃ M', (if bI (iT a c r) = 0 then _ else _) = some M' ∧ _
    by_cases hi : iT a c r = true
    · rw [hi, if_neg (by decide), if_pos rfl]
      have h0 : r ≠ 0 := (of_decide_eq_true hi).1
      obtain ⟨A, eA, ⟨hA, lA⟩, fA⟩ := fl_pg hF hl (k := 0) (by omega) (by omega) (u 0 ||| 2 ^ c)
      have hCA := se_co hf hC fA
      obtain ⟨B, eB, ⟨hB, lB⟩, fB⟩ := fl_pg hA lA (k := 1) (by omega) (by omega) (u 1 + gtN a c r)
      have hCB := se_co hf hCA fB
      have e1 : up u 0 (u 0 ||| 2 ^ c) 1 = u 1 := up_n _ _ (by omega)
      have efd : f_X5_faded A o (nI (a (46 + 3 * c))) (nI r) = some (nI (gtN a c r)) := by
        rw [c_faded hCA, fade_at g2 h4 h0 k2.2, gtN, if_pos hi]
      have gA : gI A 3 (f + 15) 1 = some (nI r) := by rw [gI_at (li_shp hA.1.1 li), lA.2.1]
      have gB : gI B 3 (f + 15) 2 = some (nI t) := by rw [gI_at (li_shp hB.1.1 li), lB.2.2]
      have w1 := ld_pc B (show t < 1024 by omega)
      have pone := pc_one t (by omega) w (by omega) k4
      have hp := pc_10 t
      rw [fc_g hF (by omega) (by omega), bb_some, one_sl (by omega), or_at, eA, bb_some, fc_g hA (by omega) (by omega), bb_some, fc_o hA, bb_some, bb_some, co_r11 hCA, bb_some, co_worth hCA hO hc, bb_some, fc_12 hA, bb_some, gA, bb_some, ob_at (co_shp hCA), bb_some, efd, bb_some, e1, nI_add, eB, bb_some, fc_12 hB, bb_some, gB, bb_some, w1, bb_some]
      generalize pc t = p at pone hp
      unfold hit hit2
      by_cases ht : t = 2 ^ w
      · rw [if_pos (show nI p ≤ 1 from nI_le (b := 1) (pone.mpr ht) (by omega)), if_pos ht]
        obtain ⟨D, eD, ⟨hD, lD⟩, fD⟩ := c_J92 hCB hO hc hB lB k1
        exact ⟨D, eD, hD, fr_trans fA (fr_trans fB fD)⟩
      · rw [if_neg (show ¬ nI p ≤ 1 from nI_ge (a := 1) (by have := pone.mp; omega) (by omega)), if_neg ht]
        obtain ⟨E, eE, ⟨hE, lE⟩, fE⟩ := fl_pg hB lB (k := 7) (by omega) (by omega) (hit1 a c r u 7 + 1)
        obtain ⟨D, eD, ⟨hD, lD⟩, fD⟩ := c_J92 (se_co hf hCB fE) hO hc hE lE k1
        rw [fc_g hB (by omega) (by omega), bb_some, nI_1]
        refine ⟨D, ?_, hD, fr_trans fA (fr_trans fB (fr_trans fE fD))⟩
        show ((pI B 2 f 7 (nI (hit1 a c r u 7 + 1))).bind fun M23 => f_X2_settle_J92 M23 f (nI c)) = _
        rw [eE, bb_some, eD]
    · rw [if_neg hi, show iT a c r = false by simpa using hi, if_pos (by rfl), fc_ob hF, bb_some, eN, bb_some]
      exact ⟨N, rfl, hN, fN⟩
/-- one deed: none where it can't be done -/
def ringD (a : Nat → Nat) (c : Nat) (u : Nat → Nat) : Nat → Nat := stl a c (lft a (kdO a) (fun d => u (10 + d)) (a (45 + 3 * c)) (u 4)) u
def dod (a : Nat → Nat) (e n : Nat) (u : Nat → Nat) : Option (Nat → Nat) :=
  if e = 0 then (if n < a 1 ∧ (u 0).testBit n = false then some (ringD a n u) else none)
  else if n < a 0 ∧ (u 4).testBit n = decide (e ≠ 2) then
    (if e = 3 then (if u (20 + n) = 0 then none else some (up (up u (30 + n) (u (30 + n) + u (20 + n))) (20 + n) 0))
     else some (up u 4 (u 4 ^^^ 2 ^ n)))
  else none
def FOk (a : Nat → Nat) (n : Nat) (u : Nat → Nat) : Prop := (u 4 < 2 ^ a 0 ∧ u 0 < 2 ^ a 1 ∧ u 1 ≤ 99 * n) ∧ (∀ d, d < 8 → u (10 + d) ≤ n ∧ u (20 + d) ≤ n) ∧ ∀ d, a 0 ≤ d → d < 8 → u (10 + d) = 0 ∧ u (20 + d) = 0
theorem fok_up {a : Nat → Nat} {n m : Nat} {u : Nat → Nat} (h : n ≤ m) (hu : FOk a n u) : FOk a m u := by
  obtain ⟨⟨h1, h2, h3⟩, h4, h5⟩ := hu
  exact ⟨⟨h1, h2, by omega⟩, fun d hd => by have := h4 d hd; omega, h5⟩
theorem fok_mis {a : Nat → Nat} {n c : Nat} {u : Nat → Nat} (hu : FOk a n u) : FOk a (n + 1) (mis a c u) := by
  have key : ∀ k v, k = 5 ∨ k = 6 → FOk a (n + 1) (up u k v) := fun k v hk => by
    obtain ⟨⟨h1, h2, h3⟩, h4, h5⟩ := hu
    refine ⟨⟨by rw [up_n _ _ (by omega)]; exact h1, by rw [up_n _ _ (by omega)]; exact h2, by rw [up_n _ _ (by omega)]; omega⟩, fun d hd => ?_, fun d hd hd' => ?_⟩
    · rw [up_n _ _ (by omega), up_n _ _ (by omega)]; have := h4 d hd; omega
    · rw [up_n _ _ (by omega), up_n _ _ (by omega)]; exact h5 d hd hd'
  unfold mis
  split
  · exact key 6 _ (Or.inr rfl)
  · exact key 5 _ (Or.inl rfl)
theorem fok_hit {a : Nat → Nat} {n c w r t : Nat} {u : Nat → Nat} (hO : OkO a) (hc : c < a 1) (hw : w < a 0) (hu : FOk a n u) : FOk a (n + 1) (hit a c w r t u) := by
  obtain ⟨g1, g2, g3, g4⟩ := okc hO hc
  have h8 := hO.1.1
  have hg := gtN_le hO (r := r) hc
  obtain ⟨⟨h1, h2, h3⟩, h4, h5⟩ := hu
  have k1 : ∀ j, j ≠ 0 → j ≠ 1 → hit1 a c r u j = u j := fun j h0 h1 => by unfold hit1; rw [up_n _ _ h1, up_n _ _ h0]
  have k2 : ∀ j, j ≠ 0 → j ≠ 1 → j ≠ 7 → hit2 w t (hit1 a c r u) j = u j := fun j h0 h1 h7 => by
    unfold hit2
    split
    · exact k1 j h0 h1
    · rw [up_n _ _ h7]; exact k1 j h0 h1
  have e0 : hit2 w t (hit1 a c r u) 0 = u 0 ||| 2 ^ c := by
    unfold hit2
    split
    · rfl
    · rfl
  have e1 : hit2 w t (hit1 a c r u) 1 = u 1 + gtN a c r := by
    unfold hit2
    split
    · rfl
    · rfl
  unfold hit hit3
  generalize hit2 w t (hit1 a c r u) = x at k2 e0 e1
  have b0 : u 0 ||| 2 ^ c < 2 ^ a 1 := or_lt h2 (pw_lt hc)
  split
  · refine ⟨⟨by rw [k2 4 (by omega) (by omega) (by omega)]; exact h1, by rw [e0]; exact b0, by rw [e1]; omega⟩, fun d hd => ?_, fun d hd hd' => ?_⟩
    · rw [k2 _ (by omega) (by omega) (by omega), k2 _ (by omega) (by omega) (by omega)]; have := h4 d hd; omega
    · rw [k2 _ (by omega) (by omega) (by omega), k2 _ (by omega) (by omega) (by omega)]; exact h5 d hd hd'
  · have q : ∀ j, j ≠ 10 + w → j ≠ 2 → j ≠ 20 + a (45 + 3 * c) → up (up (up x (10 + w) (x (10 + w) + 1)) 2 (x 2 + a (8 + 5 * w))) (20 + a (45 + 3 * c)) (x (20 + a (45 + 3 * c)) + 1) j = x j := fun j h1 h2 h3 => by rw [up_n _ _ h3, up_n _ _ h2, up_n _ _ h1]
    refine ⟨⟨by rw [q 4 (by omega) (by omega) (by omega), k2 4 (by omega) (by omega) (by omega)]; exact h1, by rw [q 0 (by omega) (by omega) (by omega), e0]; exact b0, by rw [q 1 (by omega) (by omega) (by omega), e1]; omega⟩, fun d hd => ⟨?_, ?_⟩, fun d hd hd' => ?_⟩
    · have := h4 d hd
      by_cases e : d = w
      · subst e
        rw [up_n _ _ (by omega), up_n _ _ (by omega), up_s, k2 _ (by omega) (by omega) (by omega)]; omega
      · rw [q _ (by omega) (by omega) (by omega), k2 _ (by omega) (by omega) (by omega)]; omega
    · have := h4 d hd
      by_cases e : d = a (45 + 3 * c)
      · rw [← e, up_s, k2 _ (by omega) (by omega) (by omega)]; omega
      · rw [q _ (by omega) (by omega) (by omega), k2 _ (by omega) (by omega) (by omega)]; omega
    · rw [q _ (by omega) (by omega) (by omega), q _ (by omega) (by omega) (by omega), k2 _ (by omega) (by omega) (by omega), k2 _ (by omega) (by omega) (by omega)]; exact h5 d hd hd'
theorem fok_stl {a : Nat → Nat} {n c : Nat} {u : Nat → Nat} {l : Option (Nat × Nat × Nat)} (hO : OkO a) (hc : c < a 1) (hk : LOk (a 0) l) (hu : FOk a n u) : FOk a (n + 1) (stl a c l u) := by
  cases l with
  | none => exact fok_mis hu
  | some l =>
    obtain ⟨w, r, t⟩ := l
    show FOk a (n + 1) (if iT a c r = true then hit a c w r t u else mis a c u)
    split
    · exact fok_hit hO hc hk.1 hu
    · exact fok_mis hu
theorem xor_lt2 {x y n : Nat} (hx : x < 2 ^ n) (hy : y < 2 ^ n) : x ^^^ y < 2 ^ n := Nat.xor_lt_two_pow hx hy
theorem fok_dod {a : Nat → Nat} {n e k : Nat} {u u' : Nat → Nat} (hO : OkO a) (hn : n < 500) (hu : FOk a n u) (h : dod a e k u = some u') : FOk a (n + 1) u' := by
  have h8 := hO.1.1
  unfold dod at h
  split at h
  · split at h
    · rename_i hc
      cases h
      have hd := (okc hO hc.1).1
      exact fok_stl hO hc.1 (lok_lft hO hd (fun s hs => by have := (hu.2.1 s (by omega)).1; show u (10 + s) < 1000; omega)) hu
    · cases h
  · split at h
    · rename_i hk
      obtain ⟨⟨h1, h2, h3⟩, h4, h5⟩ := hu
      split at h
      · split at h
        · cases h
        · cases h
          refine ⟨⟨by rw [up_n _ _ (by omega), up_n _ _ (by omega)]; exact h1, by rw [up_n _ _ (by omega), up_n _ _ (by omega)]; exact h2, by rw [up_n _ _ (by omega), up_n _ _ (by omega)]; omega⟩, fun d hd => ⟨?_, ?_⟩, fun d hd hd' => ⟨?_, ?_⟩⟩
          · rw [up_n _ _ (by omega), up_n _ _ (by omega)]; have := h4 d hd; omega
          · by_cases e : d = k
            · subst e; rw [up_s]; omega
            · rw [up_n _ _ (by omega), up_n _ _ (by omega)]; have := h4 d hd; omega
          · rw [up_n _ _ (by omega), up_n _ _ (by omega)]; exact (h5 d hd hd').1
          · rw [up_n _ _ (by omega), up_n _ _ (by omega)]; exact (h5 d hd hd').2
      · cases h
        refine ⟨⟨by rw [up_s]; exact xor_lt2 h1 (pw_lt hk.1), by rw [up_n _ _ (by omega)]; exact h2, by rw [up_n _ _ (by omega)]; omega⟩, fun d hd => ?_, fun d hd hd' => ?_⟩
        · rw [up_n _ _ (by omega), up_n _ _ (by omega)]; have := h4 d hd; omega
        · rw [up_n _ _ (by omega), up_n _ _ (by omega)]; exact h5 d hd hd'
    · cases h
theorem c_act {M : Mem} {f o e n m : Nat} {a u : Nat → Nat} (hC : CO M o a) (hO : OkO a) (hF : FC M f o u) (hu : FOk a m u) (hm : m < 500) (he : e ≤ 3) (hn : n ≤ 9) : ∃ M', (f_X2_act M f (nI e) (nI n) = some (match dod a e n u with | none => (0, M') | some _ => (1, M'))) ∧ FC M' f o (match dod a e n u with | none => u | some u' => u') ∧ Fr (SF f) M M' := by
  have h8 := hO.1.1
  have h10 := hO.1.2.1
  have p8 := pw8 h8
  have p10 := pw10 h10
  have hf := hF.1.2.1
  have li := fl_li hf
  obtain ⟨⟨b4, b0, b1⟩, bh, bz⟩ := hu
  unfold f_X2_act dod
  by_cases h0 : e = 0
  · subst h0
    rw [nI_0, if_pos rfl, if_pos rfl, fc_ob hF, bb_some]
    unfold f_X2_ringCall
    rw [fc_o hF, bb_some, ob_at (co_shp hC), bb_some]
    by_cases hc : n < a 1
    · obtain ⟨g1, g2, g3, g4⟩ := okc hO hc
      rw [c_hasCall hC hO hc, bb_some, if_neg (by decide), fc_g hF (by omega) (by omega), bb_some]
      by_cases hb : (u 0).testBit n = true
      · rw [if_neg (by rw [bit_0 (by omega) (by omega), hb]; decide), if_neg (by rw [hb]; simp)]
        exact ⟨M, rfl, hF, fr_refl⟩
      · have hb : (u 0).testBit n = false := by simpa using hb
        rw [if_pos (by rw [bit_0 (by omega) (by omega)]; exact hb), if_pos ⟨hc, hb⟩, fc_12 hF, bb_some, bb_some, bb_some, co_r10 hC, bb_some, co_cdesk hC hO hc, bb_some, fc_g hF (by omega) (by omega), bb_some, fc_9 hF, bb_some, ob_at (li_shp hF.1.1 li), bb_some]
        obtain ⟨A, eA, lA, fA⟩ := c_told (h := fun d => u (10 + d)) (q := f + 12) li hC hO g1 b4 (fun s hs => by have := (bh s (by omega)).1; show u (10 + s) < 1000; omega) (fun M' hM' s hs => by
          have hF' := fc_fr hF hM' (fun q k h => by have := h.1; omega)
          exact fc_h hF' (by omega))
        have hFA := fc_fr hF fA (fun q k h => by have := h.1; omega)
        have hCA := sl_co li hC fA
        have fA' : Fr (SF f) M A := fr_mono fA (fun q k h => Or.inr ⟨by have := h.1; omega, by have := h.1; omega⟩)
        obtain ⟨B, eB, hB, fB⟩ := c_settle hCA hO hc hFA lA (lok_lft hO g1 (fun s hs => by have := (bh s (by omega)).1; show u (10 + s) < 1000; omega))
        rw [eA, bb_some, fc_ob hFA, bb_some, eB, bb_some]
        exact ⟨B, rfl, hB, fr_trans fA' (se_sf fB)⟩
    · rw [c_noCall hC (Or.inr (nI_le (by omega) (by omega))), bb_some, if_pos rfl, if_neg (by omega)]
      exact ⟨M, rfl, hF, fr_refl⟩
  · rw [if_neg (nI_ne0 (by omega) (by omega)), if_neg h0, fc_o hF, bb_some, ob_at (co_shp hC), bb_some]
    by_cases hd : n < a 0
    · rw [c_hasDesk hC hO hd, bb_some, if_neg (by decide), fc_g hF (by omega) (by omega), bb_some]
      have e2 : nI e = 2 ↔ e = 2 := nI_eq (b := 2) (by omega) (by omega)
      have e3 : nI e = 3 ↔ e = 3 := nI_eq (b := 3) (by omega) (by omega)
      have key : (if ((nI (u 4) >>> (nI n &&& 31)) &&& 1) = 0 then f_X2_act_J39 M f (nI e) (nI n) 0 else f_X2_act_J39 M f (nI e) (nI n) 1) = (if (u 4).testBit n = decide (e ≠ 2) then (if nI e = 3 then (ob M 2 f).bind fun _ => (f_X2_readSlips M f (nI n)).bind fun z3 => (zr z3.1).bind fun w4 => some (w4, z3.2) else (gI M 2 f 4).bind fun v6 => (pI M 2 f 4 (v6 ^^^ ((1 : Int32) <<< (nI n &&& 31)))).bind fun M7 => some ((1 : Int32), M7)) else some (0, M)) := by
        unfold f_X2_act_J39 f_X2_act_J51
        by_cases hb : (u 4).testBit n = true
        · rw [if_neg (by rw [bit_0 (by omega) (by omega), hb]; decide), hb]
          by_cases h2 : e = 2
          · rw [if_pos (e2.mpr h2), if_pos rfl, if_neg (show ¬ true = decide (e ≠ 2) by simp [h2])]
          · rw [if_neg (fun h => h2 (e2.mp h)), if_neg (show ¬ (1 : Int32) = 0 by decide), if_pos (show true = decide (e ≠ 2) by simp [h2])]
        · have hb : (u 4).testBit n = false := by simpa using hb
          rw [if_pos (by rw [bit_0 (by omega) (by omega)]; exact hb), hb]
          by_cases h2 : e = 2
          · rw [if_pos (e2.mpr h2), if_neg (show ¬ (0 : Int32) = 1 by decide), if_pos (show false = decide (e ≠ 2) by simp [h2])]
          · rw [if_neg (fun h => h2 (e2.mp h)), if_pos rfl, if_neg (show ¬ false = decide (e ≠ 2) by simp [h2])]
      rw [key]
      by_cases hc : (u 4).testBit n = decide (e ≠ 2)
      · rw [if_pos hc, if_pos (show n < a 0 ∧ (u 4).testBit n = decide (e ≠ 2) from ⟨hd, hc⟩)]
        by_cases h3 : e = 3
        · rw [if_pos (e3.mpr h3), if_pos h3, fc_ob hF, bb_some]
          unfold f_X2_readSlips
          have hsn := (bh n (by omega)).2
          have es : nI (u (20 + n)) = 0 ↔ u (20 + n) = 0 := nI_eq (b := 0) (by omega) (by omega)
          rw [fc_10 hF, bb_some, fc_s hF (by omega), bb_some]
          by_cases h4 : u (20 + n) = 0
          · rw [if_pos (es.mpr h4), if_pos h4]
            exact ⟨M, rfl, hF, fr_refl⟩
          · rw [if_neg (fun h => h4 (es.mp h)), if_neg h4, fc_11 hF, bb_some, fc_d hF (by omega), bb_some, bb_some, fc_s hF (by omega), bb_some, nI_add]
            obtain ⟨p1, p2, p3⟩ := fc_pd hF (d := n) (by omega) (u (30 + n) + u (20 + n))
            rw [p1, bb_some]
            generalize wI M (f + 14) n (nI (u (30 + n) + u (20 + n))) = A at p2 p3
            obtain ⟨q1, q2, q3⟩ := fc_ps p2 (d := n) (by omega) 0
            rw [nI_0] at q1 q2 q3
            rw [fc_10 p2, bb_some, q1, bb_some]
            exact ⟨_, rfl, q2, fr_trans (se_sf p3) (se_sf q3)⟩
        · rw [if_neg (fun h => h3 (e3.mp h)), if_neg h3, fc_g hF (by omega) (by omega), bb_some, one_sl (by omega), xor_at]
          obtain ⟨p1, p2, p3⟩ := fc_pg hF (k := 4) (by omega) (by omega) (u 4 ^^^ 2 ^ n)
          rw [p1, bb_some]
          exact ⟨_, rfl, p2, se_sf p3⟩
      · rw [if_neg hc, if_neg (show ¬ (n < a 0 ∧ (u 4).testBit n = decide (e ≠ 2)) from fun h => hc h.2)]
        exact ⟨M, rfl, hF, fr_refl⟩
    · rw [c_noDesk hC (Or.inr (nI_le (by omega) (by omega))), bb_some, if_pos rfl, if_neg (by omega)]
      exact ⟨M, rfl, hF, fr_refl⟩
