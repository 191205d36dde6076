/-! order -/
def odf (a : Nat → Nat) (n c i : Nat) (u : Nat → Nat) : Nat → Nat := (rst a 0 (dg n c i) (u, 0)).1
def ods (a : Nat → Nat) (n c k : Nat) : Nat → Nat := fo (odf a n c) k (us a)
def vl (a : Nat → Nat) (n c : Nat) : Nat := ods a n c n 1
theorem ods_ok {a : Nat → Nat} {n c : Nat} (hO : OkO a) (hna : n ≤ a 1) : ∀ k, k ≤ n → FOk a k (ods a n c k) := by
  intro k
  induction k with
  | zero => intro _; exact us_ok
  | succ k ih =>
    intro hk
    have h10 := hO.1.2.1
    have h8 := hO.1.1
    have h1 := ih (by omega)
    have hdl := dg_lt (n := n) (c := c) (i := k) (by omega)
    have hd := (okc hO (show dg n c k < a 1 by omega)).1
    have lk := lru_ok (ru := 0) (t := 0) (h := fun d => ods a n c k (10 + d)) hO hd (Nat.zero_le _) (fun s hs => by have := (h1.2.1 s (by omega)).1; show ods a n c k (10 + s) < 1000; omega)
    show FOk a (k + 1) (stl a (dg n c k) (lru a 0 (a (45 + 3 * dg n c k)) 0 (fun d => ods a n c k (10 + d))) (ods a n c k))
    exact fok_stl hO (by omega) lk h1
theorem vl_lt {a : Nat → Nat} {n c : Nat} (hO : OkO a) (hna : n ≤ a 1) (hn : n ≤ 5) : vl a n c < 1000 := by
  have := (ods_ok (c := c) hO hna n (Nat.le_refl _)).1.2.2
  unfold vl; omega
theorem c_gio {M : Mem} {o n c : Nat} {a : Nat → Nat} (hC : CO M o a) (hO : OkO a) (hn : n ≤ 5) (hna : n ≤ a 1) (hT : Tq5 M n (dg n c)) : ∃ M', f_X6_gotInOrder M 107 o (nI n) = some (nI (vl a n c), M') ∧ Fg (SF 109) M M' := by
  have h8 := hO.1.1
  have h10 := hO.1.2.1
  obtain ⟨A, eA, hA, fA⟩ := c_begin hC hO fl109
  have hCA := sf_cg fl109 hC fA
  obtain ⟨B, eB, h1, h2⟩ := iter_rel (f := fun s : Int32 × Mem => f_X6_gotInOrder_B10 s.2 107 (nI n) s.1) n (fun i s => s.1 = nI i ∧ FC s.2 109 o (ods a n c i) ∧ Fr (SF 109) A s.2) (fun r => FC r 109 o (ods a n c n) ∧ Fr (SF 109) A r) (fun i s hi ⟨hs1, hs2, hs3⟩ => by
    obtain ⟨s1, s2⟩ := s
    have hq1 : s1 = nI i := hs1
    have hq2 : FC s2 109 o (ods a n c i) := hs2
    have hq3 : Fr (SF 109) A s2 := hs3
    clear hs1 hs2 hs3
    subst hq1
    have hdl := dg_lt (n := n) (c := c) (i := i) (by omega)
    have hC2 := sf_co fl109 hCA hq3
    have rt : aI s2 0 126 (nI i) = some (nI (dg n c i)) := by
      rw [aI_at (p_s126 hC2.1) (by omega) (by omega) (by omega), hq3.2 126 i (by unfold SF; omega), fA.2 126 i (by unfold SF; omega), hT i hi]
    obtain ⟨D, eD, ⟨hD, _⟩, fD⟩ := c_ruled (ru := 0) (t := 0) hC2 hO (show dg n c i < a 1 by omega) hq2 (ods_ok (c := c) hO hna i (by omega)) (by omega) (Nat.zero_le _) (by omega)
    have eD : f_X2_ringEmptyDesk s2 109 (nI (dg n c i)) 0 0 = some D := eD
    refine Or.inl ⟨(nI (i + 1), D), ?_, rfl, hD, fr_trans hq3 fD⟩
    show f_X6_gotInOrder_B10 s2 107 (nI n) (nI i) = _
    unfold f_X6_gotInOrder_B10
    rw [if_neg (nI_ge hi (by omega)), p_r3 hC2.1, bb_some, p_r5 hC2.1, bb_some, rt, bb_some, fc_ob hq2, bb_some, eD, bb_some, nI_1]) (fun s ⟨hs1, hs2, hs3⟩ => by
    obtain ⟨s1, s2⟩ := s
    have hq1 : s1 = nI n := hs1
    subst hq1
    exact ⟨s2, by show f_X6_gotInOrder_B10 s2 107 (nI n) (nI n) = _; rw [f_X6_gotInOrder_B10, if_pos (nI_le (Nat.le_refl _) (by omega))], hs2, hs3⟩) 1048576 0 (0, A) (by omega) ⟨rfl, hA, fr_refl⟩ (by omega)
  have eB : f_X6_gotInOrder_L10 A 107 (nI n) 0 = some B := eB
  refine ⟨B, ?_, fg_trans fA (fg_fr h2)⟩
  rw [f_X6_gotInOrder, p_r3 hC.1, bb_some, ob_at (fl_shp hC.1 fl109).1, bb_some, eA, bb_some, eB, bb_some, p_r3 h1.1.1, bb_some, fc_g h1 (by omega) (by omega), bb_some]
  rfl
def obf (a : Nat → Nat) (n x : Nat) (v : Option Nat) : Option Nat := match v with
  | none => some x
  | some y => if vl a n x ≤ vl a n y then some y else some x
def OBI (M : Mem) (a : Nat → Nat) (n : Nat) (v : Option Nat) : Prop := (v = none ∧ M.1 107 0 = -1) ∨ ∃ y, v = some y ∧ M.1 107 0 = nI (vl a n y) ∧ ∀ i, i < n → M.1 108 i = nI (dg n y i)
def SOc : Nat → Nat → Prop := fun q k => SF 109 q k ∨ q = 126 ∨ q = 108 ∨ (q = 107 ∧ k = 0)
theorem so_co {M M' : Mem} {o : Nat} {a : Nat → Nat} (hC : CO M o a) (hF : Fg SOc M M') : CO M' o a := co_fg hC hF (fun q k h => by have := hC.2.1; unfold SOc SF at h; omega)
theorem so_q {M M' : Mem} (h : Fg SOc M M') : Qf M M' := fg_q h (fun q k hh => by unfold SOc SF at hh; unfold zT; omega)
theorem fg_mono {S S' : Nat → Nat → Prop} {M M' : Mem} (h : Fg S M M') (hs : ∀ n k, S n k → S' n k) : Fg S' M M' := ⟨h.1, fun n k hn => h.2 n k (fun hh => hn (hs n k hh))⟩
/-- a trial is weighed -/
theorem c_ordW {M : Mem} {o n c : Nat} {a : Nat → Nat} {v : Option Nat} {x3 : Int32} (hC : CO M o a) (hO : OkO a) (hn : n ≤ 5) (hna : n ≤ a 1) (hT : Tq5 M n (dg n c)) (hv : OBI M a n v) (h120 : ¬ 120 ≤ x3) : ∃ M', f_X6_orderCalls_B27 M 107 o (nI n) x3 = f_X6_orderCalls_J70 M' 107 o (nI n) x3 ∧ Tq5 M' n (dg n c) ∧ OBI M' a n (obf a n c v) ∧ Fg SOc M M' := by
  have hl := vl_lt (c := c) hO hna hn
  obtain ⟨A, eA, fA⟩ := c_gio hC hO hn hna hT
  have fA' : Fg SOc M A := fg_mono fA (fun q k h => Or.inl h)
  have hSA := fA.1 hC.1
  have r126 : ∀ i, A.1 126 i = M.1 126 i := fun i => fA.2 126 i (by unfold SF; omega)
  have r108 : ∀ i, A.1 108 i = M.1 108 i := fun i => fA.2 108 i (by unfold SF; omega)
  have r107 : A.1 107 0 = M.1 107 0 := fA.2 107 0 (by unfold SF; omega)
  let B := wI A 107 0 (nI (vl a n c))
  have hSB : Sk B := hSA
  have cp : cpA B 0 126 0 108 0 (nI n) = some (wC B 126 108 0 0 n) := by
    have e : (nI n).toNatClampNeg = n := nI_clamp (by omega)
    have z : (0 : Int32).toNatClampNeg = 0 := rfl
    unfold cpA
    rw [aln_at (p_s126 hSB), aln_at (p_s108 hSB), e, z, if_pos]
    exact ⟨⟨by decide, by decide, nI_pos (by omega)⟩, ⟨by omega, by omega⟩, by omega, by omega, fun i hi => rfl⟩
  have up : ∃ M', ((pI A 6 107 0 (nI (vl a n c))).bind fun M5 => (gR M5 6 107 5).bind fun v6 => (gR M5 6 107 2).bind fun v7 => (cpA M5 0 v6 (0 : Int32) v7 (0 : Int32) (nI n)).bind fun M8 => f_X6_orderCalls_J70 M8 107 o (nI n) x3) = f_X6_orderCalls_J70 M' 107 o (nI n) x3 ∧ Tq5 M' n (dg n c) ∧ OBI M' a n (some c) ∧ Fg SOc M M' := by
    refine ⟨wC B 126 108 0 0 n, ?_, fun i hi => ?_, Or.inr ⟨c, rfl, ?_, fun i hi => ?_⟩, ?_⟩
    · rw [pI_at (p_shp hSA), bb_some]
      show ((gR B 6 107 5).bind fun v6 => (gR B 6 107 2).bind fun v7 => (cpA B 0 v6 (0 : Int32) v7 (0 : Int32) (nI n)).bind fun M8 => f_X6_orderCalls_J70 M8 107 o (nI n) x3) = _
      rw [p_r5 hSB, bb_some, p_r2 hSB, bb_some, cp, bb_some]
    · show (if (126 : Nat) = 108 then va_cpy (B.1 126) (B.1 108) 0 0 n i else B.1 126 i) = _
      rw [if_neg (by omega)]
      show (wI A 107 0 _).1 126 i = _
      rw [wI_rd, if_neg (by omega), r126 i]; exact hT i hi
    · show (if (107 : Nat) = 108 then va_cpy (B.1 126) (B.1 108) 0 0 n 0 else B.1 107 0) = _
      rw [if_neg (by omega)]; exact wI_same _ _ _ _
    · show (if (108 : Nat) = 108 then va_cpy (B.1 126) (B.1 108) 0 0 n i else B.1 108 i) = _
      rw [if_pos rfl, pk_cpy_in (by omega) (by omega), Nat.sub_zero, Nat.zero_add]
      show (wI A 107 0 _).1 126 i = _
      rw [wI_rd, if_neg (by omega), r126 i]; exact hT i hi
    · refine ⟨fun _ => hSB, fun q k hq => ?_⟩
      show (if q = 108 then va_cpy (B.1 126) (B.1 108) 0 0 n k else B.1 q k) = _
      rw [if_neg (fun hh => hq (by unfold SOc; omega))]
      show (wI A 107 0 _).1 q k = _
      rw [wI_rd, if_neg (fun hh => hq (by unfold SOc; omega))]
      exact fA'.2 q k hq
  unfold f_X6_orderCalls_B27
  rw [if_neg h120, ob_at (p_shp hC.1), bb_some, eA, bb_some, gI_at (p_shp hSA), bb_some, r107]
  show ∃ M', (if nI (vl a n c) ≤ M.1 107 0 then f_X6_orderCalls_J70 A 107 o (nI n) x3 else (pI A 6 107 0 (nI (vl a n c))).bind fun M5 => _) = _ ∧ _
  rcases hv with ⟨rfl, h0⟩ | ⟨y, rfl, h0, h1⟩
  · rw [h0, if_neg (neg_nle (by decide) (by omega))]
    exact up
  · have hly := vl_lt (c := y) hO hna hn
    rw [h0]
    show ∃ M', _ ∧ _ ∧ OBI M' a n (if vl a n c ≤ vl a n y then some y else some c) ∧ _
    by_cases hc : vl a n c ≤ vl a n y
    · rw [if_pos (nI_le hc (by omega)), if_pos hc]
      exact ⟨A, rfl, fun i hi => by rw [r126 i]; exact hT i hi, Or.inr ⟨y, rfl, by rw [r107]; exact h0, fun i hi => by rw [r108 i]; exact h1 i hi⟩, fA'⟩
    · rw [if_neg (nI_ge (by omega) (by omega)), if_neg hc]
      exact up
theorem nxk_n {n c : Nat} (h : nxk n c = true) (h0 : nx n (dg n c) = none) : fnd n (n ^ n - (c + 1)) (c + 1) = none := by
  unfold nxk at h
  rw [h0] at h
  cases e : fnd n (n ^ n - (c + 1)) (c + 1) with
  | none => rfl
  | some x => rw [e] at h; cases h
theorem nxk_s {n c : Nat} {p : Nat → Nat} (h : nxk n c = true) (h0 : nx n (dg n c) = some p) : ∃ x, fnd n (n ^ n - (c + 1)) (c + 1) = some x ∧ ∀ i, i < n → p i = dg n x i := by
  unfold nxk at h
  rw [h0] at h
  cases e : fnd n (n ^ n - (c + 1)) (c + 1) with
  | none => rw [e] at h; cases h
  | some x => rw [e] at h; exact ⟨x, rfl, of_decide_eq_true h⟩
theorem obi_fr {M M' : Mem} {a : Nat → Nat} {n : Nat} {v : Option Nat} (h : OBI M a n v) (hF : Fr S126 M M') : OBI M' a n v := by
  rcases h with ⟨h1, h2⟩ | ⟨y, h1, h2, h3⟩
  · exact Or.inl ⟨h1, by rw [hF.2 107 0 (by unfold S126; omega)]; exact h2⟩
  · exact Or.inr ⟨y, h1, by rw [hF.2 107 0 (by unfold S126; omega)]; exact h2, fun i hi => by rw [hF.2 108 i (by unfold S126; omega)]; exact h3 i hi⟩
theorem c_ordL {M A : Mem} {o n c0 : Nat} {a : Nat → Nat} (hC : CO M o a) (hO : OkO a) (hn : n ≤ 5) (hna : n ≤ a 1) (hc0 : c0 < n ^ n) (hp0 : isP n c0 = true) (h00 : ∀ z, z < c0 → isP n z = false) (hT : Tq5 A n (dg n c0)) (hv : A.1 107 0 = -1) (fA : Fg SOc M A) : ∃ r M', f_X6_orderCalls_L27 A 107 o (nI n) 0 = some r ∧ (r = .inl M' ∨ r = .inr M') ∧ OBI M' a n (ff (isP n) (obf a n) (n ^ n) none) ∧ Fg SOc M M' := by
  have c120 := cnt_ok n (by omega)
  have z0 := ff_sk (p := isP n) (g := obf a n) (v := none) (x := 0) c0 (fun z _ h2 => h00 z (by omega))
  rw [Nat.zero_add] at z0
  have cz : cb (isP n) c0 = 0 := z0.2
  have fz : ff (isP n) (obf a n) c0 none = none := z0.1
  have clt : ∀ c, c < n ^ n → isP n c = true → cb (isP n) c < 120 := fun c h1 h2 => by
    have := cb_mo (isP n) (show c + 1 ≤ n ^ n by omega)
    rw [cb_st, if_pos h2] at this; omega
  obtain ⟨r, e, M', h1, h2, h3⟩ := iter_inv (f := fun s : Int32 × Mem => f_X6_orderCalls_B27 s.2 107 o (nI n) s.1) (fun s => ∃ c, c < n ^ n ∧ isP n c = true ∧ s.1 = nI (cb (isP n) c) ∧ Tq5 s.2 n (dg n c) ∧ OBI s.2 a n (ff (isP n) (obf a n) c none) ∧ Fg SOc M s.2) (fun s => 200 - s.1.toNatClampNeg) (fun r => ∃ M', (r = .inl M' ∨ r = .inr M') ∧ OBI M' a n (ff (isP n) (obf a n) (n ^ n) none) ∧ Fg SOc M M') (fun s ⟨c, hc, hp, hs1, hs2, hs3, hs4⟩ => by
    obtain ⟨s1, s2⟩ := s
    have hq1 : s1 = nI (cb (isP n) c) := hs1
    have hq2 : Tq5 s2 n (dg n c) := hs2
    have hq3 : OBI s2 a n (ff (isP n) (obf a n) c none) := hs3
    have hq4 : Fg SOc M s2 := hs4
    clear hs1 hs2 hs3 hs4
    subst hq1
    have ct := clt c hc hp
    obtain ⟨B, eB, tB, vB, fB⟩ := c_ordW (x3 := nI (cb (isP n) c)) (so_co hC hq4) hO hn hna hq2 hq3 (show ¬ 120 ≤ nI (cb (isP n) c) from nI_ge (b := 120) ct (by omega))
    have hSB := fB.1 (hq4.1 hC.1)
    have fn : ff (isP n) (obf a n) (c + 1) none = obf a n c (ff (isP n) (obf a n) c none) := by rw [ff_st, if_pos hp]
    rw [← fn] at vB
    have cn : cb (isP n) (c + 1) = cb (isP n) c + 1 := by rw [cb_st, if_pos hp]
    have ok := nx_ok (by omega) hc hp
    have fo := fnd_ok n (n ^ n - (c + 1)) (c + 1)
    show (∃ s' : Int32 × Mem, f_X6_orderCalls_B27 s2 107 o (nI n) (nI (cb (isP n) c)) = some (.inl s') ∧ _) ∨ (∃ r, f_X6_orderCalls_B27 s2 107 o (nI n) (nI (cb (isP n) c)) = some (.inr r) ∧ _)
    rw [eB]
    unfold f_X6_orderCalls_J70
    rw [ob_at (p_shp hSB), bb_some]
    rcases c_next hSB hn tB (fun i hi => by have := dg_lt (n := n) (c := c) (i := i) (by omega); omega) with ⟨e1, e2⟩ | ⟨p, D, e1, e2, tD, fD⟩
    · rw [nxk_n ok e1] at fo
      have sk := (ff_sk (p := isP n) (g := obf a n) (v := none) (x := c + 1) (n ^ n - (c + 1)) fo).1
      rw [show c + 1 + (n ^ n - (c + 1)) = n ^ n by omega] at sk
      rw [e2, bb_some]
      exact Or.inr ⟨.inl B, rfl, B, Or.inl rfl, by rw [sk]; exact vB, fg_trans hq4 fB⟩
    · obtain ⟨x, f1, f2⟩ := nxk_s ok e1
      rw [f1] at fo
      obtain ⟨g1, g2, g3, g4⟩ := fo
      have sk := ff_sk (p := isP n) (g := obf a n) (v := none) (x := c + 1) (x - (c + 1)) (fun z h1 h2 => g4 z h1 (by omega))
      rw [show c + 1 + (x - (c + 1)) = x by omega] at sk
      rw [e2, bb_some]
      have cx : cb (isP n) x = cb (isP n) c + 1 := by rw [sk.2, cn]
      have fD' : Fg SOc B D := fg_mono (fg_fr fD) (fun q k h => Or.inr (Or.inl h))
      have ctx := clt x (by omega) g3
      refine Or.inl ⟨(nI (cb (isP n) c + 1), D), ?_, ⟨x, by omega, g3, by rw [cx], fun i hi => by rw [← f2 i hi]; exact tD i hi, by rw [sk.1]; exact obi_fr vB fD, fg_trans hq4 (fg_trans fB fD')⟩, ?_⟩
      · show (if (1 : Int32) = 0 then _ else some (Sum.inl (nI (cb (isP n) c) + 1, D))) = _
        rw [if_neg (by decide), nI_1]
      · show 200 - (nI (cb (isP n) c + 1)).toNatClampNeg < 200 - (nI (cb (isP n) c)).toNatClampNeg
        rw [nI_clamp (by omega), nI_clamp (by omega)]; omega) 1048576 (0, A) ⟨c0, hc0, hp0, by show (0 : Int32) = nI (cb (isP n) c0); rw [cz]; rfl, hT, Or.inl ⟨fz, hv⟩, fA⟩ (by show 200 - _ < 1048576; omega)
  exact ⟨r, M', e, h1, h2, h3⟩
theorem c_order {M : Mem} {o n : Nat} {a : Nat → Nat} (hC : CO M o a) (hO : OkO a) (hn : n ≤ 5) (hna : n ≤ a 1) : ∃ M', f_X6_orderCalls M 107 o (nI n) = some M' ∧ OBI M' a n (ff (isP n) (obf a n) (n ^ n) none) ∧ Fg SOc M M' := by
  have hS := hC.1
  have f0 := fst_ok n (by omega)
  unfold fst0 at f0
  have fk := fnd_ok n (n ^ n) 0
  cases e0 : fnd n (n ^ n) 0 with
  | none => rw [e0] at f0; cases f0
  | some c0 =>
    rw [e0] at f0 fk
    have f0 : ∀ i, i < n → dg n c0 i = i := of_decide_eq_true f0
    obtain ⟨k1, k2, k3, k4⟩ := fk
    let A := wI M 107 0 (-1)
    have hSA : Sk A := hS
    have fA : Fg SOc M A := fg_fr (fr_wI (Or.inr (Or.inr (Or.inr ⟨rfl, rfl⟩))))
    obtain ⟨B, eB, hB, fB⟩ := iter_rel (f := fun s : Int32 × Mem => f_X6_orderCalls_B7 s.2 107 o (nI n) s.1) n (fun i s => s.1 = nI i ∧ (∀ j, j < i → s.2.1 126 j = nI j) ∧ Fr S126 A s.2) (fun r => (∀ j, j < n → r.1 126 j = nI j) ∧ Fr S126 A r) (fun i s hi ⟨hs1, hs2, hs3⟩ => by
      obtain ⟨s1, s2⟩ := s
      have hq1 : s1 = nI i := hs1
      have hq2 : ∀ j, j < i → s2.1 126 j = nI j := hs2
      have hq3 : Fr S126 A s2 := hs3
      clear hs1 hs2 hs3
      subst hq1
      have hS2 := fr_sk hq3 hSA
      refine Or.inl ⟨(nI (i + 1), wI s2 126 i (nI i)), ?_, rfl, fun j hj => ?_, fr_put hq3 rfl⟩
      · show f_X6_orderCalls_B7 s2 107 o (nI n) (nI i) = _
        unfold f_X6_orderCalls_B7
        rw [if_neg (nI_ge hi (by omega)), p_r5 hS2, bb_some, sI_at (p_s126 hS2) (by omega) (by omega), nar0, bb_some, nI_1]
      · show (wI s2 126 i _).1 126 j = _
        rw [wI_rd]
        by_cases e : j = i
        · subst e; rw [if_pos ⟨rfl, rfl⟩]
        · rw [if_neg (by omega)]; exact hq2 j (by omega)) (fun s ⟨hs1, hs2, hs3⟩ => by
      obtain ⟨s1, s2⟩ := s
      have hq1 : s1 = nI n := hs1
      subst hq1
      exact ⟨s2, by show f_X6_orderCalls_B7 s2 107 o (nI n) (nI n) = _; rw [f_X6_orderCalls_B7, if_pos (nI_le (Nat.le_refl _) (by omega))], hs2, hs3⟩) 1048576 0 (0, A) (by omega) ⟨rfl, fun j hj => absurd hj (by omega), fr_refl⟩ (by omega)
    have eB : f_X6_orderCalls_L7 A 107 o (nI n) 0 = some B := eB
    have fB' : Fg SOc M B := fg_trans fA (fg_mono (fg_fr fB) (fun q k h => Or.inr (Or.inl h)))
    obtain ⟨r, D, eD, h1, h2, h3⟩ := c_ordL (A := B) hC hO hn hna (show c0 < n ^ n by omega) k3 (fun z hz => k4 z (Nat.zero_le _) hz) (fun i hi => by rw [f0 i hi]; exact hB i hi) (by rw [fB.2 107 0 (by unfold S126; omega)]; exact wI_same _ _ _ _) fB'
    refine ⟨D, ?_, h2, h3⟩
    unfold f_X6_orderCalls
    rw [pI_at (p_shp hS), bb_some]
    show ((f_X6_orderCalls_L7 A 107 o (nI n) 0).bind fun r2 => _) = _
    rw [eB, bb_some, eD, bb_some]
    rcases h1 with rfl | rfl <;> rfl
