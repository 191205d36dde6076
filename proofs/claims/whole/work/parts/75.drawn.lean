/-! days drawn by a seed -/
def sdn (s : Int32) : Int32 := s * 1103515245 + 12345
def s16 (s : Int32) : Nat := s.toBitVec.toNat / 65536
theorem s16_lt (s : Int32) : s16 s < 65536 := by have := s.toBitVec.isLt; unfold s16; omega
theorem shr16 (s : Int32) : shr s 16 = nI (s16 s) := by
  have e : (shr s (nI 16)).toBitVec.toNat = s.toBitVec.toNat / 2 ^ 16 := pk_ushr s (nI 16) 16 rfl
  have e : (shr s 16).toBitVec.toNat = s.toBitVec.toNat / 2 ^ 16 := e
  have b := s16_lt s
  apply Int32.toBitVec_inj.mp
  apply BitVec.eq_of_toNat_eq
  rw [e, pk_tn (by omega)]
  rfl
theorem rm_at {x y : Nat} (hx : x < 2 ^ 31) (h0 : 0 < y) (hy : y < 2 ^ 31) : rmI (nI x) (nI y) = some (nI (x % y)) := by
  rw [rmI, if_neg (nI_ne0 h0 hy), pk_rem hx h0 hy]
def dkd (k : Nat) : Nat := if k < 4 then 0 else if k = 4 then 1 else if k = 7 then 3 else 2
def dcn (a : Nat → Nat) (k : Nat) : Nat := if k < 4 then a 1 else a 0
theorem fc_w8 {M : Mem} {f o : Nat} {u : Nat → Nat} {v : Int32} (h : FC M f o u) : FC (wI M f 8 v) f o u := by
  refine ⟨h.1, fun j hj h3 => ?_, fun d hd => ?_⟩
  · rw [wI_rd, if_neg (by omega)]; exact h.2.1 j hj h3
  · rw [wI_rd, if_neg (by omega), wI_rd, if_neg (by omega), wI_rd, if_neg (by omega)]; exact h.2.2 d hd
def SG (f : Nat) : Nat → Nat → Prop := fun q k => SF f q k ∨ (q = f ∧ k = 8)
theorem c_draw {M : Mem} {f o c : Nat} {u : Nat → Nat} {s : Int32} (hF : FC M f o u) (hs : M.1 f 8 = s) (h0 : 0 < c) (hc : c < 100) : f_X2_drawBelow M f (nI c) = some (nI (s16 (sdn s) % c), wI M f 8 (sdn s)) := by
  have sh := (fl_shp hF.1.1 hF.1.2.1).1
  have sh2 := (fl_shp (M := wI M f 8 (sdn s)) hF.1.1 hF.1.2.1).1
  have b := s16_lt (sdn s)
  unfold f_X2_drawBelow
  rw [gI_at sh, bb_some, hs]
  show (pI M 2 f 8 (sdn s)).bind _ = _
  rw [pI_at sh, bb_some, if_neg (nI_nle h0 (by omega)), gI_at sh2, bb_some, wI_same, shr16, rm_at (by omega) h0 (by omega), bb_some]
def SW : Nat → Nat → Prop := fun q k => SD q k ∨ (q = 255 ∧ k = 43)
theorem mf_w43 {M : Mem} {a u : Nat → Nat} {v : Int32} (h : MF M a u) : MF (wI M 255 43 v) a u := mf_fr (S := fun q k => q = 255 ∧ k = 43) h (fr_wI ⟨rfl, rfl⟩) (fun q k hh => by omega)
theorem mo_draw {M : Mem} {c : Nat} {s : Int32} (hS : Sk M) (hs : M.1 255 43 = s) (h0 : 0 < c) (hc : c < 100) : f_X12_below M 255 (nI c) = some (nI (s16 (sdn s) % c), wI M 255 43 (sdn s)) := by
  have b := s16_lt (sdn s)
  unfold f_X12_below
  rw [gI_at (m_shp hS), bb_some, hs]
  show (pI M 12 255 43 (sdn s)).bind _ = _
  rw [pI_at (m_shp hS), bb_some, gI_at (m_shp (M := wI M 255 43 (sdn s)) hS), bb_some, wI_same, shr16, rm_at (by omega) h0 (by omega), bb_some]
def dst1 (sd : Int32 → Int32) (g : Int32 → Nat) (a : Nat → Nat) (_ : Nat) (p : Int32 × (Nat → Nat)) : Int32 × (Nat → Nat) :=
  if dcn a (g (sd p.1) % 8) = 0 then (sd p.1, p.2)
  else (sd (sd p.1), match dod a (dkd (g (sd p.1) % 8)) (g (sd (sd p.1)) % dcn a (g (sd p.1) % 8)) p.2 with | none => p.2 | some u' => u')
def drw (sd : Int32 → Int32) (g : Int32 → Nat) (a : Nat → Nat) (s : Int32) (k : Nat) : Int32 × (Nat → Nat) := fo (dst1 sd g a) k (s, us a)
theorem dcn_le {a : Nat → Nat} (hO : OkO a) (k : Nat) : dcn a k ≤ 10 := by
  have := hO.1.1; have := hO.1.2.1
  unfold dcn; split <;> omega
theorem drw_ok {sd : Int32 → Int32} {g : Int32 → Nat} {a : Nat → Nat} (hO : OkO a) (s : Int32) : ∀ k, k ≤ 400 → FOk a k (drw sd g a s k).2 := by
  intro k
  induction k with
  | zero => intro _; exact us_ok
  | succ k ih =>
    intro hk
    have h := ih (by omega)
    show FOk a (k + 1) (dst1 sd g a k (drw sd g a s k)).2
    unfold dst1
    generalize drw sd g a s k = p at h
    split
    · exact fok_up (by omega) h
    · show FOk a (k + 1) (match dod a (dkd (g (sd p.1) % 8)) (g (sd (sd p.1)) % dcn a (g (sd p.1) % 8)) p.2 with | none => p.2 | some u' => u')
      cases e : dod a (dkd (g (sd p.1) % 8)) (g (sd (sd p.1)) % dcn a (g (sd p.1) % 8)) p.2 with
      | none => exact fok_up (by omega) h
      | some u' => exact fok_dod hO (by omega) h e
theorem c_dB {sd : Int32 → Int32} {g : Int32 → Nat} (HC : ∀ (M : Mem) (f o c : Nat) (u : Nat → Nat) (s : Int32), FC M f o u → M.1 f 8 = s → 0 < c → c < 100 → f_X2_drawBelow M f (nI c) = some (nI (g (sd s) % c), wI M f 8 (sd s))) {M : Mem} {f o i K : Nat} {a u : Nat → Nat} {s : Int32} (hC : CO M o a) (hO : OkO a) (hF : FC M f o u) (hu : FOk a i u) (hi : i < K) (hK : K ≤ 60) (hs : M.1 f 8 = s) : ∃ M', f_X2_playDrawn_B13 M f o (nI K) (nI i) = some (.inl (nI (i + 1), M')) ∧ FC M' f o (dst1 sd g a i (s, u)).2 ∧ M'.1 f 8 = (dst1 sd g a i (s, u)).1 ∧ Fr (SG f) M M' := by
  have hf := hF.1.2.1
  have h8 := hO.1.1
  have h10 := hO.1.2.1
  let A := wI M f 8 (sd s)
  have hA : FC A f o u := fc_w8 hF
  have fA : Fr (SG f) M A := fr_wI (Or.inr ⟨rfl, rfl⟩)
  have hCA : CO A o a := co_fr hC fA (fun q k h => by have := hC.2.1; unfold SG SF at h; unfold flO at hf; omega)
  have e8 : f_X2_drawBelow M f 8 = some (nI (g (sd s) % 8), A) := HC M f o 8 u s hF hs (by omega) (by omega)
  have hcl := dcn_le hO (g (sd s) % 8)
  have hk8 : g (sd s) % 8 < 8 := Nat.mod_lt _ (by omega)
  unfold f_X2_playDrawn_B13 dst1
  rw [if_neg (nI_ge hi (by omega)), fc_ob hF, bb_some, e8, bb_some]
  show ∃ M', (if 4 ≤ nI (g (sd s) % 8) then (gI A 5 o 0).bind fun v4 => f_X2_playDrawn_J44 A f o (nI K) (nI i) (nI (g (sd s) % 8)) v4 else (gI A 5 o 1).bind fun v5 => f_X2_playDrawn_J44 A f o (nI K) (nI i) (nI (g (sd s) % 8)) v5) = _ ∧ _
  generalize hk : g (sd s) % 8 = k at hk8 hcl
  have key : (if 4 ≤ nI k then (gI A 5 o 0).bind fun v4 => f_X2_playDrawn_J44 A f o (nI K) (nI i) (nI k) v4 else (gI A 5 o 1).bind fun v5 => f_X2_playDrawn_J44 A f o (nI K) (nI i) (nI k) v5) = f_X2_playDrawn_J44 A f o (nI K) (nI i) (nI k) (nI (dcn a k)) := by
    rw [co_g0 hCA, bb_some, co_g1 hCA, bb_some]
    unfold dcn
    by_cases h4 : k < 4
    · rw [if_neg (show ¬ 4 ≤ nI k from nI_ge (b := 4) h4 (by omega)), if_pos h4]
    · rw [if_pos (show 4 ≤ nI k from nI_le (a := 4) (by omega) (by omega)), if_neg h4]
  rw [key]
  by_cases h0 : dcn a k = 0
  · unfold f_X2_playDrawn_J44
    rw [if_pos h0, h0, nI_0, if_pos (by decide), nI_1]
    exact ⟨A, rfl, hA, wI_same _ _ _ _, fA⟩
  · rw [if_neg h0]
    have hdk : dkd k ≤ 3 := by unfold dkd; (repeat' split) <;> omega
    have j2 : f_X2_playDrawn_J44 A f o (nI K) (nI i) (nI k) (nI (dcn a k)) = f_X2_playDrawn_J83 A f o (nI K) (nI i) (nI (dcn a k)) (nI (dkd k)) := by
      unfold f_X2_playDrawn_J44 dkd
      rw [if_neg (nI_nle (by omega) (by omega))]
      have n4 : nI k = 4 ↔ k = 4 := nI_eq (b := 4) (by omega) (by omega)
      have n7 : nI k = 7 ↔ k = 7 := nI_eq (b := 7) (by omega) (by omega)
      by_cases h4 : k < 4
      · rw [if_neg (show ¬ 4 ≤ nI k from nI_ge (b := 4) h4 (by omega)), if_pos h4]; rfl
      · rw [if_pos (show 4 ≤ nI k from nI_le (a := 4) (by omega) (by omega)), if_neg h4]
        by_cases h5 : k = 4
        · rw [if_pos (n4.mpr h5), if_pos h5]; rfl
        · rw [if_neg (fun h => h5 (n4.mp h)), if_neg h5]
          by_cases h7 : k = 7
          · rw [if_pos (n7.mpr h7), if_pos h7]; rfl
          · rw [if_neg (fun h => h7 (n7.mp h)), if_neg h7]; rfl
    rw [j2]
    let B := wI A f 8 (sd (sd s))
    have eB : f_X2_drawBelow A f (nI (dcn a k)) = some (nI (g (sd (sd s)) % dcn a k), B) := HC _ f o _ u _ hA (wI_same _ _ _ _) (by omega) (by omega)
    have hB : FC B f o u := fc_w8 hA
    have fB : Fr (SG f) M B := fr_put fA (Or.inr ⟨rfl, rfl⟩)
    have hCB : CO B o a := co_fr hC fB (fun q k h => by have := hC.2.1; unfold SG SF at h; unfold flO at hf; omega)
    have hn : g (sd (sd s)) % dcn a k < dcn a k := Nat.mod_lt _ (by omega)
    obtain ⟨D, eD, hD, fD⟩ := c_act hCB hO hB hu (by omega) hdk (show g (sd (sd s)) % dcn a k ≤ 9 by omega)
    have fD' : Fr (SG f) B D := fr_mono fD (fun q k h => Or.inl h)
    unfold f_X2_playDrawn_J83
    rw [fc_ob hA, bb_some, eB, bb_some]
    show ∃ M', ((ob B 2 f).bind fun _ => (f_X2_act B f (nI (dkd k)) (nI (g (sd (sd s)) % dcn a k))).bind fun z2 => some (Sum.inl (nI i + 1, z2.2))) = _ ∧ _
    rw [fc_ob hB, bb_some, eD, bb_some, nI_1]
    refine ⟨D, ?_, hD, ?_, fr_trans fB fD'⟩
    · cases dod a (dkd k) (g (sd (sd s)) % dcn a k) u <;> rfl
    · rw [fD.2 f 8 (by unfold SF; omega)]; exact wI_same _ _ _ _
theorem c_drawn {sd : Int32 → Int32} {g : Int32 → Nat} (HC : ∀ (M : Mem) (f o c : Nat) (u : Nat → Nat) (s : Int32), FC M f o u → M.1 f 8 = s → 0 < c → c < 100 → f_X2_drawBelow M f (nI c) = some (nI (g (sd s) % c), wI M f 8 (sd s))) {M : Mem} {f o k : Nat} {a : Nat → Nat} (hC : CO M o a) (hO : OkO a) (hf : flO f) (hk : k ≤ 60) (s : Int32) : ∃ M', f_X2_playDrawn M f o s (nI k) = some M' ∧ FC M' f o (drw sd g a s k).2 ∧ Fg (SG f) M M' := by
  obtain ⟨A, eA, hA, fA⟩ := c_begin hC hO hf
  have hCA := sf_cg hf hC fA
  have fA' : Fg (SG f) M A := ⟨fA.1, fun n k hn => fA.2 n k (fun h => hn (Or.inl h))⟩
  have fW : Fr (SG f) A (wI A f 8 s) := fr_wI (Or.inr ⟨rfl, rfl⟩)
  obtain ⟨B, eB, h1, h2⟩ := iter_rel (f := fun t : Int32 × Mem => f_X2_playDrawn_B13 t.2 f o (nI k) t.1) k (fun i t => t.1 = nI i ∧ FC t.2 f o (drw sd g a s i).2 ∧ t.2.1 f 8 = (drw sd g a s i).1 ∧ Fr (SG f) A t.2) (fun r => FC r f o (drw sd g a s k).2 ∧ Fr (SG f) A r) (fun i t hi ⟨hs1, hs2, hs3, hs4⟩ => by
    obtain ⟨s1, s2⟩ := t
    have hs1 : s1 = nI i := hs1
    subst hs1
    have hs4 : Fr (SG f) A s2 := hs4
    have hC2 : CO s2 o a := co_fr hCA hs4 (fun q k h => by have := hC.2.1; unfold SG SF at h; unfold flO at hf; omega)
    obtain ⟨D, eD, hD, d8, fD⟩ := c_dB HC hC2 hO hs2 (drw_ok hO s i (by omega)) hi hk hs3
    exact Or.inl ⟨_, eD, rfl, hD, d8, fr_trans hs4 fD⟩) (fun t ⟨hs1, hs2, hs3, hs4⟩ => by
    obtain ⟨s1, s2⟩ := t
    have hs1 : s1 = nI k := hs1
    subst hs1
    exact ⟨s2, by simp [f_X2_playDrawn_B13], hs2, hs4⟩) 1048576 0 (0, wI A f 8 s) (by omega) ⟨rfl, fc_w8 hA, wI_same _ _ _ _, fW⟩ (by omega)
  have eB : f_X2_playDrawn_L13 (wI A f 8 s) f o (nI k) 0 = some B := eB
  refine ⟨B, ?_, h1, fg_trans fA' (fg_fr h2)⟩
  unfold f_X2_playDrawn
  rw [ob_at (fl_shp hC.1 hf).1, bb_some, eA, bb_some, pI_at (fl_shp hA.1.1 hf).1, bb_some, eB, bb_some]
theorem mo_dr {sd : Int32 → Int32} {g : Int32 → Nat} (HM : ∀ (M : Mem) (c : Nat) (s : Int32), Sk M → M.1 255 43 = s → 0 < c → c < 100 → f_X12_below M 255 (nI c) = some (nI (g (sd s) % c), wI M 255 43 (sd s))) {M : Mem} {i : Nat} {a u : Nat → Nat} {s : Int32} (h : MF M a u) (hO : OkO a) (hu : FOk a i u) (hi : i < 60) (hs : M.1 255 43 = s) : ∃ M', f_X12_draws M 255 = some M' ∧ MF M' a (dst1 sd g a i (s, u)).2 ∧ M'.1 255 43 = (dst1 sd g a i (s, u)).1 ∧ Fr SW M M' := by
  have h8 := hO.1.1
  have h10 := hO.1.2.1
  let A := wI M 255 43 (sd s)
  have hA : MF A a u := mf_w43 h
  have fA : Fr SW M A := fr_wI (Or.inr ⟨rfl, rfl⟩)
  have e8 : f_X12_below M 255 8 = some (nI (g (sd s) % 8), A) := HM M 8 s h.1.1.1 hs (by omega) (by omega)
  have hcl := dcn_le hO (g (sd s) % 8)
  have hk8 : g (sd s) % 8 < 8 := Nat.mod_lt _ (by omega)
  unfold f_X12_draws dst1
  rw [mo_ob h.1.1, bb_some, e8, bb_some]
  show ∃ M', (if 4 ≤ nI (g (sd s) % 8) then (gI A 12 255 12).bind fun v3 => f_X12_draws_J23 A 255 (nI (g (sd s) % 8)) v3 else (gI A 12 255 13).bind fun v4 => f_X12_draws_J23 A 255 (nI (g (sd s) % 8)) v4) = _ ∧ _
  generalize hk : g (sd s) % 8 = k at hk8 hcl
  have key : (if 4 ≤ nI k then (gI A 12 255 12).bind fun v3 => f_X12_draws_J23 A 255 (nI k) v3 else (gI A 12 255 13).bind fun v4 => f_X12_draws_J23 A 255 (nI k) v4) = f_X12_draws_J23 A 255 (nI k) (nI (dcn a k)) := by
    rw [mo_g12 hA.1.1, bb_some, mo_g13 hA.1.1, bb_some]
    unfold dcn
    by_cases h4 : k < 4
    · rw [if_neg (show ¬ 4 ≤ nI k from nI_ge (b := 4) h4 (by omega)), if_pos h4]
    · rw [if_pos (show 4 ≤ nI k from nI_le (a := 4) (by omega) (by omega)), if_neg h4]
  rw [key]
  by_cases h0 : dcn a k = 0
  · unfold f_X12_draws_J23
    rw [if_pos h0, h0, nI_0, if_pos rfl]
    exact ⟨A, rfl, hA, wI_same _ _ _ _, fA⟩
  · rw [if_neg h0]
    have hdk : dkd k ≤ 3 := by unfold dkd; (repeat' split) <;> omega
    let B := wI A 255 43 (sd (sd s))
    have eB : f_X12_below A 255 (nI (dcn a k)) = some (nI (g (sd (sd s)) % dcn a k), B) := HM _ _ _ hA.1.1.1 (wI_same _ _ _ _) (by omega) (by omega)
    have hB : MF B a u := mf_w43 hA
    have fB : Fr SW M B := fr_put fA (Or.inr ⟨rfl, rfl⟩)
    have hn : g (sd (sd s)) % dcn a k < dcn a k := Nat.mod_lt _ (by omega)
    have j2 : f_X12_draws_J23 A 255 (nI k) (nI (dcn a k)) = f_X12_draws_J65 B (nI (g (sd (sd s)) % dcn a k)) 255 (nI (dkd k)) := by
      unfold f_X12_draws_J23 dkd
      rw [if_neg (nI_ne0 (by omega) (by omega)), mo_ob hA.1.1, bb_some, eB, bb_some]
      have n4 : nI k = 4 ↔ k = 4 := nI_eq (b := 4) (by omega) (by omega)
      by_cases h4 : k < 4
      · rw [if_neg (show ¬ 4 ≤ nI k from nI_ge (b := 4) h4 (by omega)), if_pos h4]; rfl
      · rw [if_pos (show 4 ≤ nI k from nI_le (a := 4) (by omega) (by omega)), if_neg h4]
        by_cases h5 : k = 4
        · rw [if_pos (n4.mpr h5), if_pos h5]; rfl
        · rw [if_neg (fun h => h5 (n4.mp h)), if_neg h5]
          by_cases h7 : k = 7
          · rw [if_pos (show 7 ≤ nI k from nI_le (a := 7) (by omega) (by omega)), if_pos h7]; rfl
          · rw [if_neg (show ¬ 7 ≤ nI k from nI_ge (b := 7) (by omega) (by omega)), if_neg h7]; rfl
    rw [j2]
    obtain ⟨D, eD, hD, fD⟩ := mo_does hB hO hu (by omega) hdk (show g (sd (sd s)) % dcn a k ≤ 9 by omega)
    have fD' : Fr SW B D := fr_mono fD (fun q k h => Or.inl h)
    unfold f_X12_draws_J65
    rw [mo_ob hB.1.1, bb_some, eD, bb_some]
    refine ⟨D, ?_, hD, ?_, fr_trans fB fD'⟩
    · cases dod a (dkd k) (g (sd (sd s)) % dcn a k) u <;> rfl
    · rw [fD.2 255 43 (by unfold SD; omega)]; exact wI_same _ _ _ _
theorem sg_q {M M' : Mem} {f : Nat} (hf : flO f) (h : Fg (SG f) M M') : Qf M M' := fg_q h (fun q k hh => by unfold SG SF at hh; unfold flO at hf; unfold zT; omega)
theorem sw_q {M M' : Mem} (h : Fr SW M M') : Qf M M' := fr_q h (fun q k hh => by unfold SW SD at hh; unfold zT; omega)
theorem mo_drawn {sd : Int32 → Int32} {g : Int32 → Nat} (HM : ∀ (M : Mem) (c : Nat) (s : Int32), Sk M → M.1 255 43 = s → 0 < c → c < 100 → f_X12_below M 255 (nI c) = some (nI (g (sd s) % c), wI M 255 43 (sd s))) {M : Mem} {k : Nat} {a : Nat → Nat} {s : Int32} (hA : MF M a (us a)) (hO : OkO a) (hk : k ≤ 60) (a43 : M.1 255 43 = s) (x4 : Int32) : ∃ M', f_X12_drawn_L38 M 255 (nI k) x4 0 = some M' ∧ MF M' a (drw sd g a s k).2 ∧ Fr SW M M' := by
  obtain ⟨B, eB, h1, h2⟩ := iter_rel (f := fun t : Int32 × Mem => f_X12_drawn_B38 t.2 255 (nI k) x4 t.1) k (fun i t => t.1 = nI i ∧ MF t.2 a (drw sd g a s i).2 ∧ t.2.1 255 43 = (drw sd g a s i).1 ∧ Fr SW M t.2) (fun r => MF r a (drw sd g a s k).2 ∧ Fr SW M r) (fun i t hi ⟨hs1, hs2, hs3, hs4⟩ => by
    obtain ⟨s1, s2⟩ := t
    have hs1 : s1 = nI i := hs1
    subst hs1
    have hs2 : MF s2 a (drw sd g a s i).2 := hs2
    obtain ⟨D, eD, hD, d8, fD⟩ := mo_dr HM hs2 hO (drw_ok hO s i (by omega)) (by omega) hs3
    refine Or.inl ⟨(nI (i + 1), D), ?_, rfl, hD, d8, fr_trans hs4 fD⟩
    show f_X12_drawn_B38 s2 255 (nI k) x4 (nI i) = _
    unfold f_X12_drawn_B38
    rw [if_neg (nI_ge hi (by omega)), mo_ob hs2.1.1, bb_some, eD, bb_some, nI_1]) (fun t ⟨hs1, hs2, hs3, hs4⟩ => by
    obtain ⟨s1, s2⟩ := t
    have hs1 : s1 = nI k := hs1
    subst hs1
    exact ⟨s2, by simp [f_X12_drawn_B38], hs2, hs4⟩) 1048576 0 (0, M) (by omega) ⟨rfl, hA, a43, fr_refl⟩ (by omega)
  exact ⟨B, eB, h1, h2⟩
theorem drawn_ex : ∃ D : (Nat → Nat) → Int32 → Nat → (Nat → Nat), (∀ (M : Mem) (o k : Nat) (a : Nat → Nat) (s : Int32), CO M o a → OkO a → k ≤ 60 → ∃ M', f_X2_playDrawn M 68 o s (nI k) = some M' ∧ FC M' 68 o (D a s k) ∧ Fg (SG 68) M M') ∧ ∀ (M : Mem) (k : Nat) (a : Nat → Nat) (s x4 : Int32), MF M a (us a) → OkO a → k ≤ 60 → M.1 255 43 = s → ∃ M', f_X12_drawn_L38 M 255 (nI k) x4 0 = some M' ∧ MF M' a (D a s k) ∧ Fr SW M M' := by
  obtain ⟨sd, g, HC, HM⟩ : ∃ (sd : Int32 → Int32) (g : Int32 → Nat), (∀ (M : Mem) (f o c : Nat) (u : Nat → Nat) (s : Int32), FC M f o u → M.1 f 8 = s → 0 < c → c < 100 → f_X2_drawBelow M f (nI c) = some (nI (g (sd s) % c), wI M f 8 (sd s))) ∧ (∀ (M : Mem) (c : Nat) (s : Int32), Sk M → M.1 255 43 = s → 0 < c → c < 100 → f_X12_below M 255 (nI c) = some (nI (g (sd s) % c), wI M 255 43 (sd s))) := ⟨sdn, s16, fun M f o c u s h1 h2 h3 h4 => c_draw h1 h2 h3 h4, fun M c s h1 h2 h3 h4 => mo_draw h1 h2 h3 h4⟩
  exact ⟨fun a s k => (drw sd g a s k).2, fun M o k a s h1 h2 h3 => c_drawn HC h1 h2 fl68 h3 s, fun M k a s x4 h1 h2 h3 h4 => mo_drawn HM h1 h2 h3 h4 x4⟩
theorem call_drawn {M : Mem} (hI : Inv M) (a1 a2 a3 a4 : Int32)  : ∃ (r : Int32) (M1 M2 : Mem), f_X11_drawn M 1 a1 a2 a3 a4 = some (r, M1) ∧ shp M1 255 = some (.inl 12) ∧ f_X12_drawn M1 255 a1 a2 a3 a4 = some (r, M2) ∧ Inv M2 := by
  have hS := hI.1
  obtain ⟨D, DC, DM⟩ := drawn_ex
  exact qm hI a1 (fC := f_X11_drawn M 1 a1 a2 a3 a4) (fM := fun M => f_X12_drawn M 255 a1 a2 a3 a4) (bad := -2) (fun e1 e2 => ⟨by simp [f_X11_drawn, d_r0 hS, t_ob hS, e1], by simp [f_X12_drawn, ob_at (m_shp hS), e2]⟩) (fun o a ho hO e1 hC => by
    by_cases hneg : a3 < 0
    · exact ⟨-2, M, by simp [f_X11_drawn, d_r0 hS, t_ob hS, e1, ho, hneg], qf_refl, fun M2 e3 hM hq => ⟨M2, by simp [f_X12_drawn, ob_at (m_shp hS), e3, ii_neg M2 hneg (L := 0) (by decide)], qf_refl⟩⟩
    by_cases hle : a3 ≤ 60
    · obtain ⟨k, hk31, rfl⟩ := nI_of hneg
      have hk : k ≤ 60 := (nI_leI (b := 60) hk31 (by omega)).mp hle
      obtain ⟨M1, e, hF, hg⟩ := DC M o k a a2 hC hO hk
      have hS1 := hg.1 hS
      have hC1 : CO M1 o a := co_fg hC hg (fun q k h => by have := hC.2.1; unfold SG SF at h; omega)
      refine ⟨if 0 ≤ a4 then tl a (D a a2 k) a4.toNatClampNeg else -2, M1, ?_, sg_q fl68 hg, fun M2 e3 hM hq => ?_⟩
      · unfold f_X11_drawn
        rw [d_r0 hS, bb_some, t_ob hS, bb_some, e1, bb_some, if_neg ho, if_neg hneg, if_pos hle, d_r5 hS, bb_some, ob_at (fl_shp hS fl68).1, bb_some, e, bb_some, d_r5 hS1, bb_some, fc_ob hF, bb_some]
        by_cases h4 : a4 < 0
        · rw [if_neg (nneg.mpr h4), tell_neg h4, bb_some]
        · obtain ⟨j, hj, rfl⟩ := nI_of h4
          rw [if_pos (nI_pos' hj), c_tellS hC1 hO hF hj, bb_some, nI_clamp hj]
      · have i1 := ii_n M2 (x := k) (l := 0) (u := 60) (L := 0) (U := 60) rfl rfl hk31 (by omega) (by omega)
        rw [if_pos (by omega)] at i1
        show ∃ M3, f_X12_drawn M1 255 a1 a2 (nI k) a4 = _ ∧ _
        have mh : f_X12_drawn M1 255 a1 a2 (nI k) a4 = (if 0 ≤ a4 then (pI M2 12 255 43 a2).bind fun M6 => (ob M6 12 255).bind fun _ => (f_X12_begins M6 255).bind fun z7 => (f_X12_drawn_L38 z7 255 (nI k) a4 0).bind fun r8 => (ob r8 12 255).bind fun _ => (f_X12_nowOf r8 255 a4).bind fun v9 => some (v9, r8) else some (-2, M2)) := by
          unfold f_X12_drawn
          rw [ob_at (m_shp hS1), bb_some, e3, bb_some]
          show (if (1 : Int32) = 0 then _ else (f_X12_isIn M2 (nI k) 0 60).bind fun v3 => _) = _
          rw [if_neg (by decide), i1, bb_some, if_neg (by decide)]
        rw [mh]
        by_cases h4 : a4 < 0
        · rw [if_neg (nneg.mpr h4), if_neg (nneg.mpr h4)]
          exact ⟨M2, rfl, qf_refl⟩
        · obtain ⟨j, hj, rfl⟩ := nI_of h4
          have fW : Fr SW M2 (wI M2 255 43 a2) := fr_wI (Or.inr ⟨rfl, rfl⟩)
          have hMW : MO (wI M2 255 43 a2) a := mo_fr hM fW (fun q k h => by unfold SW SD at h; omega)
          obtain ⟨A, eA, hA, _, fA⟩ := mo_begins hMW hO
          have a43 : A.1 255 43 = a2 := by rw [fA.2 255 43 (by unfold SB; omega)]; exact wI_same _ _ _ _
          obtain ⟨B, eB, h1, h2⟩ := DM A k a a2 (nI j) hA hO hk a43
          refine ⟨B, ?_, qf_trans (sw_q fW) (qf_trans (sb_q fA) (sw_q h2))⟩
          rw [if_pos (nI_pos' hj), if_pos (nI_pos' hj), pI_at (m_shp hM.1), bb_some, mo_ob hMW, bb_some, eA, bb_some, eB, bb_some, mo_ob h1.1.1, bb_some, mo_now h1 hO hj, bb_some, nI_clamp hj]
    · exact ⟨-2, M, by simp [f_X11_drawn, d_r0 hS, t_ob hS, e1, ho, hneg, hle], qf_refl, fun M2 e3 hM hq => ⟨M2, by
        have i1 : f_X12_isIn M2 a3 0 60 = some 0 := iin_le M2 (n := 60) (by omega) hneg hle
        simp [f_X12_drawn, ob_at (m_shp hS), e3, i1], qf_refl⟩⟩)
