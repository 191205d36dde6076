/-! what is read is kept -/
section
variable {M M' N P : Mem} {k r v : Nat → Nat} {n p i w s c x j d m q o : Nat} {F F' : Nat × Int32}
/-- where the model keeps number q of kind s, and how many numbers it has -/
def plc (s q : Nat) : Nat := if s = 0 then 610 + 75 * q else if s = 1 then 760 + 81 * q else 922 + 33 * q
def szf (s : Nat) : Nat := if s = 0 then 75 else if s = 1 then 81 else 33
theorem szf_le (s : Nat) : szf s ≤ 81 := by unfold szf; (repeat' split) <;> omega
theorem plc_le (hq : q < 2) : 610 ≤ plc s q ∧ plc s q + szf s ≤ 988 := by unfold plc szf; (repeat' split) <;> omega
theorem m_place (M : Mem) (hs : s < 3) (q : Nat) : f_X12_placeOf M (nI s) (nI q) = some (nI (plc s q)) := by
  unfold f_X12_placeOf plc
  rcases (show s = 0 ∨ s = 1 ∨ s = 2 by omega) with rfl | rfl | rfl
  · rw [if_pos (show nI 0 = 0 from rfl), if_pos rfl, show (75 : Int32) = nI 75 from rfl, pk_mul, show (610 : Int32) = nI 610 from rfl, nI_add]
  · rw [if_neg (show ¬ nI 1 = 0 by decide), if_pos (show nI 1 = 1 from rfl), if_neg (by omega), if_pos rfl, show (81 : Int32) = nI 81 from rfl, pk_mul, show (760 : Int32) = nI 760 from rfl, nI_add]
  · rw [if_neg (show ¬ nI 2 = 0 by decide), if_neg (show ¬ nI 2 = 1 by decide), if_neg (by omega), if_neg (by omega), show (33 : Int32) = nI 33 from rfl, pk_mul, show (922 : Int32) = nI 922 from rfl, nI_add]
theorem m_size (M : Mem) (hs : s < 3) : f_X12_sizeOf M (nI s) = some (nI (szf s)) := by
  unfold f_X12_sizeOf szf
  rcases (show s = 0 ∨ s = 1 ∨ s = 2 by omega) with rfl | rfl | rfl
  · rw [if_pos (show nI 0 = 0 from rfl), if_pos rfl]; rfl
  · rw [if_neg (show ¬ nI 1 = 0 by decide), if_pos (show nI 1 = 1 from rfl), if_neg (by omega), if_pos rfl]; rfl
  · rw [if_neg (show ¬ nI 2 = 0 by decide), if_neg (show ¬ nI 2 = 1 by decide), if_neg (by omega), if_neg (by omega)]; rfl
theorem m_copy (h : Sk M) (hs : s < 3) (hq : q < 2) : ∃ M', f_X12_text_L273 M 255 (nI s) (nI q) 0 = some M' ∧ Fr (fun a b => a = 256 ∧ plc s q ≤ b ∧ b < plc s q + szf s) M M' ∧ ∀ x, x < szf s → M'.1 256 (plc s q + x) = M.1 258 x := by
  have h81 := szf_le s
  have hpl := plc_le (s := s) hq
  refine iter_rel (f := fun s' : Int32 × Mem => f_X12_text_B273 s'.2 255 (nI s) (nI q) s'.1) (szf s) (fun j s' => s'.1 = nI j ∧ Fr (fun a b => a = 256 ∧ plc s q ≤ b ∧ b < plc s q + szf s) M s'.2 ∧ ∀ x, x < j → s'.2.1 256 (plc s q + x) = M.1 258 x) (fun M' => Fr (fun a b => a = 256 ∧ plc s q ≤ b ∧ b < plc s q + szf s) M M' ∧ ∀ x, x < szf s → M'.1 256 (plc s q + x) = M.1 258 x) ?_ ?_ 1048576 0 (0, M) (Nat.zero_le _) ⟨rfl, fr_refl, fun x hx => absurd hx (by omega)⟩ (by omega)
  · intro j ⟨y, N⟩ hj ⟨q1, q2, q3⟩
    have q1 : y = nI j := q1
    subst q1
    have q2 : Fr (fun a b => a = 256 ∧ plc s q ≤ b ∧ b < plc s q + szf s) M N := q2
    have hN := fr_sk q2 h
    refine Or.inl ⟨(nI j + 1, wI N 256 (plc s q + j) (N.1 258 j)), ?_, nI_1 j, fr_put q2 ⟨rfl, by omega, by omega⟩, fun x hx => ?_⟩
    · show f_X12_text_B273 N 255 (nI s) (nI q) (nI j) = _
      unfold f_X12_text_B273
      rw [m_size N hs, bb_some, if_neg (nI_ge hj (by omega)), m_r0 hN, bb_some, m_place N hs, bb_some, m_r10 hN, bb_some, rwG hN (by omega), bb_some, nI_add, m_put hN (by omega), bb_some]
    · show (wI N 256 (plc s q + j) (N.1 258 j)).1 256 (plc s q + x) = M.1 258 x
      rw [wI_rd]
      by_cases e : x = j
      · subst e; rw [if_pos ⟨rfl, rfl⟩]; exact q2.2 _ _ (by omega)
      · rw [if_neg (by omega)]; exact q3 x (by omega)
  · intro ⟨y, N⟩ ⟨q1, q2, q3⟩
    have q1 : y = nI (szf s) := q1
    subst q1
    refine ⟨N, ?_, q2, q3⟩
    show f_X12_text_B273 N 255 (nI s) (nI q) (nI (szf s)) = _
    unfold f_X12_text_B273
    rw [m_size N hs, bb_some, if_pos (nI_le (Nat.le_refl _) (by omega))]
theorem m_keep {a2 : Int32} (h : Sk M) (hs : s < 3) (h5 : M.1 256 5 = 0) (hq : q < 2) (hc : M.1 256 s = nI c) (ha : (a2 = -1 ∧ q = c) ∨ (a2 = nI q ∧ q < c)) : ∃ M', f_X12_text_J228 M 255 (nI s) a2 = some (nI q, M') ∧ Fr (fun a b => a = 256 ∧ (b = s ∨ (plc s q ≤ b ∧ b < plc s q + szf s))) M M' ∧ (∀ x, x < szf s → M'.1 256 (plc s q + x) = M.1 258 x) ∧ M'.1 256 s = nI (max c (q + 1)) := by
  have e5 : aI M 0 256 5 = some (M.1 256 5) := m_get h (i := 5) (by omega)
  have es : aI M 0 256 (nI s) = some (M.1 256 s) := m_get h (by omega)
  have hpl := plc_le (s := s) hq
  unfold f_X12_text_J228
  rw [m_r0 h, bb_some, e5, bb_some, h5, if_pos rfl]
  rcases ha with ⟨ha, hqc⟩ | ⟨ha, hqc⟩
  · subst ha hqc
    have hW : Sk (wI M 256 s (nI (q + 1))) := h
    obtain ⟨M1, e1, f1, g1⟩ := m_copy hW hs hq
    rw [if_pos rfl, bb_some, es, bb_some, hc]
    unfold f_X12_text_J254
    rw [if_pos rfl, m_r0 h, bb_some, es, bb_some, hc, nI_1, m_put h (by omega), bb_some, e1, bb_some]
    refine ⟨M1, rfl, fr_trans (fr_wI ⟨rfl, Or.inl rfl⟩) (fr_mono f1 (fun a b hh => ⟨hh.1, Or.inr hh.2⟩)), fun x hx => ?_, ?_⟩
    · rw [g1 x hx, wI_rd, if_neg (by omega)]
    · rw [f1.2 _ _ (by omega), wI_same, Nat.max_eq_right (by omega)]
  · subst ha
    obtain ⟨M1, e1, f1, g1⟩ := m_copy h hs hq
    rw [if_neg (nI_nm1 (by omega))]
    unfold f_X12_text_J254
    rw [if_neg (nI_nm1 (by omega)), e1, bb_some]
    refine ⟨M1, rfl, fr_mono f1 (fun a b hh => ⟨hh.1, Or.inr hh.2⟩), g1, ?_⟩
    rw [f1.2 _ _ (by omega), hc, Nat.max_eq_left (by omega)]
theorem imax_at {a b : Nat} (ha : a < 2 ^ 31) (hb : b < 2 ^ 31) : imax (nI a) (nI b) = nI (max a b) := by
  unfold imax
  by_cases h : a < b
  · rw [if_pos (nI_lt h hb), Nat.max_eq_right (by omega)]
  · rw [if_neg (nI_nlt (by omega) ha), Nat.max_eq_left (by omega)]
/-- where the class keeps number q of kind s, where its reader holds it, how many objects and how long -/
def dsn (s q : Nat) : Nat := (if s = 0 then 8 else if s = 1 then 19 else 22) + 18 * q
def srn (s : Nat) : Nat := if s = 0 then 47 else if s = 1 then 58 else 61
def nN (s : Nat) : Nat := if s = 0 then 11 else if s = 1 then 3 else 4
def Lfn (s : Nat) : Nat → Nat := if s = 0 then LO else if s = 1 then LD else LL
theorem c_keepJ (h : Sk N) (hs : s < 3) (hq : q < 2) (hc : N.1 4 s = nI c) (hc2 : c ≤ 2) : f_X9_keep_J54 N 2 (nI s) (nI q) = some (wI N 4 s (nI (max c (q + 1)))) := by
  unfold f_X9_keep_J54
  have a4 : aI N 0 4 (nI s) = some (N.1 4 s) := aI_at (sk_shp h (n := 4) (by omega) rfl) hs (by omega) (by omega)
  rw [t_r4 h, bb_some, bb_some, a4, bb_some, hc, nI_1, imax_at (by omega) (by omega), sI_at (sk_shp h (n := 4) (by omega) rfl) hs (by omega), bb_some, nar0]
theorem c_keep (h : Sk M) (hs : s < 3) (hq : q < 2) (hc : M.1 4 s = nI c) (hc2 : c ≤ 2) : f_X9_keep M 2 (nI s) (nI q) 46 = some (wI (cpM (Lfn s) M (srn s) (dsn s q) (nN s) 0) 4 s (nI (max c (q + 1)))) := by
  have hk : ∀ L a b j i, Sk (cpM L M a b j i) := fun _ _ _ _ _ => h
  unfold f_X9_keep
  rcases (show s = 0 ∨ s = 1 ∨ s = 2 by omega) with rfl | rfl | rfl
  · have ho : 8 + 18 * q ∈ ofL := by rcases (show q = 0 ∨ q = 1 by omega) with rfl | rfl <;> decide
    obtain ⟨⟨u0, u1⟩, _, _⟩ := ofL_ok _ ho
    rw [if_pos (show nI 0 = 0 from rfl), t_r5 h, bb_some, (t_row h hq).1, bb_some, rr0 h, bb_some, ob_at (sk_shp h u0 u1), bb_some, cp_o h (by decide) ho (by omega), bb_some]
    exact c_keepJ (hk LO 47 (8 + 18 * q) 11 0) hs hq (by rw [cpM_out (by omega)]; exact hc) hc2
  · have ho : 19 + 18 * q ∈ dyL := by rcases (show q = 0 ∨ q = 1 by omega) with rfl | rfl <;> decide
    obtain ⟨⟨u0, u1⟩, _, _⟩ := dyL_ok _ ho
    rw [if_neg (show ¬ nI 1 = 0 by decide), if_pos (show nI 1 = 1 from rfl), t_r6 h, bb_some, (t_row h hq).2.1, bb_some, rr1 h, bb_some, ob_at (sk_shp h u0 u1), bb_some, cp_d h (by decide) ho (by omega), bb_some]
    exact c_keepJ (hk LD 58 (19 + 18 * q) 3 0) hs hq (by rw [cpM_out (by omega)]; exact hc) hc2
  · have ho : 22 + 18 * q ∈ lgL := by rcases (show q = 0 ∨ q = 1 by omega) with rfl | rfl <;> decide
    obtain ⟨⟨u0, u1⟩, _, _⟩ := lgL_ok _ ho
    rw [if_neg (show ¬ nI 2 = 0 by decide), if_neg (show ¬ nI 2 = 1 by decide), t_r7 h, bb_some, (t_row h hq).2.2, bb_some, rr2 h, bb_some, ob_at (sk_shp h u0 u1), bb_some, cp_l h (by decide) ho (by omega), bb_some]
    exact c_keepJ (hk LL 61 (22 + 18 * q) 4 0) hs hq (by rw [cpM_out (by omega)]; exact hc) hc2
theorem or_same (h : ∀ n, o ≤ n → n < o + 11 → ∀ k, M'.1 n k = M.1 n k) (h6 : ∀ i, i < 75 → M'.1 256 (p + i) = M.1 256 (p + i)) (hO : OR M o p) : OR M' o p := by
  obtain ⟨a, g1, g2, g3⟩ := hO
  exact ⟨a, g1, fun i hi => by rw [h6 i hi]; exact g2 i hi, oc_cong (fun n k hn hn' => h n hn hn' k) g3⟩
theorem dr_same (h : ∀ n, o ≤ n → n < o + 3 → ∀ k, M'.1 n k = M.1 n k) (h6 : ∀ i, i < 81 → M'.1 256 (p + i) = M.1 256 (p + i)) (hO : DR M o p) : DR M' o p := by
  obtain ⟨a, g1, g2, g3⟩ := hO
  exact ⟨a, g1, fun i hi => by rw [h6 i hi]; exact g2 i hi, dc_move g1 (fun q hq k _ => h (o + q) (by omega) (by omega) k) g3⟩
theorem lr_same (h : ∀ n, o ≤ n → n < o + 4 → ∀ k, M'.1 n k = M.1 n k) (h6 : ∀ i, i < 33 → M'.1 256 (p + i) = M.1 256 (p + i)) (hO : LR M o p) : LR M' o p := lr_move (fun q hq k _ => h (o + q) (by omega) (by omega) k) h6 hO
theorem lr_new (hr : OkG r) (e0 : M.1 o 0 = nI (r 0)) (e1 : ∀ c, c < r 0 → ∀ j, j < 3 → M.1 (o + 1 + j) c = nI (r (2 + 4 * c + j))) (hm : ∀ i, i < 33 → M.1 256 (p + i) = nI (r i)) : LR M o p := by
  have h8 := hr.1
  refine ⟨r 0, h8, hm 0 (by omega), e0, fun k hk => ?_⟩
  obtain ⟨d1, d2⟩ := hr.2 k hk
  have m1 : M.1 256 (p + 1 + 4 * k) = nI (r (1 + 4 * k)) := by rw [Nat.add_assoc]; exact hm _ (by omega)
  have m2 : M.1 256 (p + 2 + 4 * k) = nI (r (2 + 4 * k)) := by rw [Nat.add_assoc]; exact hm _ (by omega)
  have m3 : M.1 256 (p + 3 + 4 * k) = nI (r (3 + 4 * k)) := by rw [Nat.add_assoc]; exact hm _ (by omega)
  have m4 : M.1 256 (p + 4 + 4 * k) = nI (r (4 + 4 * k)) := by rw [Nat.add_assoc]; exact hm _ (by omega)
  have c1 : M.1 (o + 1) k = nI (r (2 + 4 * k)) := e1 k hk 0 (by omega)
  have c2 : M.1 (o + 2) k = nI (r (3 + 4 * k)) := by have := e1 k hk 1 (by omega); rw [show 2 + 4 * k + 1 = 3 + 4 * k by omega] at this; exact this
  have c3 : M.1 (o + 3) k = nI (r (4 + 4 * k)) := by have := e1 k hk 2 (by omega); rw [show 2 + 4 * k + 2 = 4 + 4 * k by omega] at this; exact this
  rw [m1, m2, m3, m4, c1, c2, c3]
  refine ⟨⟨r (2 + 4 * k), d1, rfl, rfl⟩, rfl, rfl, ?_⟩
  rcases d2 with ⟨a1, a2, a3⟩ | ⟨a1, a2, a3, a4⟩
  · rw [a1, a2, a3]; exact Or.inl ⟨rfl, rfl, rfl⟩
  · rw [a1]; exact Or.inr ⟨rfl, r (3 + 4 * k), r (4 + 4 * k), a2, a3, a4, rfl, rfl⟩
/-- the new thing of kind s at slot q -/
def Nw (R : Mem) (s q : Nat) : Prop := (s = 0 → OR R (8 + 18 * q) (610 + 75 * q)) ∧ (s = 1 → DR R (19 + 18 * q) (760 + 81 * q)) ∧ (s = 2 → LR R (22 + 18 * q) (922 + 33 * q))
theorem tb_slot {R : Mem} {c : Nat → Nat} (h9 : ∀ s, s < 3 → c s ≤ 2 ∧ M.1 4 s = nI (c s) ∧ M.1 256 s = nI (c s)) (h10 : ∀ k, k < c 0 → OR M (8 + 18 * k) (610 + 75 * k)) (h11 : ∀ k, k < c 1 → DR M (19 + 18 * k) (760 + 81 * k)) (h12 : ∀ k, k < c 2 → LR M (22 + 18 * k) (922 + 33 * k)) (hs : s < 3) (hq : q < 2) (hqc : q ≤ c s) (hR : R.1 4 s = nI (max (c s) (q + 1)) ∧ R.1 256 s = nI (max (c s) (q + 1))) (ho : ∀ t, t < 3 → t ≠ s → R.1 4 t = M.1 4 t ∧ R.1 256 t = M.1 256 t) (hw : ∀ a b, 8 ≤ a → a < 44 → ¬ (dsn s q ≤ a ∧ a < dsn s q + nN s) → R.1 a b = M.1 a b) (h6 : ∀ b, 610 ≤ b → b < 988 → ¬ (plc s q ≤ b ∧ b < plc s q + szf s) → R.1 256 b = M.1 256 b) (hN : Nw R s q) : TB R 2 0 := by
  refine ⟨fun t => if t = s then max (c s) (q + 1) else c t, fun t ht => ?_, fun k hk => ?_, fun k hk => ?_, fun k hk => ?_⟩
  · show (if t = s then max (c s) (q + 1) else c t) ≤ 2 ∧ R.1 4 t = nI (if t = s then max (c s) (q + 1) else c t) ∧ R.1 256 (0 + t) = nI (if t = s then max (c s) (q + 1) else c t)
    rw [Nat.zero_add]
    by_cases e : t = s
    · subst e
      rw [if_pos rfl]
      exact ⟨Nat.max_le.mpr ⟨(h9 t ht).1, by omega⟩, hR⟩
    · rw [if_neg e, (ho t ht e).1, (ho t ht e).2]; exact h9 t ht
  · show OR R (8 + 18 * k) (610 + 75 * k)
    have hk : k < (if 0 = s then max (c s) (q + 1) else c 0) := hk
    have h2 := (h9 0 (by omega)).1
    by_cases e : 0 = s
    · subst e
      rw [if_pos rfl] at hk
      by_cases e' : k = q
      · subst e'; exact hN.1 rfl
      · have hk' : k < c 0 := by rcases Nat.le_total (c 0) (q + 1) with g | g <;> first | rw [Nat.max_eq_right g] at hk; omega | rw [Nat.max_eq_left g] at hk; omega
        refine or_same (fun n hn hn' b => hw n b (by omega) (by omega) ?_) (fun i hi => h6 _ (by omega) (by omega) ?_) (h10 k hk')
        · unfold dsn nN; rw [if_pos rfl, if_pos rfl]; omega
        · unfold plc szf; rw [if_pos rfl, if_pos rfl]; omega
    · rw [if_neg e] at hk
      refine or_same (fun n hn hn' b => hw n b (by omega) (by omega) ?_) (fun i hi => h6 _ (by omega) (by omega) ?_) (h10 k hk)
      · unfold dsn nN; (repeat' split) <;> omega
      · unfold plc szf; (repeat' split) <;> omega
  · show DR R (19 + 18 * k) (760 + 81 * k)
    have hk : k < (if 1 = s then max (c s) (q + 1) else c 1) := hk
    have h2 := (h9 1 (by omega)).1
    by_cases e : 1 = s
    · subst e
      rw [if_pos rfl] at hk
      by_cases e' : k = q
      · subst e'; exact hN.2.1 rfl
      · have hk' : k < c 1 := by rcases Nat.le_total (c 1) (q + 1) with g | g <;> first | rw [Nat.max_eq_right g] at hk; omega | rw [Nat.max_eq_left g] at hk; omega
        refine dr_same (fun n hn hn' b => hw n b (by omega) (by omega) ?_) (fun i hi => h6 _ (by omega) (by omega) ?_) (h11 k hk')
        · show ¬ (19 + 18 * q ≤ n ∧ n < 19 + 18 * q + 3); omega
        · show ¬ (760 + 81 * q ≤ 760 + 81 * k + i ∧ 760 + 81 * k + i < 760 + 81 * q + 81); omega
    · rw [if_neg e] at hk
      refine dr_same (fun n hn hn' b => hw n b (by omega) (by omega) ?_) (fun i hi => h6 _ (by omega) (by omega) ?_) (h11 k hk)
      · unfold dsn nN; (repeat' split) <;> omega
      · unfold plc szf; (repeat' split) <;> omega
  · show LR R (22 + 18 * k) (922 + 33 * k)
    have hk : k < (if 2 = s then max (c s) (q + 1) else c 2) := hk
    have h2 := (h9 2 (by omega)).1
    by_cases e : 2 = s
    · subst e
      rw [if_pos rfl] at hk
      by_cases e' : k = q
      · subst e'; exact hN.2.2 rfl
      · have hk' : k < c 2 := by rcases Nat.le_total (c 2) (q + 1) with g | g <;> first | rw [Nat.max_eq_right g] at hk; omega | rw [Nat.max_eq_left g] at hk; omega
        refine lr_same (fun n hn hn' b => hw n b (by omega) (by omega) ?_) (fun i hi => h6 _ (by omega) (by omega) ?_) (h12 k hk')
        · unfold dsn nN; rw [if_neg (by omega), if_neg (by omega), if_neg (by omega), if_neg (by omega)]; omega
        · unfold plc szf; rw [if_neg (by omega), if_neg (by omega), if_neg (by omega), if_neg (by omega)]; omega
    · rw [if_neg e] at hk
      refine lr_same (fun n hn hn' b => hw n b (by omega) (by omega) ?_) (fun i hi => h6 _ (by omega) (by omega) ?_) (h12 k hk)
      · unfold dsn nN; (repeat' split) <;> omega
      · unfold plc szf; (repeat' split) <;> omega
theorem inv_txt {R : Mem} (hI : Inv M) (hS : Sk R) (h21 : R.1 2 1 = 0) (h4 : R.1 256 4 = 0) (h5 : R.1 256 5 = R.1 2 2) (h6 : R.1 256 6 = R.1 2 3) (hT : TB R 2 0) (h3 : ∀ i, R.1 3 i = M.1 3 i) (hz : ∀ a b, (a = 45 ∨ a = 257 ∨ (129 ≤ a ∧ a < 255)) → R.1 a b = M.1 a b) (hm : ∀ b, 988 ≤ b → R.1 256 b = M.1 256 b) : Inv R := by
  refine ⟨hS, tr_mk (n := 0) (by omega) h21 h4 (fun i hi => absurd hi (by omega)) (fun i hi => ?_) h5 h6 hT, fun j hj => ?_⟩
  · show fits .byte (.int (R.1 3 i)) = true
    rw [h3]; exact hI.2.1.2.1 i hi
  · obtain ⟨g1, g2, g3⟩ := hI.2.2 j hj
    rw [hz 45 j (by omega), hz 257 j (by omega)]
    exact ⟨g1, g2, fun e => tr_same (fun n hn hn' b => hz n b (by omega)) (fun i hi => hm _ (by omega)) (g3 e)⟩
end
