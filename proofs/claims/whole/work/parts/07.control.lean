/-! branches -/
section CT
variable {l : Launch} {G : Gv} {Y : MI} {lim : Nat × Nat} {α : Type} {K : α → Option (Option Value × Mem)} {pc tgt : Nat} {off : Int} {ls : Loc_s} {st : List MV} {M : Mem} {a b : Option α}
theorem s_ite {P : Prop} [Decidable P] (h1 : P → Sim l G Y lim a K pc ls st M) (h2 : ¬ P → Sim l G Y lim b K pc ls st M) : Sim l G Y lim (if P then a else b) K pc ls st M := by
  by_cases h : P
  · rw [if_pos h]; exact h1 h
  · rw [if_neg h]; exact h2 h
theorem s_if_eq {x : Int32} (hd : decode Y.2.1 pc = .ok (.ifCond .eq off, 3)) (ht : (pc : Int) + off = (tgt : Int)) (ka : x = 0 → Sim l G Y lim a K tgt ls st M) (kb : ¬ x = 0 → Sim l G Y lim b K (pc + 3) ls st M) : Sim l G Y lim (if x = 0 then a else b) K pc ls (.inl x :: st) M := by
  intro res hres p e R s m args below meth c H locs cells slots Q lsA hC hR hS hN hlen hl hr
  have ka := fun (h : x = 0) => ka h res (by rw [if_pos h] at hres; exact hres) p e R s m args below meth c H locs cells slots Q lsA hC hR hS hN hlen hl hr
  have kb := fun (h : ¬ x = 0) => kb h res (by rw [if_neg h] at hres; exact hres) p e R s m args below meth c H locs cells slots Q lsA hC hR hS hN hlen hl hr
  exact lv_if_eq hC.1 hC.2.1 hd ht ka kb
theorem s_ic_eq {x y : Int32} (hd : decode Y.2.1 pc = .ok (.if_icmp .eq off, 3)) (ht : (pc : Int) + off = (tgt : Int)) (ka : x = y → Sim l G Y lim a K tgt ls st M) (kb : ¬ x = y → Sim l G Y lim b K (pc + 3) ls st M) : Sim l G Y lim (if x = y then a else b) K pc ls (.inl y :: .inl x :: st) M := by
  intro res hres p e R s m args below meth c H locs cells slots Q lsA hC hR hS hN hlen hl hr
  have ka := fun (h : x = y) => ka h res (by rw [if_pos h] at hres; exact hres) p e R s m args below meth c H locs cells slots Q lsA hC hR hS hN hlen hl hr
  have kb := fun (h : ¬ x = y) => kb h res (by rw [if_neg h] at hres; exact hres) p e R s m args below meth c H locs cells slots Q lsA hC hR hS hN hlen hl hr
  exact lv_icmp_eq hC.1 hC.2.1 hd ht ka kb
theorem s_if_ne {x : Int32} (hd : decode Y.2.1 pc = .ok (.ifCond .ne off, 3)) (ht : (pc : Int) + off = (tgt : Int)) (ka : x = 0 → Sim l G Y lim a K (pc + 3) ls st M) (kb : ¬ x = 0 → Sim l G Y lim b K tgt ls st M) : Sim l G Y lim (if x = 0 then a else b) K pc ls (.inl x :: st) M := by
  intro res hres p e R s m args below meth c H locs cells slots Q lsA hC hR hS hN hlen hl hr
  have ka := fun (h : x = 0) => ka h res (by rw [if_pos h] at hres; exact hres) p e R s m args below meth c H locs cells slots Q lsA hC hR hS hN hlen hl hr
  have kb := fun (h : ¬ x = 0) => kb h res (by rw [if_neg h] at hres; exact hres) p e R s m args below meth c H locs cells slots Q lsA hC hR hS hN hlen hl hr
  exact lv_if_ne hC.1 hC.2.1 hd ht kb ka
theorem s_ic_ne {x y : Int32} (hd : decode Y.2.1 pc = .ok (.if_icmp .ne off, 3)) (ht : (pc : Int) + off = (tgt : Int)) (ka : x = y → Sim l G Y lim a K (pc + 3) ls st M) (kb : ¬ x = y → Sim l G Y lim b K tgt ls st M) : Sim l G Y lim (if x = y then a else b) K pc ls (.inl y :: .inl x :: st) M := by
  intro res hres p e R s m args below meth c H locs cells slots Q lsA hC hR hS hN hlen hl hr
  have ka := fun (h : x = y) => ka h res (by rw [if_pos h] at hres; exact hres) p e R s m args below meth c H locs cells slots Q lsA hC hR hS hN hlen hl hr
  have kb := fun (h : ¬ x = y) => kb h res (by rw [if_neg h] at hres; exact hres) p e R s m args below meth c H locs cells slots Q lsA hC hR hS hN hlen hl hr
  exact lv_icmp_ne hC.1 hC.2.1 hd ht kb ka
theorem s_if_lt {x : Int32} (hd : decode Y.2.1 pc = .ok (.ifCond .lt off, 3)) (ht : (pc : Int) + off = (tgt : Int)) (ka : x < 0 → Sim l G Y lim a K tgt ls st M) (kb : ¬ x < 0 → Sim l G Y lim b K (pc + 3) ls st M) : Sim l G Y lim (if x < 0 then a else b) K pc ls (.inl x :: st) M := by
  intro res hres p e R s m args below meth c H locs cells slots Q lsA hC hR hS hN hlen hl hr
  have ka := fun (h : x < 0) => ka h res (by rw [if_pos h] at hres; exact hres) p e R s m args below meth c H locs cells slots Q lsA hC hR hS hN hlen hl hr
  have kb := fun (h : ¬ x < 0) => kb h res (by rw [if_neg h] at hres; exact hres) p e R s m args below meth c H locs cells slots Q lsA hC hR hS hN hlen hl hr
  exact lv_if_lt hC.1 hC.2.1 hd ht ka kb
theorem s_ic_lt {x y : Int32} (hd : decode Y.2.1 pc = .ok (.if_icmp .lt off, 3)) (ht : (pc : Int) + off = (tgt : Int)) (ka : x < y → Sim l G Y lim a K tgt ls st M) (kb : ¬ x < y → Sim l G Y lim b K (pc + 3) ls st M) : Sim l G Y lim (if x < y then a else b) K pc ls (.inl y :: .inl x :: st) M := by
  intro res hres p e R s m args below meth c H locs cells slots Q lsA hC hR hS hN hlen hl hr
  have ka := fun (h : x < y) => ka h res (by rw [if_pos h] at hres; exact hres) p e R s m args below meth c H locs cells slots Q lsA hC hR hS hN hlen hl hr
  have kb := fun (h : ¬ x < y) => kb h res (by rw [if_neg h] at hres; exact hres) p e R s m args below meth c H locs cells slots Q lsA hC hR hS hN hlen hl hr
  exact lv_icmp_lt hC.1 hC.2.1 hd ht ka kb
theorem s_if_ge {x : Int32} (hd : decode Y.2.1 pc = .ok (.ifCond .ge off, 3)) (ht : (pc : Int) + off = (tgt : Int)) (ka : 0 ≤ x → Sim l G Y lim a K tgt ls st M) (kb : ¬ 0 ≤ x → Sim l G Y lim b K (pc + 3) ls st M) : Sim l G Y lim (if 0 ≤ x then a else b) K pc ls (.inl x :: st) M := by
  intro res hres p e R s m args below meth c H locs cells slots Q lsA hC hR hS hN hlen hl hr
  have ka := fun (h : 0 ≤ x) => ka h res (by rw [if_pos h] at hres; exact hres) p e R s m args below meth c H locs cells slots Q lsA hC hR hS hN hlen hl hr
  have kb := fun (h : ¬ 0 ≤ x) => kb h res (by rw [if_neg h] at hres; exact hres) p e R s m args below meth c H locs cells slots Q lsA hC hR hS hN hlen hl hr
  exact lv_if_ge hC.1 hC.2.1 hd ht ka kb
theorem s_ic_ge {x y : Int32} (hd : decode Y.2.1 pc = .ok (.if_icmp .ge off, 3)) (ht : (pc : Int) + off = (tgt : Int)) (ka : y ≤ x → Sim l G Y lim a K tgt ls st M) (kb : ¬ y ≤ x → Sim l G Y lim b K (pc + 3) ls st M) : Sim l G Y lim (if y ≤ x then a else b) K pc ls (.inl y :: .inl x :: st) M := by
  intro res hres p e R s m args below meth c H locs cells slots Q lsA hC hR hS hN hlen hl hr
  have ka := fun (h : y ≤ x) => ka h res (by rw [if_pos h] at hres; exact hres) p e R s m args below meth c H locs cells slots Q lsA hC hR hS hN hlen hl hr
  have kb := fun (h : ¬ y ≤ x) => kb h res (by rw [if_neg h] at hres; exact hres) p e R s m args below meth c H locs cells slots Q lsA hC hR hS hN hlen hl hr
  exact lv_icmp_ge hC.1 hC.2.1 hd ht ka kb
theorem s_if_gt {x : Int32} (hd : decode Y.2.1 pc = .ok (.ifCond .gt off, 3)) (ht : (pc : Int) + off = (tgt : Int)) (ka : 0 < x → Sim l G Y lim a K tgt ls st M) (kb : ¬ 0 < x → Sim l G Y lim b K (pc + 3) ls st M) : Sim l G Y lim (if 0 < x then a else b) K pc ls (.inl x :: st) M := by
  intro res hres p e R s m args below meth c H locs cells slots Q lsA hC hR hS hN hlen hl hr
  have ka := fun (h : 0 < x) => ka h res (by rw [if_pos h] at hres; exact hres) p e R s m args below meth c H locs cells slots Q lsA hC hR hS hN hlen hl hr
  have kb := fun (h : ¬ 0 < x) => kb h res (by rw [if_neg h] at hres; exact hres) p e R s m args below meth c H locs cells slots Q lsA hC hR hS hN hlen hl hr
  exact lv_if_gt hC.1 hC.2.1 hd ht ka kb
theorem s_ic_gt {x y : Int32} (hd : decode Y.2.1 pc = .ok (.if_icmp .gt off, 3)) (ht : (pc : Int) + off = (tgt : Int)) (ka : y < x → Sim l G Y lim a K tgt ls st M) (kb : ¬ y < x → Sim l G Y lim b K (pc + 3) ls st M) : Sim l G Y lim (if y < x then a else b) K pc ls (.inl y :: .inl x :: st) M := by
  intro res hres p e R s m args below meth c H locs cells slots Q lsA hC hR hS hN hlen hl hr
  have ka := fun (h : y < x) => ka h res (by rw [if_pos h] at hres; exact hres) p e R s m args below meth c H locs cells slots Q lsA hC hR hS hN hlen hl hr
  have kb := fun (h : ¬ y < x) => kb h res (by rw [if_neg h] at hres; exact hres) p e R s m args below meth c H locs cells slots Q lsA hC hR hS hN hlen hl hr
  exact lv_icmp_gt hC.1 hC.2.1 hd ht ka kb
theorem s_if_le {x : Int32} (hd : decode Y.2.1 pc = .ok (.ifCond .le off, 3)) (ht : (pc : Int) + off = (tgt : Int)) (ka : x ≤ 0 → Sim l G Y lim a K tgt ls st M) (kb : ¬ x ≤ 0 → Sim l G Y lim b K (pc + 3) ls st M) : Sim l G Y lim (if x ≤ 0 then a else b) K pc ls (.inl x :: st) M := by
  intro res hres p e R s m args below meth c H locs cells slots Q lsA hC hR hS hN hlen hl hr
  have ka := fun (h : x ≤ 0) => ka h res (by rw [if_pos h] at hres; exact hres) p e R s m args below meth c H locs cells slots Q lsA hC hR hS hN hlen hl hr
  have kb := fun (h : ¬ x ≤ 0) => kb h res (by rw [if_neg h] at hres; exact hres) p e R s m args below meth c H locs cells slots Q lsA hC hR hS hN hlen hl hr
  exact lv_if_le hC.1 hC.2.1 hd ht ka kb
theorem s_ic_le {x y : Int32} (hd : decode Y.2.1 pc = .ok (.if_icmp .le off, 3)) (ht : (pc : Int) + off = (tgt : Int)) (ka : x ≤ y → Sim l G Y lim a K tgt ls st M) (kb : ¬ x ≤ y → Sim l G Y lim b K (pc + 3) ls st M) : Sim l G Y lim (if x ≤ y then a else b) K pc ls (.inl y :: .inl x :: st) M := by
  intro res hres p e R s m args below meth c H locs cells slots Q lsA hC hR hS hN hlen hl hr
  have ka := fun (h : x ≤ y) => ka h res (by rw [if_pos h] at hres; exact hres) p e R s m args below meth c H locs cells slots Q lsA hC hR hS hN hlen hl hr
  have kb := fun (h : ¬ x ≤ y) => kb h res (by rw [if_neg h] at hres; exact hres) p e R s m args below meth c H locs cells slots Q lsA hC hR hS hN hlen hl hr
  exact lv_icmp_le hC.1 hC.2.1 hd ht ka kb
theorem s_ifnull {n : Nat} (hd : decode Y.2.1 pc = .ok (.ifnull off, 3)) (ht : (pc : Int) + off = (tgt : Int)) (ka : n = 0 → Sim l G Y lim a K tgt ls st M) (kb : ¬ n = 0 → Sim l G Y lim b K (pc + 3) ls st M) : Sim l G Y lim (if n = 0 then a else b) K pc ls (.inr (.inr n) :: st) M := by
  intro res hres p e R s m args below meth c H locs cells slots Q lsA hC hR hS hN hlen hl hr
  show W p l e R s m args below meth c H locs cells slots Q (F0 m pc lsA (rv G n :: st.map (cv G)))
  by_cases h : n = 0
  · have k1 := ka h res (by rw [if_pos h] at hres; exact hres) p e R s m args below meth c H locs cells slots Q lsA hC hR hS hN hlen hl hr
    rw [show rv G n = .null by simp [rv, rof, h, va_rf]]
    exact lv_ifnullN hC.1 hC.2.1 hd ht k1
  · have k1 := kb h res (by rw [if_neg h] at hres; exact hres) p e R s m args below meth c H locs cells slots Q lsA hC hR hS hN hlen hl hr
    rw [rv_ref (by omega)]
    exact lv_ifnull hC.1 hC.2.1 hd k1
theorem s_ifnonnull {n : Nat} (hd : decode Y.2.1 pc = .ok (.ifnonnull off, 3)) (ht : (pc : Int) + off = (tgt : Int)) (ka : n = 0 → Sim l G Y lim a K (pc + 3) ls st M) (kb : ¬ n = 0 → Sim l G Y lim b K tgt ls st M) : Sim l G Y lim (if n = 0 then a else b) K pc ls (.inr (.inr n) :: st) M := by
  intro res hres p e R s m args below meth c H locs cells slots Q lsA hC hR hS hN hlen hl hr
  show W p l e R s m args below meth c H locs cells slots Q (F0 m pc lsA (rv G n :: st.map (cv G)))
  by_cases h : n = 0
  · have k1 := ka h res (by rw [if_pos h] at hres; exact hres) p e R s m args below meth c H locs cells slots Q lsA hC hR hS hN hlen hl hr
    rw [show rv G n = .null by simp [rv, rof, h, va_rf]]
    exact lv_ifnonnullN hC.1 hC.2.1 hd k1
  · have k1 := kb h res (by rw [if_neg h] at hres; exact hres) p e R s m args below meth c H locs cells slots Q lsA hC hR hS hN hlen hl hr
    rw [rv_ref (by omega)]
    exact lv_ifnonnull hC.1 hC.2.1 hd ht k1
theorem s_tabIn {dflt lo hi : Int} {offs : Array Int} {len : Nat} {x : Int32} {X : Option (Option Value × Mem)} (v : Int32) (hd : decode Y.2.1 pc = .ok (.tableswitch dflt lo hi offs, len)) (hx : x = v) (h1 : decide (v.toInt < lo) = false) (h2 : decide (hi < v.toInt) = false) (ho : offs[(v.toInt - lo).toNat]? = some off) (ht : (pc : Int) + off = (tgt : Int)) (k : SimR l G Y lim X tgt ls st M) : SimR l G Y lim X pc ls (.inl x :: st) M := by
  intro res hres p e R s m args below meth c H locs cells slots Q lsA hC hR hS hN hlen hl hr
  subst hx
  exact lv_tableIn hC.1 hC.2.1 hd (of_decide_eq_false h1) (of_decide_eq_false h2) ho ht (k res hres p e R s m args below meth c H locs cells slots Q lsA hC hR hS hN hlen hl hr)
theorem s_tabOut {dflt lo hi : Int} {offs : Array Int} {len : Nat} {x : Int32} {X : Option (Option Value × Mem)} (hd : decode Y.2.1 pc = .ok (.tableswitch dflt lo hi offs, len)) (h : x.toInt < lo ∨ hi < x.toInt) (ht : (pc : Int) + dflt = (tgt : Int)) (k : SimR l G Y lim X tgt ls st M) : SimR l G Y lim X pc ls (.inl x :: st) M := by
  intro res hres p e R s m args below meth c H locs cells slots Q lsA hC hR hS hN hlen hl hr
  exact lv_tableOut hC.1 hC.2.1 hd h ht (k res hres p e R s m args below meth c H locs cells slots Q lsA hC hR hS hN hlen hl hr)
theorem tab_out {x : Int32} {lo hi : Int} (h : ∀ k : Nat, (k : Int) ≤ hi - lo → x.toInt ≠ lo + k) : x.toInt < lo ∨ hi < x.toInt := by
  rcases Int.lt_or_le x.toInt lo with q | q
  · exact Or.inl q
  · rcases Int.lt_or_le hi x.toInt with q2 | q2
    · exact Or.inr q2
    · exact absurd (show x.toInt = lo + ((x.toInt - lo).toNat : Int) by omega) (h _ (by omega))
theorem i32_ne {x v : Int32} {k : Int} (h : ¬ x = v) (hv : v.toInt = k) : x.toInt ≠ k := fun q => h (Int32.toInt_inj.mp (by rw [hv]; exact q))
theorem s_lookup {dflt : Int} {ps : Array (Int × Int)} {len : Nat} {x : Int32} {X : Option (Option Value × Mem)} (hd : decode Y.2.1 pc = .ok (.lookupswitch dflt ps, len)) (hp : (ps.toList.zip (ps.toList.drop 1)).all (fun (a, next) => a.1 < next.1) = true) (ho : Op.lookupswitch.offset ps.toList dflt x.toInt = off) (ht : (pc : Int) + off = (tgt : Int)) (k : SimR l G Y lim X tgt ls st M) : SimR l G Y lim X pc ls (.inl x :: st) M := by
  intro res hres p e R s m args below meth c H locs cells slots Q lsA hC hR hS hN hlen hl hr
  exact lv_lookup hC.1 hC.2.1 hd hp ho ht (k res hres p e R s m args below meth c H locs cells slots Q lsA hC hR hS hN hlen hl hr)
/-! constants, statics, division -/
theorem s_ldc {idx : Nat} {v : Int32} {X : Option (Option Value × Mem)} (hm : Cond.constant Y.1.cls idx v ∈ GW) (hd : decode Y.2.1 pc = .ok (.ldc idx, 2)) (k : SimR l G Y lim X (pc + 2) ls (.inl v :: st) M) : SimR l G Y lim X pc ls st M := by
  intro res hres p e R s m args below meth c H locs cells slots Q lsA hC hR hS hN hlen hl hr
  exact lv_ldc hC.1 hC.2.1 hC.2.2.2.1 (hC.2.2.2.2.2.2.2.2.2.1.1 _ hm _) hd (k res hres p e R s m args below meth c H locs cells slots Q lsA hC hR hS hN hlen hl hr)
theorem s_ldcw {idx : Nat} {v : Int32} {X : Option (Option Value × Mem)} (hm : Cond.constant Y.1.cls idx v ∈ GW) (hd : decode Y.2.1 pc = .ok (.ldc_w idx, 3)) (k : SimR l G Y lim X (pc + 3) ls (.inl v :: st) M) : SimR l G Y lim X pc ls st M := by
  intro res hres p e R s m args below meth c H locs cells slots Q lsA hC hR hS hN hlen hl hr
  exact lv_ldcw hC.1 hC.2.1 hC.2.2.2.1 (hC.2.2.2.2.2.2.2.2.2.1.1 _ hm _) hd (k res hres p e R s m args below meth c H locs cells slots Q lsA hC hR hS hN hlen hl hr)
theorem s_ldc2 {idx : Nat} {v : Int64} {X : Option (Option Value × Mem)} (hm : Cond.constantLong Y.1.cls idx v ∈ GW) (hd : decode Y.2.1 pc = .ok (.ldc2_w idx, 3)) (k : SimR l G Y lim X (pc + 3) ls (.inr (.inl v) :: st) M) : SimR l G Y lim X pc ls st M := by
  intro res hres p e R s m args below meth c H locs cells slots Q lsA hC hR hS hN hlen hl hr
  exact lv_ldc2 hC.1 hC.2.1 hC.2.2.2.1 (hC.2.2.2.2.2.2.2.2.2.1.1 _ hm _) hd (k res hres p e R s m args below meth c H locs cells slots Q lsA hC hR hS hN hlen hl hr)
theorem s_ldcS {idx i : Nat} {tx : String} {X : Option (Option Value × Mem)} (hi : i < 15) (ht : stTx.getD i (0, "") = (idx, tx)) (ho : Y.1.cls = "DeskRings$Reader") (hd : decode Y.2.1 pc = .ok (.ldc idx, 2)) (k : SimR l G Y lim X (pc + 2) ls (.inr (.inr (2000 + i)) :: st) M) : SimR l G Y lim X pc ls st M := by
  intro res hres p e R s m args below meth c H locs cells slots Q lsA hC hR hS hN hlen hl hr
  have k := k res hres p e R s m args below meth c H locs cells slots Q lsA hC hR hS hN hlen hl hr
  have k : W p l e R s m args below meth c H locs cells slots Q (F0 m (pc + 2) lsA (rv G (2000 + i) :: st.map (cv G))) := k
  rw [rv_ref (by omega)] at k
  have hs := hC.2.2.2.2.2.2.2.2.2.2.2.1.2.1 i hi
  rw [ht] at hs
  exact va_ldcS hC.1 hC.2.1 (by rw [← ho]; exact hC.2.2.2.1) hs hd k
theorem s_gs {idx j : Nat} {X : Option (Option Value × Mem)} (hj : j < 10) (hm : Cond.fieldLink Y.1.cls idx (roC.getD j ("", "")).1 (roC.getD j ("", "")).2 "[I" ∈ GW) (hd : decode Y.2.1 pc = .ok (.getstatic idx, 3)) (k : SimR l G Y lim X (pc + 3) ls (.inr (.inr (1000 + j)) :: st) M) : SimR l G Y lim X pc ls st M := by
  intro res hres p e R s m args below meth c H locs cells slots Q lsA hC hR hS hN hlen hl hr
  have k := k res hres p e R s m args below meth c H locs cells slots Q lsA hC hR hS hN hlen hl hr
  have k : W p l e R s m args below meth c H locs cells slots Q (F0 m (pc + 3) lsA (rv G (1000 + j) :: st.map (cv G))) := k
  rw [rv_ref (by omega)] at k
  exact va_gets hC.1 hC.2.1 (hC.2.2.2.2.2.2.2.2.2.2.1 j hj).2 hS hC.2.2.2.1 (hC.2.2.2.2.2.2.2.2.2.1.1 _ hm _) (fun _ h9 => h9) hd k
theorem s_gsN {idx j : Nat} {host : String} {X : Option (Option Value × Mem)} (hj : j < 10) (hm : Cond.fieldLinkNest Y.1.cls idx (roC.getD j ("", "")).1 (roC.getD j ("", "")).2 "[I" host ∈ NW) (hd : decode Y.2.1 pc = .ok (.getstatic idx, 3)) (k : SimR l G Y lim X (pc + 3) ls (.inr (.inr (1000 + j)) :: st) M) : SimR l G Y lim X pc ls st M := by
  intro res hres p e R s m args below meth c H locs cells slots Q lsA hC hR hS hN hlen hl hr
  have k := k res hres p e R s m args below meth c H locs cells slots Q lsA hC hR hS hN hlen hl hr
  have k : W p l e R s m args below meth c H locs cells slots Q (F0 m (pc + 3) lsA (rv G (1000 + j) :: st.map (cv G))) := k
  rw [rv_ref (by omega)] at k
  exact va_getsN hC.1 hC.2.1 (hC.2.2.2.2.2.2.2.2.2.2.1 j hj).2 hS hC.2.2.2.1 (va_Nw.use rfl (hC.2.2.2.2.2.2.2.2.2.1.2.1 _ hm)) (fun _ h9 => h9) hd k
theorem s_idiv {f : Int32 → Option α} {x y : Int32} (hd : decode Y.2.1 pc = .ok (.idiv, 1)) (kk : ∀ v, Sim l G Y lim (f v) K (pc + 1) ls (.inl v :: st) M) : Sim l G Y lim ((dvI x y).bind f) K pc ls (.inl y :: .inl x :: st) M := by
  intro res hres
  obtain ⟨v, h1, h2⟩ := bind2 hres
  intro p e R s m args below meth c H locs cells slots Q lsA hC hR hS hN hlen hl hr
  have k := kk v res h2 p e R s m args below meth c H locs cells slots Q lsA hC hR hS hN hlen hl hr
  unfold dvI at h1
  split at h1
  · cases h1
  · cases h1
    exact lv_idiv hC.1 hC.2.1 hd (by assumption) k
theorem s_irem {f : Int32 → Option α} {x y : Int32} (hd : decode Y.2.1 pc = .ok (.irem, 1)) (kk : ∀ v, Sim l G Y lim (f v) K (pc + 1) ls (.inl v :: st) M) : Sim l G Y lim ((rmI x y).bind f) K pc ls (.inl y :: .inl x :: st) M := by
  intro res hres
  obtain ⟨v, h1, h2⟩ := bind2 hres
  intro p e R s m args below meth c H locs cells slots Q lsA hC hR hS hN hlen hl hr
  have k := kk v res h2 p e R s m args below meth c H locs cells slots Q lsA hC hR hS hN hlen hl hr
  unfold rmI at h1
  split at h1
  · cases h1
  · cases h1
    exact lv_irem hC.1 hC.2.1 hd (by assumption) k
theorem s_ldiv {f : Int64 → Option α} {x y : Int64} (hd : decode Y.2.1 pc = .ok (.ldiv, 1)) (kk : ∀ v, Sim l G Y lim (f v) K (pc + 1) ls (.inr (.inl v) :: st) M) : Sim l G Y lim ((dvL x y).bind f) K pc ls (.inr (.inl y) :: .inr (.inl x) :: st) M := by
  intro res hres
  obtain ⟨v, h1, h2⟩ := bind2 hres
  intro p e R s m args below meth c H locs cells slots Q lsA hC hR hS hN hlen hl hr
  have k := kk v res h2 p e R s m args below meth c H locs cells slots Q lsA hC hR hS hN hlen hl hr
  unfold dvL at h1
  split at h1
  · cases h1
  · cases h1
    exact lv_ldiv hC.1 hC.2.1 hd (by assumption) k
theorem s_lrem {f : Int64 → Option α} {x y : Int64} (hd : decode Y.2.1 pc = .ok (.lrem, 1)) (kk : ∀ v, Sim l G Y lim (f v) K (pc + 1) ls (.inr (.inl v) :: st) M) : Sim l G Y lim ((rmL x y).bind f) K pc ls (.inr (.inl y) :: .inr (.inl x) :: st) M := by
  intro res hres
  obtain ⟨v, h1, h2⟩ := bind2 hres
  intro p e R s m args below meth c H locs cells slots Q lsA hC hR hS hN hlen hl hr
  have k := kk v res h2 p e R s m args below meth c H locs cells slots Q lsA hC hR hS hN hlen hl hr
  unfold rmL at h1
  split at h1
  · cases h1
  · cases h1
    exact lv_lrem hC.1 hC.2.1 hd (by assumption) k
/-! pieces -/
theorem sim_bind {β : Type} {e : Option β} {f : β → Option α} (h : Sim l G Y lim e (fun x => (f x).bind K) pc ls st M) : Sim l G Y lim (e.bind f) K pc ls st M := by
  unfold Sim at h ⊢
  rw [Option.bind_assoc]
  exact h
def lsub : Loc_s → Loc_s → Prop
  | [], [] => True
  | none :: r', _ :: r => lsub r' r
  | some v :: r', u :: r => u = some v ∧ lsub r' r
  | _, _ => False
theorem lsub_at : ∀ (a b : Loc_s), lsub a b → a.length = b.length ∧ ∀ (i : Nat) (v : MV), a[i]? = some (some v) → b[i]? = some (some v)
  | [], [], _ => ⟨rfl, fun i v h => by simp at h⟩
  | none :: r', u :: r, h => by
    obtain ⟨h1, h2⟩ := lsub_at r' r h
    refine ⟨by simp [h1], fun i v hv => ?_⟩
    cases i with
    | zero => simp at hv
    | succ i => simpa using h2 i v (by simpa using hv)
  | some w :: r', u :: r, h => by
    obtain ⟨h1, h2⟩ := lsub_at r' r h.2
    refine ⟨by simp [h1], fun i v hv => ?_⟩
    cases i with
    | zero => rw [h.1]; exact hv
    | succ i => simpa using h2 i v (by simpa using hv)
  | [], _ :: _, h => h.elim
  | none :: _, [], h => h.elim
  | some _ :: _, [], h => h.elim
theorem s_lsub {X : Option (Option Value × Mem)} {ls' : Loc_s} (h : lsub ls' ls) (k : SimR l G Y lim X pc ls' st M) : SimR l G Y lim X pc ls st M := by
  obtain ⟨h1, h2⟩ := lsub_at ls' ls h
  intro res hres p e R s m args below meth c H locs cells slots Q lsA hC hR hS hN hlen hl hr
  refine k res hres p e R s m args below meth c H locs cells slots Q lsA hC hR hS hN (h1.trans hlen) (lv_mono hl ?_) hr
  rintro ⟨i, w⟩ hq
  obtain ⟨j, v, h3, h4, h5⟩ := (asc_in ls' 0 i w).mp hq
  exact (asc_in ls 0 i w).mpr ⟨j, v, h2 j v h3, h4, h5⟩
theorem s_iter {σ ρ : Type} {f : σ → Option (σ ⊕ ρ)} {hd : Nat} {cl : σ → Loc_s} {cm : σ → Mem} {xp : ρ → Nat} {xl : ρ → Loc_s} {xm : ρ → Mem}
    (hb : ∀ (s : σ) (K : σ ⊕ ρ → Option (Option Value × Mem)), (∀ s', SimR l G Y lim (K (.inl s')) hd (cl s') [] (cm s')) → (∀ r, SimR l G Y lim (K (.inr r)) (xp r) (xl r) [] (xm r)) → Sim l G Y lim (f s) K hd (cl s) [] (cm s)) :
    ∀ (n : Nat) (s : σ) (K : ρ → Option (Option Value × Mem)), (∀ r, SimR l G Y lim (K r) (xp r) (xl r) [] (xm r)) → Sim l G Y lim (iter f n s) K hd (cl s) [] (cm s) := by
  intro n
  induction n with
  | zero =>
    intro s K _ res hres
    cases hres
  | succ n ih =>
    intro s K hK
    show SimR l G Y lim (((f s).bind _).bind K) hd (cl s) [] (cm s)
    rw [Option.bind_assoc]
    exact hb s _ (fun s' => ih s' K hK) (fun r => hK r)
/-! ends of methods -/
theorem s_ret {X : Option (Option Value × Mem)} {r : Option Value} (hX : X = some (r, M)) (hst : st.map (cv G) = r.toList) (hd : decode Y.2.1 pc = .ok (retI r, 1)) (ho : retOK Y.2.2.2.1 r) : SimR l G Y lim X pc ls st M := by
  intro res hres p e R s m args below meth c H locs cells slots Q lsA hC hR hS hN hlen hl hr
  have : (r, M) = res := Option.some.inj (hX.symm.trans hres)
  subst this
  rw [hst]
  exact hr H locs cells slots lsA pc hd ho hR hS hN
theorem s_iret {v : Int32} (hd : decode Y.2.1 pc = .ok (.ireturn, 1)) (hY : Y.2.2.2.1 = some .int) : SimR l G Y lim (some (some (.int v), M)) pc ls [.inl v] M := s_ret rfl rfl hd ⟨.int, hY, rfl⟩
theorem s_lret {v : Int64} (hd : decode Y.2.1 pc = .ok (.lreturn, 1)) (hY : Y.2.2.2.1 = some .long) : SimR l G Y lim (some (some (.long v), M)) pc ls [.inr (.inl v)] M := s_ret rfl rfl hd hY
theorem s_vret (hd : decode Y.2.1 pc = .ok (.return_, 1)) (hY : Y.2.2.2.1 = none) : SimR l G Y lim (some (none, M)) pc ls [] M := s_ret rfl rfl hd hY
theorem s_aret {n : Nat} {t : FieldType} (hd : decode Y.2.1 pc = .ok (.areturn, 1)) (hY : Y.2.2.2.1 = some t) (ht : (∃ nm, t = .object nm) ∨ ∃ u, t = .array u) : SimR l G Y lim (some (some (rv G n), M)) pc ls [.inr (.inr n)] M := by
  refine s_ret rfl rfl ?_ ?_
  · rcases rv_or G n with e | ⟨q, e⟩ <;> rw [e] <;> exact hd
  · rcases rv_or G n with e | ⟨q, e⟩ <;> rw [e]
    · exact ⟨Or.inl rfl, t, hY, ht⟩
    · exact ⟨Or.inr ⟨q, rfl⟩, t, hY, ht⟩
theorem s_zret {v : Int32} {f : Int32 → Option (Option Value × Mem)} (hf : f v = some (some (.int v), M)) (hd : decode Y.2.1 pc = .ok (.ireturn, 1)) (hY : Y.2.2.2.1 = some .boolean) : Sim l G Y lim (zr v) f pc ls [.inl v] M := by
  intro res hres
  unfold zr at hres
  split at hres
  · rename_i h
    exact s_ret (r := some (.int v)) rfl rfl hd ⟨.boolean, hY, by rcases h with rfl | rfl <;> rfl⟩ res (by rw [← hf]; exact hres)
  · cases hres
end CT
