def f_L_law_J569 (lim : Nat × Nat) (X : List Int32) (M : Mem) (x1 : Nat) (x2 : Nat) (x3 : Int32) (y0 : Int32) (y1 : Nat) (y2 : Int32) (y3 : Int32) (y4 : Int32) (y5 : Int32) : Option ((Int32 × Mem) ⊕ ((Mem))) :=
  (ob M 12 y1).bind fun _ => (f_X12_who M y1 y2 y3 y4 y5).bind fun z1 =>
  (if y0 = z1.1 then
    some (.inl ((x3 + (6 : Int32)), z1.2))
  else
    none)
set_option maxRecDepth 20000 in
theorem J_L_law_569 {l : Launch} {G : Gv} {lim : Nat × Nat} (M : Mem) (x1 : Nat) (x2 : Nat) (x3 : Int32) (y0 : Int32) (y1 : Nat) (y2 : Int32) (y3 : Int32) (y4 : Int32) (y5 : Int32) (K : (Int32 × Mem) ⊕ ((Mem)) → Option (Option Value × Mem)) (kk1 : ∀ s' : Int32 × Mem, SimR l G Y_L_law lim (K (.inl s')) 18 [some (.inr (.inr 4000)), some (.inr (.inr x1)), some (.inr (.inr x2)), some (.inl s'.1)] [] s'.2) (kk2_0 : ∀ r : Mem, SimR l G Y_L_law lim (K (.inr r)) 1851 [none, none, none, none] [] r) : Sim l G Y_L_law lim (f_L_law_J569 lim G.2.2.2.2 M x1 x2 x3 y0 y1 y2 y3 y4 y5) K 569 [some (.inr (.inr 4000)), some (.inr (.inr x1)), some (.inr (.inr x2)), some (.inl x3)] [.inl y5, .inl y4, .inl y3, .inl y2, .inr (.inr y1), .inl y0] M := by
  unfold f_L_law_J569
  refine s_cV (Z := Y_X12_who) (c := 12) (vs := [.inl y2, .inl y3, .inl y4, .inl y5]) (st := [.inl y0]) (rO := fun z => some (.inl z.1)) (mO := fun z => z.2) zk_X12_who zi_X12_who q1641 rfl ⟨by decide, by decide⟩ ⟨rfl, rfl⟩ rfl rfl (Nat.le_of_ble_eq_true rfl) (by decide +kernel) (fun z hz => c_X12_who hz) (fun z1 => ?_)
  change Sim l G Y_L_law lim _ _ 572 [some (.inr (.inr 4000)), some (.inr (.inr x1)), some (.inr (.inr x2)), some (.inl x3)] [.inl z1.1, .inl y0] z1.2
  refine s_ic_eq (tgt := 1845) (off := 1273) (by decide +kernel) (by decide) (fun h2 => ?_) (fun h2 => ?_)
  · skip
    refine s_run (b := [(.iinc 3 6, 3), (.goto (-1830), 3)]) 18 [some (.inr (.inr 4000)), some (.inr (.inr x1)), some (.inr (.inr x2)), some (.inl (x3 + (6 : Int32)))] [] (by decide +kernel) rfl ?_
    generalize (x3 + (6 : Int32)) = g3
    exact s_lsub (ls' := [some (.inr (.inr 4000)), some (.inr (.inr x1)), some (.inr (.inr x2)), some (.inl g3)]) ⟨rfl, ⟨rfl, ⟨rfl, ⟨rfl, trivial⟩⟩⟩⟩ (kk1 (g3, z1.2))
  · skip
    exact s_none
def f_L_law_J537 (lim : Nat × Nat) (X : List Int32) (M : Mem) (x1 : Nat) (x2 : Nat) (x3 : Int32) (y0 : Nat) (y1 : Int32) (y2 : Int32) (y3 : Int32) (y4 : Int32) : Option ((Int32 × Mem) ⊕ ((Mem))) :=
  (ob M 11 y0).bind fun _ => (f_X11_who M y0 y1 y2 y3 y4).bind fun z1 =>
  (scI X (x3 + (1 : Int32))).bind fun v2 =>
  (scI X (x3 + (2 : Int32))).bind fun v3 =>
  (scI X (x3 + (3 : Int32))).bind fun v4 =>
  (scI X (x3 + (4 : Int32))).bind fun v5 =>
  (if v5 = 0 then
    f_L_law_J569 lim X z1.2 x1 x2 x3 z1.1 x2 v2 v3 v4 (0 : Int32)
  else
    f_L_law_J569 lim X z1.2 x1 x2 x3 z1.1 x2 v2 v3 v4 (1 : Int32))
set_option maxRecDepth 20000 in
theorem J_L_law_537 {l : Launch} {G : Gv} {lim : Nat × Nat} (M : Mem) (x1 : Nat) (x2 : Nat) (x3 : Int32) (y0 : Nat) (y1 : Int32) (y2 : Int32) (y3 : Int32) (y4 : Int32) (K : (Int32 × Mem) ⊕ ((Mem)) → Option (Option Value × Mem)) (kk1 : ∀ s' : Int32 × Mem, SimR l G Y_L_law lim (K (.inl s')) 18 [some (.inr (.inr 4000)), some (.inr (.inr x1)), some (.inr (.inr x2)), some (.inl s'.1)] [] s'.2) (kk2_0 : ∀ r : Mem, SimR l G Y_L_law lim (K (.inr r)) 1851 [none, none, none, none] [] r) : Sim l G Y_L_law lim (f_L_law_J537 lim G.2.2.2.2 M x1 x2 x3 y0 y1 y2 y3 y4) K 537 [some (.inr (.inr 4000)), some (.inr (.inr x1)), some (.inr (.inr x2)), some (.inl x3)] [.inl y4, .inl y3, .inl y2, .inl y1, .inr (.inr y0)] M := by
  unfold f_L_law_J537
  refine s_cV (Z := Y_X11_who) (c := 11) (vs := [.inl y1, .inl y2, .inl y3, .inl y4]) (st := []) (rO := fun z => some (.inl z.1)) (mO := fun z => z.2) zk_X11_who zi_X11_who q841 rfl ⟨by decide, by decide⟩ ⟨rfl, rfl⟩ rfl rfl (Nat.le_of_ble_eq_true rfl) (by decide +kernel) (fun z hz => c_X11_who hz) (fun z1 => ?_)
  change Sim l G Y_L_law lim _ _ 540 [some (.inr (.inr 4000)), some (.inr (.inr x1)), some (.inr (.inr x2)), some (.inl x3)] [.inl z1.1] z1.2
  refine s_run (b := [(.aload_n 2, 1), (.aload_n 0, 1), (.iload_n 3, 1), (.iconst 1, 1), (.iadd, 1)]) 545 [some (.inr (.inr 4000)), some (.inr (.inr x1)), some (.inr (.inr x2)), some (.inl x3)] [.inl (x3 + (1 : Int32)), .inr (.inr 4000), .inr (.inr x2), .inl z1.1] (by decide +kernel) rfl ?_
  refine s_sc (by decide +kernel) (fun v2 => ?_)
  refine s_run (b := [(.aload_n 0, 1), (.iload_n 3, 1), (.iconst 2, 1), (.iadd, 1)]) 550 [some (.inr (.inr 4000)), some (.inr (.inr x1)), some (.inr (.inr x2)), some (.inl x3)] [.inl (x3 + (2 : Int32)), .inr (.inr 4000), .inl v2, .inr (.inr x2), .inl z1.1] (by decide +kernel) rfl ?_
  refine s_sc (by decide +kernel) (fun v3 => ?_)
  refine s_run (b := [(.aload_n 0, 1), (.iload_n 3, 1), (.iconst 3, 1), (.iadd, 1)]) 555 [some (.inr (.inr 4000)), some (.inr (.inr x1)), some (.inr (.inr x2)), some (.inl x3)] [.inl (x3 + (3 : Int32)), .inr (.inr 4000), .inl v3, .inl v2, .inr (.inr x2), .inl z1.1] (by decide +kernel) rfl ?_
  refine s_sc (by decide +kernel) (fun v4 => ?_)
  refine s_run (b := [(.aload_n 0, 1), (.iload_n 3, 1), (.iconst 4, 1), (.iadd, 1)]) 560 [some (.inr (.inr 4000)), some (.inr (.inr x1)), some (.inr (.inr x2)), some (.inl x3)] [.inl (x3 + (4 : Int32)), .inr (.inr 4000), .inl v4, .inl v3, .inl v2, .inr (.inr x2), .inl z1.1] (by decide +kernel) rfl ?_
  refine s_sc (by decide +kernel) (fun v5 => ?_)
  refine s_if_eq (tgt := 568) (off := 7) (by decide +kernel) (by decide) (fun h6 => ?_) (fun h6 => ?_)
  · skip
    refine s_run (b := [(.iconst 0, 1)]) 569 [some (.inr (.inr 4000)), some (.inr (.inr x1)), some (.inr (.inr x2)), some (.inl x3)] [.inl (0 : Int32), .inl v4, .inl v3, .inl v2, .inr (.inr x2), .inl z1.1] (by decide +kernel) rfl ?_
    exact s_lsub (ls' := [some (.inr (.inr 4000)), some (.inr (.inr x1)), some (.inr (.inr x2)), some (.inl x3)]) ⟨rfl, ⟨rfl, ⟨rfl, ⟨rfl, trivial⟩⟩⟩⟩ (J_L_law_569 z1.2 x1 x2 x3 z1.1 x2 v2 v3 v4 (0 : Int32) K kk1 kk2_0)
  · skip
    refine s_run (b := [(.iconst 1, 1), (.goto 4, 3)]) 569 [some (.inr (.inr 4000)), some (.inr (.inr x1)), some (.inr (.inr x2)), some (.inl x3)] [.inl (1 : Int32), .inl v4, .inl v3, .inl v2, .inr (.inr x2), .inl z1.1] (by decide +kernel) rfl ?_
    exact s_lsub (ls' := [some (.inr (.inr 4000)), some (.inr (.inr x1)), some (.inr (.inr x2)), some (.inl x3)]) ⟨rfl, ⟨rfl, ⟨rfl, ⟨rfl, trivial⟩⟩⟩⟩ (J_L_law_569 z1.2 x1 x2 x3 z1.1 x2 v2 v3 v4 (1 : Int32) K kk1 kk2_0)
def f_L_law_J651 (lim : Nat × Nat) (X : List Int32) (M : Mem) (x1 : Nat) (x2 : Nat) (x3 : Int32) (y0 : Int64) (y1 : Nat) (y2 : Int32) (y3 : Int32) (y4 : Int32) : Option ((Int32 × Mem) ⊕ ((Mem))) :=
  (ob M 12 y1).bind fun _ => (f_X12_odds M y1 y2 y3 y4).bind fun z1 =>
  (if (lg_cmp y0 z1.1) = 0 then
    some (.inl ((x3 + (6 : Int32)), z1.2))
  else
    none)
set_option maxRecDepth 20000 in
theorem J_L_law_651 {l : Launch} {G : Gv} {lim : Nat × Nat} (M : Mem) (x1 : Nat) (x2 : Nat) (x3 : Int32) (y0 : Int64) (y1 : Nat) (y2 : Int32) (y3 : Int32) (y4 : Int32) (K : (Int32 × Mem) ⊕ ((Mem)) → Option (Option Value × Mem)) (kk1 : ∀ s' : Int32 × Mem, SimR l G Y_L_law lim (K (.inl s')) 18 [some (.inr (.inr 4000)), some (.inr (.inr x1)), some (.inr (.inr x2)), some (.inl s'.1)] [] s'.2) (kk2_0 : ∀ r : Mem, SimR l G Y_L_law lim (K (.inr r)) 1851 [none, none, none, none] [] r) : Sim l G Y_L_law lim (f_L_law_J651 lim G.2.2.2.2 M x1 x2 x3 y0 y1 y2 y3 y4) K 651 [some (.inr (.inr 4000)), some (.inr (.inr x1)), some (.inr (.inr x2)), some (.inl x3)] [.inl y4, .inl y3, .inl y2, .inr (.inr y1), .inr (.inl y0)] M := by
  unfold f_L_law_J651
  refine s_cV (Z := Y_X12_odds) (c := 12) (vs := [.inl y2, .inl y3, .inl y4]) (st := [.inr (.inl y0)]) (rO := fun z => some (.inr (.inl z.1))) (mO := fun z => z.2) zk_X12_odds zi_X12_odds q1656 rfl ⟨by decide, by decide⟩ ⟨rfl, rfl⟩ rfl rfl (Nat.le_of_ble_eq_true rfl) (by decide +kernel) (fun z hz => c_X12_odds hz) (fun z1 => ?_)
  change Sim l G Y_L_law lim _ _ 654 [some (.inr (.inr 4000)), some (.inr (.inr x1)), some (.inr (.inr x2)), some (.inl x3)] [.inr (.inl z1.1), .inr (.inl y0)] z1.2
  refine s_run (b := [(.lcmp, 1)]) 655 [some (.inr (.inr 4000)), some (.inr (.inr x1)), some (.inr (.inr x2)), some (.inl x3)] [.inl (lg_cmp y0 z1.1)] (by decide +kernel) rfl ?_
  refine s_if_eq (tgt := 1845) (off := 1190) (by decide +kernel) (by decide) (fun h2 => ?_) (fun h2 => ?_)
  · skip
    refine s_run (b := [(.iinc 3 6, 3), (.goto (-1830), 3)]) 18 [some (.inr (.inr 4000)), some (.inr (.inr x1)), some (.inr (.inr x2)), some (.inl (x3 + (6 : Int32)))] [] (by decide +kernel) rfl ?_
    generalize (x3 + (6 : Int32)) = g3
    exact s_lsub (ls' := [some (.inr (.inr 4000)), some (.inr (.inr x1)), some (.inr (.inr x2)), some (.inl g3)]) ⟨rfl, ⟨rfl, ⟨rfl, ⟨rfl, trivial⟩⟩⟩⟩ (kk1 (g3, z1.2))
  · skip
    exact s_none
def f_L_law_J624 (lim : Nat × Nat) (X : List Int32) (M : Mem) (x1 : Nat) (x2 : Nat) (x3 : Int32) (y0 : Nat) (y1 : Int32) (y2 : Int32) (y3 : Int32) : Option ((Int32 × Mem) ⊕ ((Mem))) :=
  (ob M 11 y0).bind fun _ => (f_X11_odds M y0 y1 y2 y3).bind fun z1 =>
  (scI X (x3 + (1 : Int32))).bind fun v2 =>
  (scI X (x3 + (2 : Int32))).bind fun v3 =>
  (scI X (x3 + (3 : Int32))).bind fun v4 =>
  (if v4 = 0 then
    f_L_law_J651 lim X z1.2 x1 x2 x3 z1.1 x2 v2 v3 (0 : Int32)
  else
    f_L_law_J651 lim X z1.2 x1 x2 x3 z1.1 x2 v2 v3 (1 : Int32))
set_option maxRecDepth 20000 in
theorem J_L_law_624 {l : Launch} {G : Gv} {lim : Nat × Nat} (M : Mem) (x1 : Nat) (x2 : Nat) (x3 : Int32) (y0 : Nat) (y1 : Int32) (y2 : Int32) (y3 : Int32) (K : (Int32 × Mem) ⊕ ((Mem)) → Option (Option Value × Mem)) (kk1 : ∀ s' : Int32 × Mem, SimR l G Y_L_law lim (K (.inl s')) 18 [some (.inr (.inr 4000)), some (.inr (.inr x1)), some (.inr (.inr x2)), some (.inl s'.1)] [] s'.2) (kk2_0 : ∀ r : Mem, SimR l G Y_L_law lim (K (.inr r)) 1851 [none, none, none, none] [] r) : Sim l G Y_L_law lim (f_L_law_J624 lim G.2.2.2.2 M x1 x2 x3 y0 y1 y2 y3) K 624 [some (.inr (.inr 4000)), some (.inr (.inr x1)), some (.inr (.inr x2)), some (.inl x3)] [.inl y3, .inl y2, .inl y1, .inr (.inr y0)] M := by
  unfold f_L_law_J624
  refine s_cV (Z := Y_X11_odds) (c := 11) (vs := [.inl y1, .inl y2, .inl y3]) (st := []) (rO := fun z => some (.inr (.inl z.1))) (mO := fun z => z.2) zk_X11_odds zi_X11_odds q866 rfl ⟨by decide, by decide⟩ ⟨rfl, rfl⟩ rfl rfl (Nat.le_of_ble_eq_true rfl) (by decide +kernel) (fun z hz => c_X11_odds hz) (fun z1 => ?_)
  change Sim l G Y_L_law lim _ _ 627 [some (.inr (.inr 4000)), some (.inr (.inr x1)), some (.inr (.inr x2)), some (.inl x3)] [.inr (.inl z1.1)] z1.2
  refine s_run (b := [(.aload_n 2, 1), (.aload_n 0, 1), (.iload_n 3, 1), (.iconst 1, 1), (.iadd, 1)]) 632 [some (.inr (.inr 4000)), some (.inr (.inr x1)), some (.inr (.inr x2)), some (.inl x3)] [.inl (x3 + (1 : Int32)), .inr (.inr 4000), .inr (.inr x2), .inr (.inl z1.1)] (by decide +kernel) rfl ?_
  refine s_sc (by decide +kernel) (fun v2 => ?_)
  refine s_run (b := [(.aload_n 0, 1), (.iload_n 3, 1), (.iconst 2, 1), (.iadd, 1)]) 637 [some (.inr (.inr 4000)), some (.inr (.inr x1)), some (.inr (.inr x2)), some (.inl x3)] [.inl (x3 + (2 : Int32)), .inr (.inr 4000), .inl v2, .inr (.inr x2), .inr (.inl z1.1)] (by decide +kernel) rfl ?_
  refine s_sc (by decide +kernel) (fun v3 => ?_)
  refine s_run (b := [(.aload_n 0, 1), (.iload_n 3, 1), (.iconst 3, 1), (.iadd, 1)]) 642 [some (.inr (.inr 4000)), some (.inr (.inr x1)), some (.inr (.inr x2)), some (.inl x3)] [.inl (x3 + (3 : Int32)), .inr (.inr 4000), .inl v3, .inl v2, .inr (.inr x2), .inr (.inl z1.1)] (by decide +kernel) rfl ?_
  refine s_sc (by decide +kernel) (fun v4 => ?_)
  refine s_if_eq (tgt := 650) (off := 7) (by decide +kernel) (by decide) (fun h5 => ?_) (fun h5 => ?_)
  · skip
    refine s_run (b := [(.iconst 0, 1)]) 651 [some (.inr (.inr 4000)), some (.inr (.inr x1)), some (.inr (.inr x2)), some (.inl x3)] [.inl (0 : Int32), .inl v3, .inl v2, .inr (.inr x2), .inr (.inl z1.1)] (by decide +kernel) rfl ?_
    exact s_lsub (ls' := [some (.inr (.inr 4000)), some (.inr (.inr x1)), some (.inr (.inr x2)), some (.inl x3)]) ⟨rfl, ⟨rfl, ⟨rfl, ⟨rfl, trivial⟩⟩⟩⟩ (J_L_law_651 z1.2 x1 x2 x3 z1.1 x2 v2 v3 (0 : Int32) K kk1 kk2_0)
  · skip
    refine s_run (b := [(.iconst 1, 1), (.goto 4, 3)]) 651 [some (.inr (.inr 4000)), some (.inr (.inr x1)), some (.inr (.inr x2)), some (.inl x3)] [.inl (1 : Int32), .inl v3, .inl v2, .inr (.inr x2), .inr (.inl z1.1)] (by decide +kernel) rfl ?_
    exact s_lsub (ls' := [some (.inr (.inr 4000)), some (.inr (.inr x1)), some (.inr (.inr x2)), some (.inl x3)]) ⟨rfl, ⟨rfl, ⟨rfl, ⟨rfl, trivial⟩⟩⟩⟩ (J_L_law_651 z1.2 x1 x2 x3 z1.1 x2 v2 v3 (1 : Int32) K kk1 kk2_0)
def f_L_law_J711 (lim : Nat × Nat) (X : List Int32) (M : Mem) (x1 : Nat) (x2 : Nat) (x3 : Int32) (y0 : Int64) (y1 : Nat) (y2 : Int32) (y3 : Int32) (y4 : Int32) : Option ((Int32 × Mem) ⊕ ((Mem))) :=
  (ob M 12 y1).bind fun _ => (f_X12_mean M y1 y2 y3 y4).bind fun z1 =>
  (if (lg_cmp y0 z1.1) = 0 then
    some (.inl ((x3 + (6 : Int32)), z1.2))
  else
    none)
set_option maxRecDepth 20000 in
theorem J_L_law_711 {l : Launch} {G : Gv} {lim : Nat × Nat} (M : Mem) (x1 : Nat) (x2 : Nat) (x3 : Int32) (y0 : Int64) (y1 : Nat) (y2 : Int32) (y3 : Int32) (y4 : Int32) (K : (Int32 × Mem) ⊕ ((Mem)) → Option (Option Value × Mem)) (kk1 : ∀ s' : Int32 × Mem, SimR l G Y_L_law lim (K (.inl s')) 18 [some (.inr (.inr 4000)), some (.inr (.inr x1)), some (.inr (.inr x2)), some (.inl s'.1)] [] s'.2) (kk2_0 : ∀ r : Mem, SimR l G Y_L_law lim (K (.inr r)) 1851 [none, none, none, none] [] r) : Sim l G Y_L_law lim (f_L_law_J711 lim G.2.2.2.2 M x1 x2 x3 y0 y1 y2 y3 y4) K 711 [some (.inr (.inr 4000)), some (.inr (.inr x1)), some (.inr (.inr x2)), some (.inl x3)] [.inl y4, .inl y3, .inl y2, .inr (.inr y1), .inr (.inl y0)] M := by
  unfold f_L_law_J711
  refine s_cV (Z := Y_X12_mean) (c := 12) (vs := [.inl y2, .inl y3, .inl y4]) (st := [.inr (.inl y0)]) (rO := fun z => some (.inr (.inl z.1))) (mO := fun z => z.2) zk_X12_mean zi_X12_mean q1679 rfl ⟨by decide, by decide⟩ ⟨rfl, rfl⟩ rfl rfl (Nat.le_of_ble_eq_true rfl) (by decide +kernel) (fun z hz => c_X12_mean hz) (fun z1 => ?_)
  change Sim l G Y_L_law lim _ _ 714 [some (.inr (.inr 4000)), some (.inr (.inr x1)), some (.inr (.inr x2)), some (.inl x3)] [.inr (.inl z1.1), .inr (.inl y0)] z1.2
  refine s_run (b := [(.lcmp, 1)]) 715 [some (.inr (.inr 4000)), some (.inr (.inr x1)), some (.inr (.inr x2)), some (.inl x3)] [.inl (lg_cmp y0 z1.1)] (by decide +kernel) rfl ?_
  refine s_if_eq (tgt := 1845) (off := 1130) (by decide +kernel) (by decide) (fun h2 => ?_) (fun h2 => ?_)
  · skip
    refine s_run (b := [(.iinc 3 6, 3), (.goto (-1830), 3)]) 18 [some (.inr (.inr 4000)), some (.inr (.inr x1)), some (.inr (.inr x2)), some (.inl (x3 + (6 : Int32)))] [] (by decide +kernel) rfl ?_
    generalize (x3 + (6 : Int32)) = g3
    exact s_lsub (ls' := [some (.inr (.inr 4000)), some (.inr (.inr x1)), some (.inr (.inr x2)), some (.inl g3)]) ⟨rfl, ⟨rfl, ⟨rfl, ⟨rfl, trivial⟩⟩⟩⟩ (kk1 (g3, z1.2))
  · skip
    exact s_none
def f_L_law_J684 (lim : Nat × Nat) (X : List Int32) (M : Mem) (x1 : Nat) (x2 : Nat) (x3 : Int32) (y0 : Nat) (y1 : Int32) (y2 : Int32) (y3 : Int32) : Option ((Int32 × Mem) ⊕ ((Mem))) :=
  (ob M 11 y0).bind fun _ => (f_X11_mean M y0 y1 y2 y3).bind fun z1 =>
  (scI X (x3 + (1 : Int32))).bind fun v2 =>
  (scI X (x3 + (2 : Int32))).bind fun v3 =>
  (scI X (x3 + (3 : Int32))).bind fun v4 =>
  (if v4 = 0 then
    f_L_law_J711 lim X z1.2 x1 x2 x3 z1.1 x2 v2 v3 (0 : Int32)
  else
    f_L_law_J711 lim X z1.2 x1 x2 x3 z1.1 x2 v2 v3 (1 : Int32))
set_option maxRecDepth 20000 in
theorem J_L_law_684 {l : Launch} {G : Gv} {lim : Nat × Nat} (M : Mem) (x1 : Nat) (x2 : Nat) (x3 : Int32) (y0 : Nat) (y1 : Int32) (y2 : Int32) (y3 : Int32) (K : (Int32 × Mem) ⊕ ((Mem)) → Option (Option Value × Mem)) (kk1 : ∀ s' : Int32 × Mem, SimR l G Y_L_law lim (K (.inl s')) 18 [some (.inr (.inr 4000)), some (.inr (.inr x1)), some (.inr (.inr x2)), some (.inl s'.1)] [] s'.2) (kk2_0 : ∀ r : Mem, SimR l G Y_L_law lim (K (.inr r)) 1851 [none, none, none, none] [] r) : Sim l G Y_L_law lim (f_L_law_J684 lim G.2.2.2.2 M x1 x2 x3 y0 y1 y2 y3) K 684 [some (.inr (.inr 4000)), some (.inr (.inr x1)), some (.inr (.inr x2)), some (.inl x3)] [.inl y3, .inl y2, .inl y1, .inr (.inr y0)] M := by
  unfold f_L_law_J684
  refine s_cV (Z := Y_X11_mean) (c := 11) (vs := [.inl y1, .inl y2, .inl y3]) (st := []) (rO := fun z => some (.inr (.inl z.1))) (mO := fun z => z.2) zk_X11_mean zi_X11_mean q897 rfl ⟨by decide, by decide⟩ ⟨rfl, rfl⟩ rfl rfl (Nat.le_of_ble_eq_true rfl) (by decide +kernel) (fun z hz => c_X11_mean hz) (fun z1 => ?_)
  change Sim l G Y_L_law lim _ _ 687 [some (.inr (.inr 4000)), some (.inr (.inr x1)), some (.inr (.inr x2)), some (.inl x3)] [.inr (.inl z1.1)] z1.2
  refine s_run (b := [(.aload_n 2, 1), (.aload_n 0, 1), (.iload_n 3, 1), (.iconst 1, 1), (.iadd, 1)]) 692 [some (.inr (.inr 4000)), some (.inr (.inr x1)), some (.inr (.inr x2)), some (.inl x3)] [.inl (x3 + (1 : Int32)), .inr (.inr 4000), .inr (.inr x2), .inr (.inl z1.1)] (by decide +kernel) rfl ?_
  refine s_sc (by decide +kernel) (fun v2 => ?_)
  refine s_run (b := [(.aload_n 0, 1), (.iload_n 3, 1), (.iconst 2, 1), (.iadd, 1)]) 697 [some (.inr (.inr 4000)), some (.inr (.inr x1)), some (.inr (.inr x2)), some (.inl x3)] [.inl (x3 + (2 : Int32)), .inr (.inr 4000), .inl v2, .inr (.inr x2), .inr (.inl z1.1)] (by decide +kernel) rfl ?_
  refine s_sc (by decide +kernel) (fun v3 => ?_)
  refine s_run (b := [(.aload_n 0, 1), (.iload_n 3, 1), (.iconst 3, 1), (.iadd, 1)]) 702 [some (.inr (.inr 4000)), some (.inr (.inr x1)), some (.inr (.inr x2)), some (.inl x3)] [.inl (x3 + (3 : Int32)), .inr (.inr 4000), .inl v3, .inl v2, .inr (.inr x2), .inr (.inl z1.1)] (by decide +kernel) rfl ?_
  refine s_sc (by decide +kernel) (fun v4 => ?_)
  refine s_if_eq (tgt := 710) (off := 7) (by decide +kernel) (by decide) (fun h5 => ?_) (fun h5 => ?_)
  · skip
    refine s_run (b := [(.iconst 0, 1)]) 711 [some (.inr (.inr 4000)), some (.inr (.inr x1)), some (.inr (.inr x2)), some (.inl x3)] [.inl (0 : Int32), .inl v3, .inl v2, .inr (.inr x2), .inr (.inl z1.1)] (by decide +kernel) rfl ?_
    exact s_lsub (ls' := [some (.inr (.inr 4000)), some (.inr (.inr x1)), some (.inr (.inr x2)), some (.inl x3)]) ⟨rfl, ⟨rfl, ⟨rfl, ⟨rfl, trivial⟩⟩⟩⟩ (J_L_law_711 z1.2 x1 x2 x3 z1.1 x2 v2 v3 (0 : Int32) K kk1 kk2_0)
  · skip
    refine s_run (b := [(.iconst 1, 1), (.goto 4, 3)]) 711 [some (.inr (.inr 4000)), some (.inr (.inr x1)), some (.inr (.inr x2)), some (.inl x3)] [.inl (1 : Int32), .inl v3, .inl v2, .inr (.inr x2), .inr (.inl z1.1)] (by decide +kernel) rfl ?_
    exact s_lsub (ls' := [some (.inr (.inr 4000)), some (.inr (.inr x1)), some (.inr (.inr x2)), some (.inl x3)]) ⟨rfl, ⟨rfl, ⟨rfl, ⟨rfl, trivial⟩⟩⟩⟩ (J_L_law_711 z1.2 x1 x2 x3 z1.1 x2 v2 v3 (1 : Int32) K kk1 kk2_0)
def f_L_law_J997 (lim : Nat × Nat) (X : List Int32) (M : Mem) (x1 : Nat) (x2 : Nat) (x3 : Int32) (y0 : Int32) (y1 : Nat) (y2 : Int32) (y3 : Int32) (y4 : Int32) : Option ((Int32 × Mem) ⊕ ((Mem))) :=
  (ob M 12 y1).bind fun _ => (f_X12_lunch M y1 y2 y3 y4).bind fun z1 =>
  (if y0 = z1.1 then
    some (.inl ((x3 + (6 : Int32)), z1.2))
  else
    none)
set_option maxRecDepth 20000 in
theorem J_L_law_997 {l : Launch} {G : Gv} {lim : Nat × Nat} (M : Mem) (x1 : Nat) (x2 : Nat) (x3 : Int32) (y0 : Int32) (y1 : Nat) (y2 : Int32) (y3 : Int32) (y4 : Int32) (K : (Int32 × Mem) ⊕ ((Mem)) → Option (Option Value × Mem)) (kk1 : ∀ s' : Int32 × Mem, SimR l G Y_L_law lim (K (.inl s')) 18 [some (.inr (.inr 4000)), some (.inr (.inr x1)), some (.inr (.inr x2)), some (.inl s'.1)] [] s'.2) (kk2_0 : ∀ r : Mem, SimR l G Y_L_law lim (K (.inr r)) 1851 [none, none, none, none] [] r) : Sim l G Y_L_law lim (f_L_law_J997 lim G.2.2.2.2 M x1 x2 x3 y0 y1 y2 y3 y4) K 997 [some (.inr (.inr 4000)), some (.inr (.inr x1)), some (.inr (.inr x2)), some (.inl x3)] [.inl y4, .inl y3, .inl y2, .inr (.inr y1), .inl y0] M := by
  unfold f_L_law_J997
  refine s_cV (Z := Y_X12_lunch) (c := 12) (vs := [.inl y2, .inl y3, .inl y4]) (st := [.inl y0]) (rO := fun z => some (.inl z.1)) (mO := fun z => z.2) zk_X12_lunch zi_X12_lunch q1771 rfl ⟨by decide, by decide⟩ ⟨rfl, rfl⟩ rfl rfl (Nat.le_of_ble_eq_true rfl) (by decide +kernel) (fun z hz => c_X12_lunch hz) (fun z1 => ?_)
  change Sim l G Y_L_law lim _ _ 1000 [some (.inr (.inr 4000)), some (.inr (.inr x1)), some (.inr (.inr x2)), some (.inl x3)] [.inl z1.1, .inl y0] z1.2
  refine s_ic_eq (tgt := 1845) (off := 845) (by decide +kernel) (by decide) (fun h2 => ?_) (fun h2 => ?_)
  · skip
    refine s_run (b := [(.iinc 3 6, 3), (.goto (-1830), 3)]) 18 [some (.inr (.inr 4000)), some (.inr (.inr x1)), some (.inr (.inr x2)), some (.inl (x3 + (6 : Int32)))] [] (by decide +kernel) rfl ?_
    generalize (x3 + (6 : Int32)) = g3
    exact s_lsub (ls' := [some (.inr (.inr 4000)), some (.inr (.inr x1)), some (.inr (.inr x2)), some (.inl g3)]) ⟨rfl, ⟨rfl, ⟨rfl, ⟨rfl, trivial⟩⟩⟩⟩ (kk1 (g3, z1.2))
  · skip
    exact s_none
def f_L_law_J970 (lim : Nat × Nat) (X : List Int32) (M : Mem) (x1 : Nat) (x2 : Nat) (x3 : Int32) (y0 : Nat) (y1 : Int32) (y2 : Int32) (y3 : Int32) : Option ((Int32 × Mem) ⊕ ((Mem))) :=
  (ob M 11 y0).bind fun _ => (f_X11_lunch M y0 y1 y2 y3).bind fun z1 =>
  (scI X (x3 + (1 : Int32))).bind fun v2 =>
  (scI X (x3 + (2 : Int32))).bind fun v3 =>
  (scI X (x3 + (3 : Int32))).bind fun v4 =>
  (if v4 = 0 then
    f_L_law_J997 lim X z1.2 x1 x2 x3 z1.1 x2 v2 v3 (0 : Int32)
  else
    f_L_law_J997 lim X z1.2 x1 x2 x3 z1.1 x2 v2 v3 (1 : Int32))
set_option maxRecDepth 20000 in
theorem J_L_law_970 {l : Launch} {G : Gv} {lim : Nat × Nat} (M : Mem) (x1 : Nat) (x2 : Nat) (x3 : Int32) (y0 : Nat) (y1 : Int32) (y2 : Int32) (y3 : Int32) (K : (Int32 × Mem) ⊕ ((Mem)) → Option (Option Value × Mem)) (kk1 : ∀ s' : Int32 × Mem, SimR l G Y_L_law lim (K (.inl s')) 18 [some (.inr (.inr 4000)), some (.inr (.inr x1)), some (.inr (.inr x2)), some (.inl s'.1)] [] s'.2) (kk2_0 : ∀ r : Mem, SimR l G Y_L_law lim (K (.inr r)) 1851 [none, none, none, none] [] r) : Sim l G Y_L_law lim (f_L_law_J970 lim G.2.2.2.2 M x1 x2 x3 y0 y1 y2 y3) K 970 [some (.inr (.inr 4000)), some (.inr (.inr x1)), some (.inr (.inr x2)), some (.inl x3)] [.inl y3, .inl y2, .inl y1, .inr (.inr y0)] M := by
  unfold f_L_law_J970
  refine s_cV (Z := Y_X11_lunch) (c := 11) (vs := [.inl y1, .inl y2, .inl y3]) (st := []) (rO := fun z => some (.inl z.1)) (mO := fun z => z.2) zk_X11_lunch zi_X11_lunch q1053 rfl ⟨by decide, by decide⟩ ⟨rfl, rfl⟩ rfl rfl (Nat.le_of_ble_eq_true rfl) (by decide +kernel) (fun z hz => c_X11_lunch hz) (fun z1 => ?_)
  change Sim l G Y_L_law lim _ _ 973 [some (.inr (.inr 4000)), some (.inr (.inr x1)), some (.inr (.inr x2)), some (.inl x3)] [.inl z1.1] z1.2
  refine s_run (b := [(.aload_n 2, 1), (.aload_n 0, 1), (.iload_n 3, 1), (.iconst 1, 1), (.iadd, 1)]) 978 [some (.inr (.inr 4000)), some (.inr (.inr x1)), some (.inr (.inr x2)), some (.inl x3)] [.inl (x3 + (1 : Int32)), .inr (.inr 4000), .inr (.inr x2), .inl z1.1] (by decide +kernel) rfl ?_
  refine s_sc (by decide +kernel) (fun v2 => ?_)
  refine s_run (b := [(.aload_n 0, 1), (.iload_n 3, 1), (.iconst 2, 1), (.iadd, 1)]) 983 [some (.inr (.inr 4000)), some (.inr (.inr x1)), some (.inr (.inr x2)), some (.inl x3)] [.inl (x3 + (2 : Int32)), .inr (.inr 4000), .inl v2, .inr (.inr x2), .inl z1.1] (by decide +kernel) rfl ?_
  refine s_sc (by decide +kernel) (fun v3 => ?_)
  refine s_run (b := [(.aload_n 0, 1), (.iload_n 3, 1), (.iconst 3, 1), (.iadd, 1)]) 988 [some (.inr (.inr 4000)), some (.inr (.inr x1)), some (.inr (.inr x2)), some (.inl x3)] [.inl (x3 + (3 : Int32)), .inr (.inr 4000), .inl v3, .inl v2, .inr (.inr x2), .inl z1.1] (by decide +kernel) rfl ?_
  refine s_sc (by decide +kernel) (fun v4 => ?_)
  refine s_if_eq (tgt := 996) (off := 7) (by decide +kernel) (by decide) (fun h5 => ?_) (fun h5 => ?_)
  · skip
    refine s_run (b := [(.iconst 0, 1)]) 997 [some (.inr (.inr 4000)), some (.inr (.inr x1)), some (.inr (.inr x2)), some (.inl x3)] [.inl (0 : Int32), .inl v3, .inl v2, .inr (.inr x2), .inl z1.1] (by decide +kernel) rfl ?_
    exact s_lsub (ls' := [some (.inr (.inr 4000)), some (.inr (.inr x1)), some (.inr (.inr x2)), some (.inl x3)]) ⟨rfl, ⟨rfl, ⟨rfl, ⟨rfl, trivial⟩⟩⟩⟩ (J_L_law_997 z1.2 x1 x2 x3 z1.1 x2 v2 v3 (0 : Int32) K kk1 kk2_0)
  · skip
    refine s_run (b := [(.iconst 1, 1), (.goto 4, 3)]) 997 [some (.inr (.inr 4000)), some (.inr (.inr x1)), some (.inr (.inr x2)), some (.inl x3)] [.inl (1 : Int32), .inl v3, .inl v2, .inr (.inr x2), .inl z1.1] (by decide +kernel) rfl ?_
    exact s_lsub (ls' := [some (.inr (.inr 4000)), some (.inr (.inr x1)), some (.inr (.inr x2)), some (.inl x3)]) ⟨rfl, ⟨rfl, ⟨rfl, ⟨rfl, trivial⟩⟩⟩⟩ (J_L_law_997 z1.2 x1 x2 x3 z1.1 x2 v2 v3 (1 : Int32) K kk1 kk2_0)
def f_L_law_J1089 (lim : Nat × Nat) (X : List Int32) (M : Mem) (x1 : Nat) (x2 : Nat) (x3 : Int32) (y0 : Int32) (y1 : Nat) (y2 : Int32) (y3 : Int32) : Option ((Int32 × Mem) ⊕ ((Mem))) :=
  (ob M 12 y1).bind fun _ => (f_X12_board M y1 y2 y3).bind fun z1 =>
  (if y0 = z1.1 then
    some (.inl ((x3 + (6 : Int32)), z1.2))
  else
    none)
set_option maxRecDepth 20000 in
theorem J_L_law_1089 {l : Launch} {G : Gv} {lim : Nat × Nat} (M : Mem) (x1 : Nat) (x2 : Nat) (x3 : Int32) (y0 : Int32) (y1 : Nat) (y2 : Int32) (y3 : Int32) (K : (Int32 × Mem) ⊕ ((Mem)) → Option (Option Value × Mem)) (kk1 : ∀ s' : Int32 × Mem, SimR l G Y_L_law lim (K (.inl s')) 18 [some (.inr (.inr 4000)), some (.inr (.inr x1)), some (.inr (.inr x2)), some (.inl s'.1)] [] s'.2) (kk2_0 : ∀ r : Mem, SimR l G Y_L_law lim (K (.inr r)) 1851 [none, none, none, none] [] r) : Sim l G Y_L_law lim (f_L_law_J1089 lim G.2.2.2.2 M x1 x2 x3 y0 y1 y2 y3) K 1089 [some (.inr (.inr 4000)), some (.inr (.inr x1)), some (.inr (.inr x2)), some (.inl x3)] [.inl y3, .inl y2, .inr (.inr y1), .inl y0] M := by
  unfold f_L_law_J1089
  refine s_cV (Z := Y_X12_board) (c := 12) (vs := [.inl y2, .inl y3]) (st := [.inl y0]) (rO := fun z => some (.inl z.1)) (mO := fun z => z.2) zk_X12_board zi_X12_board q1819 rfl ⟨by decide, by decide⟩ ⟨rfl, rfl⟩ rfl rfl (Nat.le_of_ble_eq_true rfl) (by decide +kernel) (fun z hz => c_X12_board hz) (fun z1 => ?_)
  change Sim l G Y_L_law lim _ _ 1092 [some (.inr (.inr 4000)), some (.inr (.inr x1)), some (.inr (.inr x2)), some (.inl x3)] [.inl z1.1, .inl y0] z1.2
  refine s_ic_eq (tgt := 1845) (off := 753) (by decide +kernel) (by decide) (fun h2 => ?_) (fun h2 => ?_)
  · skip
    refine s_run (b := [(.iinc 3 6, 3), (.goto (-1830), 3)]) 18 [some (.inr (.inr 4000)), some (.inr (.inr x1)), some (.inr (.inr x2)), some (.inl (x3 + (6 : Int32)))] [] (by decide +kernel) rfl ?_
    generalize (x3 + (6 : Int32)) = g3
    exact s_lsub (ls' := [some (.inr (.inr 4000)), some (.inr (.inr x1)), some (.inr (.inr x2)), some (.inl g3)]) ⟨rfl, ⟨rfl, ⟨rfl, ⟨rfl, trivial⟩⟩⟩⟩ (kk1 (g3, z1.2))
  · skip
    exact s_none
def f_L_law_J1067 (lim : Nat × Nat) (X : List Int32) (M : Mem) (x1 : Nat) (x2 : Nat) (x3 : Int32) (y0 : Nat) (y1 : Int32) (y2 : Int32) : Option ((Int32 × Mem) ⊕ ((Mem))) :=
  (ob M 11 y0).bind fun _ => (f_X11_board M y0 y1 y2).bind fun v1 =>
  (scI X (x3 + (1 : Int32))).bind fun v2 =>
  (scI X (x3 + (2 : Int32))).bind fun v3 =>
  (if v3 = 0 then
    f_L_law_J1089 lim X M x1 x2 x3 v1 x2 v2 (0 : Int32)
  else
    f_L_law_J1089 lim X M x1 x2 x3 v1 x2 v2 (1 : Int32))
set_option maxRecDepth 20000 in
theorem J_L_law_1067 {l : Launch} {G : Gv} {lim : Nat × Nat} (M : Mem) (x1 : Nat) (x2 : Nat) (x3 : Int32) (y0 : Nat) (y1 : Int32) (y2 : Int32) (K : (Int32 × Mem) ⊕ ((Mem)) → Option (Option Value × Mem)) (kk1 : ∀ s' : Int32 × Mem, SimR l G Y_L_law lim (K (.inl s')) 18 [some (.inr (.inr 4000)), some (.inr (.inr x1)), some (.inr (.inr x2)), some (.inl s'.1)] [] s'.2) (kk2_0 : ∀ r : Mem, SimR l G Y_L_law lim (K (.inr r)) 1851 [none, none, none, none] [] r) : Sim l G Y_L_law lim (f_L_law_J1067 lim G.2.2.2.2 M x1 x2 x3 y0 y1 y2) K 1067 [some (.inr (.inr 4000)), some (.inr (.inr x1)), some (.inr (.inr x2)), some (.inl x3)] [.inl y2, .inl y1, .inr (.inr y0)] M := by
  unfold f_L_law_J1067
  refine s_cV (Z := Y_X11_board) (c := 11) (vs := [.inl y1, .inl y2]) (st := []) (rO := fun z => some (.inl z)) (mO := fun _ => M) zk_X11_board zi_X11_board q1094 rfl ⟨by decide, by decide⟩ ⟨rfl, rfl⟩ rfl rfl (Nat.le_of_ble_eq_true rfl) (by decide +kernel) (fun z hz => c_X11_board hz) (fun v1 => ?_)
  change Sim l G Y_L_law lim _ _ 1070 [some (.inr (.inr 4000)), some (.inr (.inr x1)), some (.inr (.inr x2)), some (.inl x3)] [.inl v1] M
  refine s_run (b := [(.aload_n 2, 1), (.aload_n 0, 1), (.iload_n 3, 1), (.iconst 1, 1), (.iadd, 1)]) 1075 [some (.inr (.inr 4000)), some (.inr (.inr x1)), some (.inr (.inr x2)), some (.inl x3)] [.inl (x3 + (1 : Int32)), .inr (.inr 4000), .inr (.inr x2), .inl v1] (by decide +kernel) rfl ?_
  refine s_sc (by decide +kernel) (fun v2 => ?_)
  refine s_run (b := [(.aload_n 0, 1), (.iload_n 3, 1), (.iconst 2, 1), (.iadd, 1)]) 1080 [some (.inr (.inr 4000)), some (.inr (.inr x1)), some (.inr (.inr x2)), some (.inl x3)] [.inl (x3 + (2 : Int32)), .inr (.inr 4000), .inl v2, .inr (.inr x2), .inl v1] (by decide +kernel) rfl ?_
  refine s_sc (by decide +kernel) (fun v3 => ?_)
  refine s_if_eq (tgt := 1088) (off := 7) (by decide +kernel) (by decide) (fun h4 => ?_) (fun h4 => ?_)
  · skip
    refine s_run (b := [(.iconst 0, 1)]) 1089 [some (.inr (.inr 4000)), some (.inr (.inr x1)), some (.inr (.inr x2)), some (.inl x3)] [.inl (0 : Int32), .inl v2, .inr (.inr x2), .inl v1] (by decide +kernel) rfl ?_
    exact s_lsub (ls' := [some (.inr (.inr 4000)), some (.inr (.inr x1)), some (.inr (.inr x2)), some (.inl x3)]) ⟨rfl, ⟨rfl, ⟨rfl, ⟨rfl, trivial⟩⟩⟩⟩ (J_L_law_1089 M x1 x2 x3 v1 x2 v2 (0 : Int32) K kk1 kk2_0)
  · skip
    refine s_run (b := [(.iconst 1, 1), (.goto 4, 3)]) 1089 [some (.inr (.inr 4000)), some (.inr (.inr x1)), some (.inr (.inr x2)), some (.inl x3)] [.inl (1 : Int32), .inl v2, .inr (.inr x2), .inl v1] (by decide +kernel) rfl ?_
    exact s_lsub (ls' := [some (.inr (.inr 4000)), some (.inr (.inr x1)), some (.inr (.inr x2)), some (.inl x3)]) ⟨rfl, ⟨rfl, ⟨rfl, ⟨rfl, trivial⟩⟩⟩⟩ (J_L_law_1089 M x1 x2 x3 v1 x2 v2 (1 : Int32) K kk1 kk2_0)
def f_L_law_J1138 (lim : Nat × Nat) (X : List Int32) (M : Mem) (x1 : Nat) (x2 : Nat) (x3 : Int32) (y0 : Int32) (y1 : Nat) (y2 : Int32) (y3 : Int32) : Option ((Int32 × Mem) ⊕ ((Mem))) :=
  (ob M 12 y1).bind fun _ => (f_X12_rooms M y1 y2 y3).bind fun z1 =>
  (if y0 = z1.1 then
    some (.inl ((x3 + (6 : Int32)), z1.2))
  else
    none)
set_option maxRecDepth 20000 in
theorem J_L_law_1138 {l : Launch} {G : Gv} {lim : Nat × Nat} (M : Mem) (x1 : Nat) (x2 : Nat) (x3 : Int32) (y0 : Int32) (y1 : Nat) (y2 : Int32) (y3 : Int32) (K : (Int32 × Mem) ⊕ ((Mem)) → Option (Option Value × Mem)) (kk1 : ∀ s' : Int32 × Mem, SimR l G Y_L_law lim (K (.inl s')) 18 [some (.inr (.inr 4000)), some (.inr (.inr x1)), some (.inr (.inr x2)), some (.inl s'.1)] [] s'.2) (kk2_0 : ∀ r : Mem, SimR l G Y_L_law lim (K (.inr r)) 1851 [none, none, none, none] [] r) : Sim l G Y_L_law lim (f_L_law_J1138 lim G.2.2.2.2 M x1 x2 x3 y0 y1 y2 y3) K 1138 [some (.inr (.inr 4000)), some (.inr (.inr x1)), some (.inr (.inr x2)), some (.inl x3)] [.inl y3, .inl y2, .inr (.inr y1), .inl y0] M := by
  unfold f_L_law_J1138
  refine s_cV (Z := Y_X12_rooms) (c := 12) (vs := [.inl y2, .inl y3]) (st := [.inl y0]) (rO := fun z => some (.inl z.1)) (mO := fun z => z.2) zk_X12_rooms zi_X12_rooms q1830 rfl ⟨by decide, by decide⟩ ⟨rfl, rfl⟩ rfl rfl (Nat.le_of_ble_eq_true rfl) (by decide +kernel) (fun z hz => c_X12_rooms hz) (fun z1 => ?_)
  change Sim l G Y_L_law lim _ _ 1141 [some (.inr (.inr 4000)), some (.inr (.inr x1)), some (.inr (.inr x2)), some (.inl x3)] [.inl z1.1, .inl y0] z1.2
  refine s_ic_eq (tgt := 1845) (off := 704) (by decide +kernel) (by decide) (fun h2 => ?_) (fun h2 => ?_)
  · skip
    refine s_run (b := [(.iinc 3 6, 3), (.goto (-1830), 3)]) 18 [some (.inr (.inr 4000)), some (.inr (.inr x1)), some (.inr (.inr x2)), some (.inl (x3 + (6 : Int32)))] [] (by decide +kernel) rfl ?_
    generalize (x3 + (6 : Int32)) = g3
    exact s_lsub (ls' := [some (.inr (.inr 4000)), some (.inr (.inr x1)), some (.inr (.inr x2)), some (.inl g3)]) ⟨rfl, ⟨rfl, ⟨rfl, ⟨rfl, trivial⟩⟩⟩⟩ (kk1 (g3, z1.2))
  · skip
    exact s_none
def f_L_law_J1116 (lim : Nat × Nat) (X : List Int32) (M : Mem) (x1 : Nat) (x2 : Nat) (x3 : Int32) (y0 : Nat) (y1 : Int32) (y2 : Int32) : Option ((Int32 × Mem) ⊕ ((Mem))) :=
  (ob M 11 y0).bind fun _ => (f_X11_rooms M y0 y1 y2).bind fun v1 =>
  (scI X (x3 + (1 : Int32))).bind fun v2 =>
  (scI X (x3 + (2 : Int32))).bind fun v3 =>
  (if v3 = 0 then
    f_L_law_J1138 lim X M x1 x2 x3 v1 x2 v2 (0 : Int32)
  else
    f_L_law_J1138 lim X M x1 x2 x3 v1 x2 v2 (1 : Int32))
set_option maxRecDepth 20000 in
theorem J_L_law_1116 {l : Launch} {G : Gv} {lim : Nat × Nat} (M : Mem) (x1 : Nat) (x2 : Nat) (x3 : Int32) (y0 : Nat) (y1 : Int32) (y2 : Int32) (K : (Int32 × Mem) ⊕ ((Mem)) → Option (Option Value × Mem)) (kk1 : ∀ s' : Int32 × Mem, SimR l G Y_L_law lim (K (.inl s')) 18 [some (.inr (.inr 4000)), some (.inr (.inr x1)), some (.inr (.inr x2)), some (.inl s'.1)] [] s'.2) (kk2_0 : ∀ r : Mem, SimR l G Y_L_law lim (K (.inr r)) 1851 [none, none, none, none] [] r) : Sim l G Y_L_law lim (f_L_law_J1116 lim G.2.2.2.2 M x1 x2 x3 y0 y1 y2) K 1116 [some (.inr (.inr 4000)), some (.inr (.inr x1)), some (.inr (.inr x2)), some (.inl x3)] [.inl y2, .inl y1, .inr (.inr y0)] M := by
  unfold f_L_law_J1116
  refine s_cV (Z := Y_X11_rooms) (c := 11) (vs := [.inl y1, .inl y2]) (st := []) (rO := fun z => some (.inl z)) (mO := fun _ => M) zk_X11_rooms zi_X11_rooms q1107 rfl ⟨by decide, by decide⟩ ⟨rfl, rfl⟩ rfl rfl (Nat.le_of_ble_eq_true rfl) (by decide +kernel) (fun z hz => c_X11_rooms hz) (fun v1 => ?_)
  change Sim l G Y_L_law lim _ _ 1119 [some (.inr (.inr 4000)), some (.inr (.inr x1)), some (.inr (.inr x2)), some (.inl x3)] [.inl v1] M
  refine s_run (b := [(.aload_n 2, 1), (.aload_n 0, 1), (.iload_n 3, 1), (.iconst 1, 1), (.iadd, 1)]) 1124 [some (.inr (.inr 4000)), some (.inr (.inr x1)), some (.inr (.inr x2)), some (.inl x3)] [.inl (x3 + (1 : Int32)), .inr (.inr 4000), .inr (.inr x2), .inl v1] (by decide +kernel) rfl ?_
  refine s_sc (by decide +kernel) (fun v2 => ?_)
  refine s_run (b := [(.aload_n 0, 1), (.iload_n 3, 1), (.iconst 2, 1), (.iadd, 1)]) 1129 [some (.inr (.inr 4000)), some (.inr (.inr x1)), some (.inr (.inr x2)), some (.inl x3)] [.inl (x3 + (2 : Int32)), .inr (.inr 4000), .inl v2, .inr (.inr x2), .inl v1] (by decide +kernel) rfl ?_
  refine s_sc (by decide +kernel) (fun v3 => ?_)
  refine s_if_eq (tgt := 1137) (off := 7) (by decide +kernel) (by decide) (fun h4 => ?_) (fun h4 => ?_)
  · skip
    refine s_run (b := [(.iconst 0, 1)]) 1138 [some (.inr (.inr 4000)), some (.inr (.inr x1)), some (.inr (.inr x2)), some (.inl x3)] [.inl (0 : Int32), .inl v2, .inr (.inr x2), .inl v1] (by decide +kernel) rfl ?_
    exact s_lsub (ls' := [some (.inr (.inr 4000)), some (.inr (.inr x1)), some (.inr (.inr x2)), some (.inl x3)]) ⟨rfl, ⟨rfl, ⟨rfl, ⟨rfl, trivial⟩⟩⟩⟩ (J_L_law_1138 M x1 x2 x3 v1 x2 v2 (0 : Int32) K kk1 kk2_0)
  · skip
    refine s_run (b := [(.iconst 1, 1), (.goto 4, 3)]) 1138 [some (.inr (.inr 4000)), some (.inr (.inr x1)), some (.inr (.inr x2)), some (.inl x3)] [.inl (1 : Int32), .inl v2, .inr (.inr x2), .inl v1] (by decide +kernel) rfl ?_
    exact s_lsub (ls' := [some (.inr (.inr 4000)), some (.inr (.inr x1)), some (.inr (.inr x2)), some (.inl x3)]) ⟨rfl, ⟨rfl, ⟨rfl, ⟨rfl, trivial⟩⟩⟩⟩ (J_L_law_1138 M x1 x2 x3 v1 x2 v2 (1 : Int32) K kk1 kk2_0)
def f_L_law_J1197 (lim : Nat × Nat) (X : List Int32) (M : Mem) (x1 : Nat) (x2 : Nat) (x3 : Int32) (y0 : Int32) (y1 : Nat) (y2 : Int32) (y3 : Int32) (y4 : Int32) : Option ((Int32 × Mem) ⊕ ((Mem))) :=
  (ob M 12 y1).bind fun _ => (f_X12_seat M y1 y2 y3 y4).bind fun z1 =>
  (if y0 = z1.1 then
    some (.inl ((x3 + (6 : Int32)), z1.2))
  else
    none)
set_option maxRecDepth 20000 in
theorem J_L_law_1197 {l : Launch} {G : Gv} {lim : Nat × Nat} (M : Mem) (x1 : Nat) (x2 : Nat) (x3 : Int32) (y0 : Int32) (y1 : Nat) (y2 : Int32) (y3 : Int32) (y4 : Int32) (K : (Int32 × Mem) ⊕ ((Mem)) → Option (Option Value × Mem)) (kk1 : ∀ s' : Int32 × Mem, SimR l G Y_L_law lim (K (.inl s')) 18 [some (.inr (.inr 4000)), some (.inr (.inr x1)), some (.inr (.inr x2)), some (.inl s'.1)] [] s'.2) (kk2_0 : ∀ r : Mem, SimR l G Y_L_law lim (K (.inr r)) 1851 [none, none, none, none] [] r) : Sim l G Y_L_law lim (f_L_law_J1197 lim G.2.2.2.2 M x1 x2 x3 y0 y1 y2 y3 y4) K 1197 [some (.inr (.inr 4000)), some (.inr (.inr x1)), some (.inr (.inr x2)), some (.inl x3)] [.inl y4, .inl y3, .inl y2, .inr (.inr y1), .inl y0] M := by
  unfold f_L_law_J1197
  refine s_cV (Z := Y_X12_seat) (c := 12) (vs := [.inl y2, .inl y3, .inl y4]) (st := [.inl y0]) (rO := fun z => some (.inl z.1)) (mO := fun z => z.2) zk_X12_seat zi_X12_seat q1838 rfl ⟨by decide, by decide⟩ ⟨rfl, rfl⟩ rfl rfl (Nat.le_of_ble_eq_true rfl) (by decide +kernel) (fun z hz => c_X12_seat hz) (fun z1 => ?_)
  change Sim l G Y_L_law lim _ _ 1200 [some (.inr (.inr 4000)), some (.inr (.inr x1)), some (.inr (.inr x2)), some (.inl x3)] [.inl z1.1, .inl y0] z1.2
  refine s_ic_eq (tgt := 1845) (off := 645) (by decide +kernel) (by decide) (fun h2 => ?_) (fun h2 => ?_)
  · skip
    refine s_run (b := [(.iinc 3 6, 3), (.goto (-1830), 3)]) 18 [some (.inr (.inr 4000)), some (.inr (.inr x1)), some (.inr (.inr x2)), some (.inl (x3 + (6 : Int32)))] [] (by decide +kernel) rfl ?_
    generalize (x3 + (6 : Int32)) = g3
    exact s_lsub (ls' := [some (.inr (.inr 4000)), some (.inr (.inr x1)), some (.inr (.inr x2)), some (.inl g3)]) ⟨rfl, ⟨rfl, ⟨rfl, ⟨rfl, trivial⟩⟩⟩⟩ (kk1 (g3, z1.2))
  · skip
    exact s_none
def f_L_law_J1170 (lim : Nat × Nat) (X : List Int32) (M : Mem) (x1 : Nat) (x2 : Nat) (x3 : Int32) (y0 : Nat) (y1 : Int32) (y2 : Int32) (y3 : Int32) : Option ((Int32 × Mem) ⊕ ((Mem))) :=
  (ob M 11 y0).bind fun _ => (f_X11_seat M y0 y1 y2 y3).bind fun v1 =>
  (scI X (x3 + (1 : Int32))).bind fun v2 =>
  (scI X (x3 + (2 : Int32))).bind fun v3 =>
  (scI X (x3 + (3 : Int32))).bind fun v4 =>
  (if v4 = 0 then
    f_L_law_J1197 lim X M x1 x2 x3 v1 x2 v2 v3 (0 : Int32)
  else
    f_L_law_J1197 lim X M x1 x2 x3 v1 x2 v2 v3 (1 : Int32))
set_option maxRecDepth 20000 in
theorem J_L_law_1170 {l : Launch} {G : Gv} {lim : Nat × Nat} (M : Mem) (x1 : Nat) (x2 : Nat) (x3 : Int32) (y0 : Nat) (y1 : Int32) (y2 : Int32) (y3 : Int32) (K : (Int32 × Mem) ⊕ ((Mem)) → Option (Option Value × Mem)) (kk1 : ∀ s' : Int32 × Mem, SimR l G Y_L_law lim (K (.inl s')) 18 [some (.inr (.inr 4000)), some (.inr (.inr x1)), some (.inr (.inr x2)), some (.inl s'.1)] [] s'.2) (kk2_0 : ∀ r : Mem, SimR l G Y_L_law lim (K (.inr r)) 1851 [none, none, none, none] [] r) : Sim l G Y_L_law lim (f_L_law_J1170 lim G.2.2.2.2 M x1 x2 x3 y0 y1 y2 y3) K 1170 [some (.inr (.inr 4000)), some (.inr (.inr x1)), some (.inr (.inr x2)), some (.inl x3)] [.inl y3, .inl y2, .inl y1, .inr (.inr y0)] M := by
  unfold f_L_law_J1170
  refine s_cV (Z := Y_X11_seat) (c := 11) (vs := [.inl y1, .inl y2, .inl y3]) (st := []) (rO := fun z => some (.inl z)) (mO := fun _ => M) zk_X11_seat zi_X11_seat q1128 rfl ⟨by decide, by decide⟩ ⟨rfl, rfl⟩ rfl rfl (Nat.le_of_ble_eq_true rfl) (by decide +kernel) (fun z hz => c_X11_seat hz) (fun v1 => ?_)
  change Sim l G Y_L_law lim _ _ 1173 [some (.inr (.inr 4000)), some (.inr (.inr x1)), some (.inr (.inr x2)), some (.inl x3)] [.inl v1] M
  refine s_run (b := [(.aload_n 2, 1), (.aload_n 0, 1), (.iload_n 3, 1), (.iconst 1, 1), (.iadd, 1)]) 1178 [some (.inr (.inr 4000)), some (.inr (.inr x1)), some (.inr (.inr x2)), some (.inl x3)] [.inl (x3 + (1 : Int32)), .inr (.inr 4000), .inr (.inr x2), .inl v1] (by decide +kernel) rfl ?_
  refine s_sc (by decide +kernel) (fun v2 => ?_)
  refine s_run (b := [(.aload_n 0, 1), (.iload_n 3, 1), (.iconst 2, 1), (.iadd, 1)]) 1183 [some (.inr (.inr 4000)), some (.inr (.inr x1)), some (.inr (.inr x2)), some (.inl x3)] [.inl (x3 + (2 : Int32)), .inr (.inr 4000), .inl v2, .inr (.inr x2), .inl v1] (by decide +kernel) rfl ?_
  refine s_sc (by decide +kernel) (fun v3 => ?_)
  refine s_run (b := [(.aload_n 0, 1), (.iload_n 3, 1), (.iconst 3, 1), (.iadd, 1)]) 1188 [some (.inr (.inr 4000)), some (.inr (.inr x1)), some (.inr (.inr x2)), some (.inl x3)] [.inl (x3 + (3 : Int32)), .inr (.inr 4000), .inl v3, .inl v2, .inr (.inr x2), .inl v1] (by decide +kernel) rfl ?_
  refine s_sc (by decide +kernel) (fun v4 => ?_)
  refine s_if_eq (tgt := 1196) (off := 7) (by decide +kernel) (by decide) (fun h5 => ?_) (fun h5 => ?_)
  · skip
    refine s_run (b := [(.iconst 0, 1)]) 1197 [some (.inr (.inr 4000)), some (.inr (.inr x1)), some (.inr (.inr x2)), some (.inl x3)] [.inl (0 : Int32), .inl v3, .inl v2, .inr (.inr x2), .inl v1] (by decide +kernel) rfl ?_
    exact s_lsub (ls' := [some (.inr (.inr 4000)), some (.inr (.inr x1)), some (.inr (.inr x2)), some (.inl x3)]) ⟨rfl, ⟨rfl, ⟨rfl, ⟨rfl, trivial⟩⟩⟩⟩ (J_L_law_1197 M x1 x2 x3 v1 x2 v2 v3 (0 : Int32) K kk1 kk2_0)
  · skip
    refine s_run (b := [(.iconst 1, 1), (.goto 4, 3)]) 1197 [some (.inr (.inr 4000)), some (.inr (.inr x1)), some (.inr (.inr x2)), some (.inl x3)] [.inl (1 : Int32), .inl v3, .inl v2, .inr (.inr x2), .inl v1] (by decide +kernel) rfl ?_
    exact s_lsub (ls' := [some (.inr (.inr 4000)), some (.inr (.inr x1)), some (.inr (.inr x2)), some (.inl x3)]) ⟨rfl, ⟨rfl, ⟨rfl, ⟨rfl, trivial⟩⟩⟩⟩ (J_L_law_1197 M x1 x2 x3 v1 x2 v2 v3 (1 : Int32) K kk1 kk2_0)
def f_L_law_J1464 (lim : Nat × Nat) (X : List Int32) (M : Mem) (x1 : Nat) (x2 : Nat) (x3 : Int32) (y0 : Int32) (y1 : Nat) (y2 : Int32) (y3 : Int32) (y4 : Int32) : Option ((Int32 × Mem) ⊕ ((Mem))) :=
  (ob M 12 y1).bind fun _ => (f_X12_blame M y1 y2 y3 y4).bind fun z1 =>
  (if y0 = z1.1 then
    some (.inl ((x3 + (6 : Int32)), z1.2))
  else
    none)
set_option maxRecDepth 20000 in
theorem J_L_law_1464 {l : Launch} {G : Gv} {lim : Nat × Nat} (M : Mem) (x1 : Nat) (x2 : Nat) (x3 : Int32) (y0 : Int32) (y1 : Nat) (y2 : Int32) (y3 : Int32) (y4 : Int32) (K : (Int32 × Mem) ⊕ ((Mem)) → Option (Option Value × Mem)) (kk1 : ∀ s' : Int32 × Mem, SimR l G Y_L_law lim (K (.inl s')) 18 [some (.inr (.inr 4000)), some (.inr (.inr x1)), some (.inr (.inr x2)), some (.inl s'.1)] [] s'.2) (kk2_0 : ∀ r : Mem, SimR l G Y_L_law lim (K (.inr r)) 1851 [none, none, none, none] [] r) : Sim l G Y_L_law lim (f_L_law_J1464 lim G.2.2.2.2 M x1 x2 x3 y0 y1 y2 y3 y4) K 1464 [some (.inr (.inr 4000)), some (.inr (.inr x1)), some (.inr (.inr x2)), some (.inl x3)] [.inl y4, .inl y3, .inl y2, .inr (.inr y1), .inl y0] M := by
  unfold f_L_law_J1464
  refine s_cV (Z := Y_X12_blame) (c := 12) (vs := [.inl y2, .inl y3, .inl y4]) (st := [.inl y0]) (rO := fun z => some (.inl z.1)) (mO := fun z => z.2) zk_X12_blame zi_X12_blame q1878 rfl ⟨by decide, by decide⟩ ⟨rfl, rfl⟩ rfl rfl (Nat.le_of_ble_eq_true rfl) (by decide +kernel) (fun z hz => c_X12_blame hz) (fun z1 => ?_)
  change Sim l G Y_L_law lim _ _ 1467 [some (.inr (.inr 4000)), some (.inr (.inr x1)), some (.inr (.inr x2)), some (.inl x3)] [.inl z1.1, .inl y0] z1.2
  refine s_ic_eq (tgt := 1845) (off := 378) (by decide +kernel) (by decide) (fun h2 => ?_) (fun h2 => ?_)
  · skip
    refine s_run (b := [(.iinc 3 6, 3), (.goto (-1830), 3)]) 18 [some (.inr (.inr 4000)), some (.inr (.inr x1)), some (.inr (.inr x2)), some (.inl (x3 + (6 : Int32)))] [] (by decide +kernel) rfl ?_
    generalize (x3 + (6 : Int32)) = g3
    exact s_lsub (ls' := [some (.inr (.inr 4000)), some (.inr (.inr x1)), some (.inr (.inr x2)), some (.inl g3)]) ⟨rfl, ⟨rfl, ⟨rfl, ⟨rfl, trivial⟩⟩⟩⟩ (kk1 (g3, z1.2))
  · skip
    exact s_none
def f_L_law_J1437 (lim : Nat × Nat) (X : List Int32) (M : Mem) (x1 : Nat) (x2 : Nat) (x3 : Int32) (y0 : Nat) (y1 : Int32) (y2 : Int32) (y3 : Int32) : Option ((Int32 × Mem) ⊕ ((Mem))) :=
  (ob M 11 y0).bind fun _ => (f_X11_blame M y0 y1 y2 y3).bind fun z1 =>
  (scI X (x3 + (1 : Int32))).bind fun v2 =>
  (scI X (x3 + (2 : Int32))).bind fun v3 =>
  (scI X (x3 + (3 : Int32))).bind fun v4 =>
  (if v4 = 0 then
    f_L_law_J1464 lim X z1.2 x1 x2 x3 z1.1 x2 v2 v3 (0 : Int32)
  else
    f_L_law_J1464 lim X z1.2 x1 x2 x3 z1.1 x2 v2 v3 (1 : Int32))
set_option maxRecDepth 20000 in
theorem J_L_law_1437 {l : Launch} {G : Gv} {lim : Nat × Nat} (M : Mem) (x1 : Nat) (x2 : Nat) (x3 : Int32) (y0 : Nat) (y1 : Int32) (y2 : Int32) (y3 : Int32) (K : (Int32 × Mem) ⊕ ((Mem)) → Option (Option Value × Mem)) (kk1 : ∀ s' : Int32 × Mem, SimR l G Y_L_law lim (K (.inl s')) 18 [some (.inr (.inr 4000)), some (.inr (.inr x1)), some (.inr (.inr x2)), some (.inl s'.1)] [] s'.2) (kk2_0 : ∀ r : Mem, SimR l G Y_L_law lim (K (.inr r)) 1851 [none, none, none, none] [] r) : Sim l G Y_L_law lim (f_L_law_J1437 lim G.2.2.2.2 M x1 x2 x3 y0 y1 y2 y3) K 1437 [some (.inr (.inr 4000)), some (.inr (.inr x1)), some (.inr (.inr x2)), some (.inl x3)] [.inl y3, .inl y2, .inl y1, .inr (.inr y0)] M := by
  unfold f_L_law_J1437
  refine s_cV (Z := Y_X11_blame) (c := 11) (vs := [.inl y1, .inl y2, .inl y3]) (st := []) (rO := fun z => some (.inl z.1)) (mO := fun z => z.2) zk_X11_blame zi_X11_blame q1230 rfl ⟨by decide, by decide⟩ ⟨rfl, rfl⟩ rfl rfl (Nat.le_of_ble_eq_true rfl) (by decide +kernel) (fun z hz => c_X11_blame hz) (fun z1 => ?_)
  change Sim l G Y_L_law lim _ _ 1440 [some (.inr (.inr 4000)), some (.inr (.inr x1)), some (.inr (.inr x2)), some (.inl x3)] [.inl z1.1] z1.2
  refine s_run (b := [(.aload_n 2, 1), (.aload_n 0, 1), (.iload_n 3, 1), (.iconst 1, 1), (.iadd, 1)]) 1445 [some (.inr (.inr 4000)), some (.inr (.inr x1)), some (.inr (.inr x2)), some (.inl x3)] [.inl (x3 + (1 : Int32)), .inr (.inr 4000), .inr (.inr x2), .inl z1.1] (by decide +kernel) rfl ?_
  refine s_sc (by decide +kernel) (fun v2 => ?_)
  refine s_run (b := [(.aload_n 0, 1), (.iload_n 3, 1), (.iconst 2, 1), (.iadd, 1)]) 1450 [some (.inr (.inr 4000)), some (.inr (.inr x1)), some (.inr (.inr x2)), some (.inl x3)] [.inl (x3 + (2 : Int32)), .inr (.inr 4000), .inl v2, .inr (.inr x2), .inl z1.1] (by decide +kernel) rfl ?_
  refine s_sc (by decide +kernel) (fun v3 => ?_)
  refine s_run (b := [(.aload_n 0, 1), (.iload_n 3, 1), (.iconst 3, 1), (.iadd, 1)]) 1455 [some (.inr (.inr 4000)), some (.inr (.inr x1)), some (.inr (.inr x2)), some (.inl x3)] [.inl (x3 + (3 : Int32)), .inr (.inr 4000), .inl v3, .inl v2, .inr (.inr x2), .inl z1.1] (by decide +kernel) rfl ?_
  refine s_sc (by decide +kernel) (fun v4 => ?_)
  refine s_if_eq (tgt := 1463) (off := 7) (by decide +kernel) (by decide) (fun h5 => ?_) (fun h5 => ?_)
  · skip
    refine s_run (b := [(.iconst 0, 1)]) 1464 [some (.inr (.inr 4000)), some (.inr (.inr x1)), some (.inr (.inr x2)), some (.inl x3)] [.inl (0 : Int32), .inl v3, .inl v2, .inr (.inr x2), .inl z1.1] (by decide +kernel) rfl ?_
    exact s_lsub (ls' := [some (.inr (.inr 4000)), some (.inr (.inr x1)), some (.inr (.inr x2)), some (.inl x3)]) ⟨rfl, ⟨rfl, ⟨rfl, ⟨rfl, trivial⟩⟩⟩⟩ (J_L_law_1464 z1.2 x1 x2 x3 z1.1 x2 v2 v3 (0 : Int32) K kk1 kk2_0)
  · skip
    refine s_run (b := [(.iconst 1, 1), (.goto 4, 3)]) 1464 [some (.inr (.inr 4000)), some (.inr (.inr x1)), some (.inr (.inr x2)), some (.inl x3)] [.inl (1 : Int32), .inl v3, .inl v2, .inr (.inr x2), .inl z1.1] (by decide +kernel) rfl ?_
    exact s_lsub (ls' := [some (.inr (.inr 4000)), some (.inr (.inr x1)), some (.inr (.inr x2)), some (.inl x3)]) ⟨rfl, ⟨rfl, ⟨rfl, ⟨rfl, trivial⟩⟩⟩⟩ (J_L_law_1464 z1.2 x1 x2 x3 z1.1 x2 v2 v3 (1 : Int32) K kk1 kk2_0)
def f_L_law_J1642 (lim : Nat × Nat) (X : List Int32) (M : Mem) (x1 : Nat) (x2 : Nat) (x3 : Int32) (y0 : Int64) (y1 : Nat) (y2 : Int32) (y3 : Int32) (y4 : Int32) : Option ((Int32 × Mem) ⊕ ((Mem))) :=
  (ob M 12 y1).bind fun _ => (f_X12_empty M y1 y2 y3 y4).bind fun z1 =>
  (if (lg_cmp y0 z1.1) = 0 then
    some (.inl ((x3 + (6 : Int32)), z1.2))
  else
    none)
set_option maxRecDepth 20000 in
theorem J_L_law_1642 {l : Launch} {G : Gv} {lim : Nat × Nat} (M : Mem) (x1 : Nat) (x2 : Nat) (x3 : Int32) (y0 : Int64) (y1 : Nat) (y2 : Int32) (y3 : Int32) (y4 : Int32) (K : (Int32 × Mem) ⊕ ((Mem)) → Option (Option Value × Mem)) (kk1 : ∀ s' : Int32 × Mem, SimR l G Y_L_law lim (K (.inl s')) 18 [some (.inr (.inr 4000)), some (.inr (.inr x1)), some (.inr (.inr x2)), some (.inl s'.1)] [] s'.2) (kk2_0 : ∀ r : Mem, SimR l G Y_L_law lim (K (.inr r)) 1851 [none, none, none, none] [] r) : Sim l G Y_L_law lim (f_L_law_J1642 lim G.2.2.2.2 M x1 x2 x3 y0 y1 y2 y3 y4) K 1642 [some (.inr (.inr 4000)), some (.inr (.inr x1)), some (.inr (.inr x2)), some (.inl x3)] [.inl y4, .inl y3, .inl y2, .inr (.inr y1), .inr (.inl y0)] M := by
  unfold f_L_law_J1642
  refine s_cV (Z := Y_X12_empty) (c := 12) (vs := [.inl y2, .inl y3, .inl y4]) (st := [.inr (.inl y0)]) (rO := fun z => some (.inr (.inl z.1))) (mO := fun z => z.2) zk_X12_empty zi_X12_empty q1910 rfl ⟨by decide, by decide⟩ ⟨rfl, rfl⟩ rfl rfl (Nat.le_of_ble_eq_true rfl) (by decide +kernel) (fun z hz => c_X12_empty hz) (fun z1 => ?_)
  change Sim l G Y_L_law lim _ _ 1645 [some (.inr (.inr 4000)), some (.inr (.inr x1)), some (.inr (.inr x2)), some (.inl x3)] [.inr (.inl z1.1), .inr (.inl y0)] z1.2
  refine s_run (b := [(.lcmp, 1)]) 1646 [some (.inr (.inr 4000)), some (.inr (.inr x1)), some (.inr (.inr x2)), some (.inl x3)] [.inl (lg_cmp y0 z1.1)] (by decide +kernel) rfl ?_
  refine s_if_eq (tgt := 1845) (off := 199) (by decide +kernel) (by decide) (fun h2 => ?_) (fun h2 => ?_)
  · skip
    refine s_run (b := [(.iinc 3 6, 3), (.goto (-1830), 3)]) 18 [some (.inr (.inr 4000)), some (.inr (.inr x1)), some (.inr (.inr x2)), some (.inl (x3 + (6 : Int32)))] [] (by decide +kernel) rfl ?_
    generalize (x3 + (6 : Int32)) = g3
    exact s_lsub (ls' := [some (.inr (.inr 4000)), some (.inr (.inr x1)), some (.inr (.inr x2)), some (.inl g3)]) ⟨rfl, ⟨rfl, ⟨rfl, ⟨rfl, trivial⟩⟩⟩⟩ (kk1 (g3, z1.2))
  · skip
    exact s_none
def f_L_law_J1615 (lim : Nat × Nat) (X : List Int32) (M : Mem) (x1 : Nat) (x2 : Nat) (x3 : Int32) (y0 : Nat) (y1 : Int32) (y2 : Int32) (y3 : Int32) : Option ((Int32 × Mem) ⊕ ((Mem))) :=
  (ob M 11 y0).bind fun _ => (f_X11_empty M y0 y1 y2 y3).bind fun z1 =>
  (scI X (x3 + (1 : Int32))).bind fun v2 =>
  (scI X (x3 + (2 : Int32))).bind fun v3 =>
  (scI X (x3 + (3 : Int32))).bind fun v4 =>
  (if v4 = 0 then
    f_L_law_J1642 lim X z1.2 x1 x2 x3 z1.1 x2 v2 v3 (0 : Int32)
  else
    f_L_law_J1642 lim X z1.2 x1 x2 x3 z1.1 x2 v2 v3 (1 : Int32))
set_option maxRecDepth 20000 in
theorem J_L_law_1615 {l : Launch} {G : Gv} {lim : Nat × Nat} (M : Mem) (x1 : Nat) (x2 : Nat) (x3 : Int32) (y0 : Nat) (y1 : Int32) (y2 : Int32) (y3 : Int32) (K : (Int32 × Mem) ⊕ ((Mem)) → Option (Option Value × Mem)) (kk1 : ∀ s' : Int32 × Mem, SimR l G Y_L_law lim (K (.inl s')) 18 [some (.inr (.inr 4000)), some (.inr (.inr x1)), some (.inr (.inr x2)), some (.inl s'.1)] [] s'.2) (kk2_0 : ∀ r : Mem, SimR l G Y_L_law lim (K (.inr r)) 1851 [none, none, none, none] [] r) : Sim l G Y_L_law lim (f_L_law_J1615 lim G.2.2.2.2 M x1 x2 x3 y0 y1 y2 y3) K 1615 [some (.inr (.inr 4000)), some (.inr (.inr x1)), some (.inr (.inr x2)), some (.inl x3)] [.inl y3, .inl y2, .inl y1, .inr (.inr y0)] M := by
  unfold f_L_law_J1615
  refine s_cV (Z := Y_X11_empty) (c := 11) (vs := [.inl y1, .inl y2, .inl y3]) (st := []) (rO := fun z => some (.inr (.inl z.1))) (mO := fun z => z.2) zk_X11_empty zi_X11_empty q1264 rfl ⟨by decide, by decide⟩ ⟨rfl, rfl⟩ rfl rfl (Nat.le_of_ble_eq_true rfl) (by decide +kernel) (fun z hz => c_X11_empty hz) (fun z1 => ?_)
  change Sim l G Y_L_law lim _ _ 1618 [some (.inr (.inr 4000)), some (.inr (.inr x1)), some (.inr (.inr x2)), some (.inl x3)] [.inr (.inl z1.1)] z1.2
  refine s_run (b := [(.aload_n 2, 1), (.aload_n 0, 1), (.iload_n 3, 1), (.iconst 1, 1), (.iadd, 1)]) 1623 [some (.inr (.inr 4000)), some (.inr (.inr x1)), some (.inr (.inr x2)), some (.inl x3)] [.inl (x3 + (1 : Int32)), .inr (.inr 4000), .inr (.inr x2), .inr (.inl z1.1)] (by decide +kernel) rfl ?_
  refine s_sc (by decide +kernel) (fun v2 => ?_)
  refine s_run (b := [(.aload_n 0, 1), (.iload_n 3, 1), (.iconst 2, 1), (.iadd, 1)]) 1628 [some (.inr (.inr 4000)), some (.inr (.inr x1)), some (.inr (.inr x2)), some (.inl x3)] [.inl (x3 + (2 : Int32)), .inr (.inr 4000), .inl v2, .inr (.inr x2), .inr (.inl z1.1)] (by decide +kernel) rfl ?_
  refine s_sc (by decide +kernel) (fun v3 => ?_)
  refine s_run (b := [(.aload_n 0, 1), (.iload_n 3, 1), (.iconst 3, 1), (.iadd, 1)]) 1633 [some (.inr (.inr 4000)), some (.inr (.inr x1)), some (.inr (.inr x2)), some (.inl x3)] [.inl (x3 + (3 : Int32)), .inr (.inr 4000), .inl v3, .inl v2, .inr (.inr x2), .inr (.inl z1.1)] (by decide +kernel) rfl ?_
  refine s_sc (by decide +kernel) (fun v4 => ?_)
  refine s_if_eq (tgt := 1641) (off := 7) (by decide +kernel) (by decide) (fun h5 => ?_) (fun h5 => ?_)
  · skip
    refine s_run (b := [(.iconst 0, 1)]) 1642 [some (.inr (.inr 4000)), some (.inr (.inr x1)), some (.inr (.inr x2)), some (.inl x3)] [.inl (0 : Int32), .inl v3, .inl v2, .inr (.inr x2), .inr (.inl z1.1)] (by decide +kernel) rfl ?_
    exact s_lsub (ls' := [some (.inr (.inr 4000)), some (.inr (.inr x1)), some (.inr (.inr x2)), some (.inl x3)]) ⟨rfl, ⟨rfl, ⟨rfl, ⟨rfl, trivial⟩⟩⟩⟩ (J_L_law_1642 z1.2 x1 x2 x3 z1.1 x2 v2 v3 (0 : Int32) K kk1 kk2_0)
  · skip
    refine s_run (b := [(.iconst 1, 1), (.goto 4, 3)]) 1642 [some (.inr (.inr 4000)), some (.inr (.inr x1)), some (.inr (.inr x2)), some (.inl x3)] [.inl (1 : Int32), .inl v3, .inl v2, .inr (.inr x2), .inr (.inl z1.1)] (by decide +kernel) rfl ?_
    exact s_lsub (ls' := [some (.inr (.inr 4000)), some (.inr (.inr x1)), some (.inr (.inr x2)), some (.inl x3)]) ⟨rfl, ⟨rfl, ⟨rfl, ⟨rfl, trivial⟩⟩⟩⟩ (J_L_law_1642 z1.2 x1 x2 x3 z1.1 x2 v2 v3 (1 : Int32) K kk1 kk2_0)
def f_L_law_J1768 (lim : Nat × Nat) (X : List Int32) (M : Mem) (x1 : Nat) (x2 : Nat) (x3 : Int32) (y0 : Int32) (y1 : Nat) (y2 : Int32) (y3 : Int32) : Option ((Int32 × Mem) ⊕ ((Mem))) :=
  (ob M 12 y1).bind fun _ => (f_X12_loud M y1 y2 y3).bind fun z1 =>
  (if y0 = z1.1 then
    some (.inl ((x3 + (6 : Int32)), z1.2))
  else
    none)
set_option maxRecDepth 20000 in
theorem J_L_law_1768 {l : Launch} {G : Gv} {lim : Nat × Nat} (M : Mem) (x1 : Nat) (x2 : Nat) (x3 : Int32) (y0 : Int32) (y1 : Nat) (y2 : Int32) (y3 : Int32) (K : (Int32 × Mem) ⊕ ((Mem)) → Option (Option Value × Mem)) (kk1 : ∀ s' : Int32 × Mem, SimR l G Y_L_law lim (K (.inl s')) 18 [some (.inr (.inr 4000)), some (.inr (.inr x1)), some (.inr (.inr x2)), some (.inl s'.1)] [] s'.2) (kk2_0 : ∀ r : Mem, SimR l G Y_L_law lim (K (.inr r)) 1851 [none, none, none, none] [] r) : Sim l G Y_L_law lim (f_L_law_J1768 lim G.2.2.2.2 M x1 x2 x3 y0 y1 y2 y3) K 1768 [some (.inr (.inr 4000)), some (.inr (.inr x1)), some (.inr (.inr x2)), some (.inl x3)] [.inl y3, .inl y2, .inr (.inr y1), .inl y0] M := by
  unfold f_L_law_J1768
  refine s_cV (Z := Y_X12_loud) (c := 12) (vs := [.inl y2, .inl y3]) (st := [.inl y0]) (rO := fun z => some (.inl z.1)) (mO := fun z => z.2) zk_X12_loud zi_X12_loud q1902 rfl ⟨by decide, by decide⟩ ⟨rfl, rfl⟩ rfl rfl (Nat.le_of_ble_eq_true rfl) (by decide +kernel) (fun z hz => c_X12_loud hz) (fun z1 => ?_)
  change Sim l G Y_L_law lim _ _ 1771 [some (.inr (.inr 4000)), some (.inr (.inr x1)), some (.inr (.inr x2)), some (.inl x3)] [.inl z1.1, .inl y0] z1.2
  refine s_ic_eq (tgt := 1845) (off := 74) (by decide +kernel) (by decide) (fun h2 => ?_) (fun h2 => ?_)
  · skip
    refine s_run (b := [(.iinc 3 6, 3), (.goto (-1830), 3)]) 18 [some (.inr (.inr 4000)), some (.inr (.inr x1)), some (.inr (.inr x2)), some (.inl (x3 + (6 : Int32)))] [] (by decide +kernel) rfl ?_
    generalize (x3 + (6 : Int32)) = g3
    exact s_lsub (ls' := [some (.inr (.inr 4000)), some (.inr (.inr x1)), some (.inr (.inr x2)), some (.inl g3)]) ⟨rfl, ⟨rfl, ⟨rfl, ⟨rfl, trivial⟩⟩⟩⟩ (kk1 (g3, z1.2))
  · skip
    exact s_none
def f_L_law_J1746 (lim : Nat × Nat) (X : List Int32) (M : Mem) (x1 : Nat) (x2 : Nat) (x3 : Int32) (y0 : Nat) (y1 : Int32) (y2 : Int32) : Option ((Int32 × Mem) ⊕ ((Mem))) :=
  (ob M 11 y0).bind fun _ => (f_X11_loud M y0 y1 y2).bind fun v1 =>
  (scI X (x3 + (1 : Int32))).bind fun v2 =>
  (scI X (x3 + (2 : Int32))).bind fun v3 =>
  (if v3 = 0 then
    f_L_law_J1768 lim X M x1 x2 x3 v1 x2 v2 (0 : Int32)
  else
    f_L_law_J1768 lim X M x1 x2 x3 v1 x2 v2 (1 : Int32))
set_option maxRecDepth 20000 in
theorem J_L_law_1746 {l : Launch} {G : Gv} {lim : Nat × Nat} (M : Mem) (x1 : Nat) (x2 : Nat) (x3 : Int32) (y0 : Nat) (y1 : Int32) (y2 : Int32) (K : (Int32 × Mem) ⊕ ((Mem)) → Option (Option Value × Mem)) (kk1 : ∀ s' : Int32 × Mem, SimR l G Y_L_law lim (K (.inl s')) 18 [some (.inr (.inr 4000)), some (.inr (.inr x1)), some (.inr (.inr x2)), some (.inl s'.1)] [] s'.2) (kk2_0 : ∀ r : Mem, SimR l G Y_L_law lim (K (.inr r)) 1851 [none, none, none, none] [] r) : Sim l G Y_L_law lim (f_L_law_J1746 lim G.2.2.2.2 M x1 x2 x3 y0 y1 y2) K 1746 [some (.inr (.inr 4000)), some (.inr (.inr x1)), some (.inr (.inr x2)), some (.inl x3)] [.inl y2, .inl y1, .inr (.inr y0)] M := by
  unfold f_L_law_J1746
  refine s_cV (Z := Y_X11_loud) (c := 11) (vs := [.inl y1, .inl y2]) (st := []) (rO := fun z => some (.inl z)) (mO := fun _ => M) zk_X11_loud zi_X11_loud q1286 rfl ⟨by decide, by decide⟩ ⟨rfl, rfl⟩ rfl rfl (Nat.le_of_ble_eq_true rfl) (by decide +kernel) (fun z hz => c_X11_loud hz) (fun v1 => ?_)
  change Sim l G Y_L_law lim _ _ 1749 [some (.inr (.inr 4000)), some (.inr (.inr x1)), some (.inr (.inr x2)), some (.inl x3)] [.inl v1] M
  refine s_run (b := [(.aload_n 2, 1), (.aload_n 0, 1), (.iload_n 3, 1), (.iconst 1, 1), (.iadd, 1)]) 1754 [some (.inr (.inr 4000)), some (.inr (.inr x1)), some (.inr (.inr x2)), some (.inl x3)] [.inl (x3 + (1 : Int32)), .inr (.inr 4000), .inr (.inr x2), .inl v1] (by decide +kernel) rfl ?_
  refine s_sc (by decide +kernel) (fun v2 => ?_)
  refine s_run (b := [(.aload_n 0, 1), (.iload_n 3, 1), (.iconst 2, 1), (.iadd, 1)]) 1759 [some (.inr (.inr 4000)), some (.inr (.inr x1)), some (.inr (.inr x2)), some (.inl x3)] [.inl (x3 + (2 : Int32)), .inr (.inr 4000), .inl v2, .inr (.inr x2), .inl v1] (by decide +kernel) rfl ?_
  refine s_sc (by decide +kernel) (fun v3 => ?_)
  refine s_if_eq (tgt := 1767) (off := 7) (by decide +kernel) (by decide) (fun h4 => ?_) (fun h4 => ?_)
  · skip
    refine s_run (b := [(.iconst 0, 1)]) 1768 [some (.inr (.inr 4000)), some (.inr (.inr x1)), some (.inr (.inr x2)), some (.inl x3)] [.inl (0 : Int32), .inl v2, .inr (.inr x2), .inl v1] (by decide +kernel) rfl ?_
    exact s_lsub (ls' := [some (.inr (.inr 4000)), some (.inr (.inr x1)), some (.inr (.inr x2)), some (.inl x3)]) ⟨rfl, ⟨rfl, ⟨rfl, ⟨rfl, trivial⟩⟩⟩⟩ (J_L_law_1768 M x1 x2 x3 v1 x2 v2 (0 : Int32) K kk1 kk2_0)
  · skip
    refine s_run (b := [(.iconst 1, 1), (.goto 4, 3)]) 1768 [some (.inr (.inr 4000)), some (.inr (.inr x1)), some (.inr (.inr x2)), some (.inl x3)] [.inl (1 : Int32), .inl v2, .inr (.inr x2), .inl v1] (by decide +kernel) rfl ?_
    exact s_lsub (ls' := [some (.inr (.inr 4000)), some (.inr (.inr x1)), some (.inr (.inr x2)), some (.inl x3)]) ⟨rfl, ⟨rfl, ⟨rfl, ⟨rfl, trivial⟩⟩⟩⟩ (J_L_law_1768 M x1 x2 x3 v1 x2 v2 (1 : Int32) K kk1 kk2_0)
def f_L_law_B18 (lim : Nat × Nat) (X : List Int32) (M : Mem) (x1 : Nat) (x2 : Nat) (x3 : Int32) : Option ((Int32 × Mem) ⊕ ((Mem))) :=
  (if ((Int32.ofNat X.length) - (6 : Int32)) < x3 then
    some (.inr M)
  else
    (scI X x3).bind fun v2 =>
    (if (v2 &&& (63 : Int32)) = (0 : Int32) then
      (scI X (x3 + (1 : Int32))).bind fun v4 =>
      (scI X (x3 + (2 : Int32))).bind fun v5 =>
      (scI X (x3 + (3 : Int32))).bind fun v6 =>
      (scI X (x3 + (4 : Int32))).bind fun v7 =>
      (scI X (x3 + (5 : Int32))).bind fun v8 =>
      (ob M 11 x1).bind fun _ => (f_X11_feed M x1 v4 v5 v6 v7 v8).bind fun z9 =>
      (scI X (x3 + (1 : Int32))).bind fun v10 =>
      (scI X (x3 + (2 : Int32))).bind fun v11 =>
      (scI X (x3 + (3 : Int32))).bind fun v12 =>
      (scI X (x3 + (4 : Int32))).bind fun v13 =>
      (scI X (x3 + (5 : Int32))).bind fun v14 =>
      (ob z9.2 12 x2).bind fun _ => (f_X12_feed z9.2 x2 v10 v11 v12 v13 v14).bind fun z15 =>
      (if z9.1 = z15.1 then
        some (.inl ((x3 + (6 : Int32)), z15.2))
      else
        none)
    else
    (if (v2 &&& (63 : Int32)) = (1 : Int32) then
      (scI X (x3 + (1 : Int32))).bind fun v19 =>
      (ob M 11 x1).bind fun _ => (f_X11_end M x1 v19).bind fun z20 =>
      (scI X (x3 + (1 : Int32))).bind fun v21 =>
      (ob z20.2 12 x2).bind fun _ => (f_X12_end z20.2 x2 v21).bind fun z22 =>
      (if z20.1 = z22.1 then
        some (.inl ((x3 + (6 : Int32)), z22.2))
      else
        none)
    else
    (if (v2 &&& (63 : Int32)) = (2 : Int32) then
      (scI X (x3 + (1 : Int32))).bind fun v26 =>
      (scI X (x3 + (2 : Int32))).bind fun v27 =>
      (ob M 11 x1).bind fun _ => (f_X11_text M x1 v26 v27).bind fun z28 =>
      (scI X (x3 + (1 : Int32))).bind fun v29 =>
      (scI X (x3 + (2 : Int32))).bind fun v30 =>
      (ob z28.2 12 x2).bind fun _ => (f_X12_text z28.2 x2 v29 v30).bind fun z31 =>
      (if z28.1 = z31.1 then
        some (.inl ((x3 + (6 : Int32)), z31.2))
      else
        none)
    else
    (if (v2 &&& (63 : Int32)) = (3 : Int32) then
      (scI X (x3 + (1 : Int32))).bind fun v35 =>
      (ob M 11 x1).bind fun _ => (f_X11_fault M x1 v35).bind fun v36 =>
      (scI X (x3 + (1 : Int32))).bind fun v37 =>
      (ob M 12 x2).bind fun _ => (f_X12_fault M x2 v37).bind fun v38 =>
      (if v36 = v38 then
        some (.inl ((x3 + (6 : Int32)), M))
      else
        none)
    else
    (if (v2 &&& (63 : Int32)) = (4 : Int32) then
      (scI X (x3 + (1 : Int32))).bind fun v42 =>
      (scI X (x3 + (2 : Int32))).bind fun v43 =>
      (ob M 11 x1).bind fun _ => (f_X11_office M x1 v42 v43).bind fun v44 =>
      (scI X (x3 + (1 : Int32))).bind fun v45 =>
      (scI X (x3 + (2 : Int32))).bind fun v46 =>
      (ob M 12 x2).bind fun _ => (f_X12_office M x2 v45 v46).bind fun z47 =>
      (if v44 = z47.1 then
        some (.inl ((x3 + (6 : Int32)), z47.2))
      else
        none)
    else
    (if (v2 &&& (63 : Int32)) = (5 : Int32) then
      (scI X (x3 + (1 : Int32))).bind fun v51 =>
      (scI X (x3 + (2 : Int32))).bind fun v52 =>
      (scI X (x3 + (3 : Int32))).bind fun v53 =>
      (ob M 11 x1).bind fun _ => (f_X11_deed M x1 v51 v52 v53).bind fun v54 =>
      (scI X (x3 + (1 : Int32))).bind fun v55 =>
      (scI X (x3 + (2 : Int32))).bind fun v56 =>
      (scI X (x3 + (3 : Int32))).bind fun v57 =>
      (ob M 12 x2).bind fun _ => (f_X12_deed M x2 v55 v56 v57).bind fun z58 =>
      (if v54 = z58.1 then
        some (.inl ((x3 + (6 : Int32)), z58.2))
      else
        none)
    else
    (if (v2 &&& (63 : Int32)) = (6 : Int32) then
      (scI X (x3 + (1 : Int32))).bind fun v62 =>
      (scI X (x3 + (2 : Int32))).bind fun v63 =>
      (ob M 11 x1).bind fun _ => (f_X11_stop M x1 v62 v63).bind fun z64 =>
      (scI X (x3 + (1 : Int32))).bind fun v65 =>
      (scI X (x3 + (2 : Int32))).bind fun v66 =>
      (ob z64.2 12 x2).bind fun _ => (f_X12_stop z64.2 x2 v65 v66).bind fun z67 =>
      (if z64.1 = z67.1 then
        some (.inl ((x3 + (6 : Int32)), z67.2))
      else
        none)
    else
    (if (v2 &&& (63 : Int32)) = (7 : Int32) then
      (scI X (x3 + (1 : Int32))).bind fun v71 =>
      (scI X (x3 + (2 : Int32))).bind fun v72 =>
      (scI X (x3 + (3 : Int32))).bind fun v73 =>
      (scI X (x3 + (4 : Int32))).bind fun v74 =>
      (ob M 11 x1).bind fun _ => (f_X11_state M x1 v71 v72 v73 v74).bind fun z75 =>
      (scI X (x3 + (1 : Int32))).bind fun v76 =>
      (scI X (x3 + (2 : Int32))).bind fun v77 =>
      (scI X (x3 + (3 : Int32))).bind fun v78 =>
      (scI X (x3 + (4 : Int32))).bind fun v79 =>
      (ob z75.2 12 x2).bind fun _ => (f_X12_state z75.2 x2 v76 v77 v78 v79).bind fun z80 =>
      (if z75.1 = z80.1 then
        some (.inl ((x3 + (6 : Int32)), z80.2))
      else
        none)
    else
    (if (v2 &&& (63 : Int32)) = (8 : Int32) then
      (scI X (x3 + (1 : Int32))).bind fun v84 =>
      (scI X (x3 + (2 : Int32))).bind fun v85 =>
      (scI X (x3 + (3 : Int32))).bind fun v86 =>
      (scI X (x3 + (4 : Int32))).bind fun v87 =>
      (if v87 = 0 then
        f_L_law_J537 lim X M x1 x2 x3 x1 v84 v85 v86 (0 : Int32)
      else
        f_L_law_J537 lim X M x1 x2 x3 x1 v84 v85 v86 (1 : Int32))
    else
    (if (v2 &&& (63 : Int32)) = (9 : Int32) then
      (scI X (x3 + (1 : Int32))).bind fun v90 =>
      (ob M 11 x1).bind fun _ => (f_X11_enough M x1 v90).bind fun z91 =>
      (scI X (x3 + (1 : Int32))).bind fun v92 =>
      (ob z91.2 12 x2).bind fun _ => (f_X12_enough z91.2 x2 v92).bind fun z93 =>
      (if z91.1 = z93.1 then
        some (.inl ((x3 + (6 : Int32)), z93.2))
      else
        none)
    else
    (if (v2 &&& (63 : Int32)) = (10 : Int32) then
      (scI X (x3 + (1 : Int32))).bind fun v97 =>
      (scI X (x3 + (2 : Int32))).bind fun v98 =>
      (scI X (x3 + (3 : Int32))).bind fun v99 =>
      (if v99 = 0 then
        f_L_law_J624 lim X M x1 x2 x3 x1 v97 v98 (0 : Int32)
      else
        f_L_law_J624 lim X M x1 x2 x3 x1 v97 v98 (1 : Int32))
    else
    (if (v2 &&& (63 : Int32)) = (11 : Int32) then
      (scI X (x3 + (1 : Int32))).bind fun v102 =>
      (scI X (x3 + (2 : Int32))).bind fun v103 =>
      (scI X (x3 + (3 : Int32))).bind fun v104 =>
      (if v104 = 0 then
        f_L_law_J684 lim X M x1 x2 x3 x1 v102 v103 (0 : Int32)
      else
        f_L_law_J684 lim X M x1 x2 x3 x1 v102 v103 (1 : Int32))
    else
    (if (v2 &&& (63 : Int32)) = (12 : Int32) then
      (scI X (x3 + (1 : Int32))).bind fun v107 =>
      (scI X (x3 + (2 : Int32))).bind fun v108 =>
      (scI X (x3 + (3 : Int32))).bind fun v109 =>
      (scI X (x3 + (4 : Int32))).bind fun v110 =>
      (ob M 11 x1).bind fun _ => (f_X11_rest M x1 v107 v108 v109 v110).bind fun z111 =>
      (scI X (x3 + (1 : Int32))).bind fun v112 =>
      (scI X (x3 + (2 : Int32))).bind fun v113 =>
      (scI X (x3 + (3 : Int32))).bind fun v114 =>
      (scI X (x3 + (4 : Int32))).bind fun v115 =>
      (ob z111.2 12 x2).bind fun _ => (f_X12_rest z111.2 x2 v112 v113 v114 v115).bind fun z116 =>
      (if z111.1 = z116.1 then
        some (.inl ((x3 + (6 : Int32)), z116.2))
      else
        none)
    else
    (if (v2 &&& (63 : Int32)) = (13 : Int32) then
      (scI X (x3 + (1 : Int32))).bind fun v120 =>
      (scI X (x3 + (2 : Int32))).bind fun v121 =>
      (ob M 11 x1).bind fun _ => (f_X11_button M x1 v120 v121).bind fun z122 =>
      (scI X (x3 + (1 : Int32))).bind fun v123 =>
      (scI X (x3 + (2 : Int32))).bind fun v124 =>
      (ob z122.2 12 x2).bind fun _ => (f_X12_button z122.2 x2 v123 v124).bind fun z125 =>
      (if (lg_cmp z122.1 z125.1) = 0 then
        some (.inl ((x3 + (6 : Int32)), z125.2))
      else
        none)
    else
    (if (v2 &&& (63 : Int32)) = (14 : Int32) then
      (scI X (x3 + (1 : Int32))).bind fun v129 =>
      (scI X (x3 + (2 : Int32))).bind fun v130 =>
      (scI X (x3 + (3 : Int32))).bind fun v131 =>
      (ob M 11 x1).bind fun _ => (f_X11_fact M x1 v129 v130 v131).bind fun v132 =>
      (scI X (x3 + (1 : Int32))).bind fun v133 =>
      (scI X (x3 + (2 : Int32))).bind fun v134 =>
      (scI X (x3 + (3 : Int32))).bind fun v135 =>
      (ob M 12 x2).bind fun _ => (f_X12_fact M x2 v133 v134 v135).bind fun z136 =>
      (if v132 = z136.1 then
        some (.inl ((x3 + (6 : Int32)), z136.2))
      else
        none)
    else
    (if (v2 &&& (63 : Int32)) = (15 : Int32) then
      (scI X (x3 + (1 : Int32))).bind fun v140 =>
      (scI X (x3 + (2 : Int32))).bind fun v141 =>
      (scI X (x3 + (3 : Int32))).bind fun v142 =>
      (ob M 11 x1).bind fun _ => (f_X11_fits M x1 v140 v141 v142).bind fun z143 =>
      (scI X (x3 + (1 : Int32))).bind fun v144 =>
      (scI X (x3 + (2 : Int32))).bind fun v145 =>
      (scI X (x3 + (3 : Int32))).bind fun v146 =>
      (ob z143.2 12 x2).bind fun _ => (f_X12_fits z143.2 x2 v144 v145 v146).bind fun z147 =>
      (if z143.1 = z147.1 then
        some (.inl ((x3 + (6 : Int32)), z147.2))
      else
        none)
    else
    (if (v2 &&& (63 : Int32)) = (16 : Int32) then
      (scI X (x3 + (1 : Int32))).bind fun v151 =>
      (scI X (x3 + (2 : Int32))).bind fun v152 =>
      (scI X (x3 + (3 : Int32))).bind fun v153 =>
      (scI X (x3 + (4 : Int32))).bind fun v154 =>
      (ob M 11 x1).bind fun _ => (f_X11_drawn M x1 v151 v152 v153 v154).bind fun z155 =>
      (scI X (x3 + (1 : Int32))).bind fun v156 =>
      (scI X (x3 + (2 : Int32))).bind fun v157 =>
      (scI X (x3 + (3 : Int32))).bind fun v158 =>
      (scI X (x3 + (4 : Int32))).bind fun v159 =>
      (ob z155.2 12 x2).bind fun _ => (f_X12_drawn z155.2 x2 v156 v157 v158 v159).bind fun z160 =>
      (if z155.1 = z160.1 then
        some (.inl ((x3 + (6 : Int32)), z160.2))
      else
        none)
    else
    (if (v2 &&& (63 : Int32)) = (17 : Int32) then
      (scI X (x3 + (1 : Int32))).bind fun v164 =>
      (scI X (x3 + (2 : Int32))).bind fun v165 =>
      (scI X (x3 + (3 : Int32))).bind fun v166 =>
      (if v166 = 0 then
        f_L_law_J970 lim X M x1 x2 x3 x1 v164 v165 (0 : Int32)
      else
        f_L_law_J970 lim X M x1 x2 x3 x1 v164 v165 (1 : Int32))
    else
    (if (v2 &&& (63 : Int32)) = (18 : Int32) then
      (scI X (x3 + (1 : Int32))).bind fun v169 =>
      (scI X (x3 + (2 : Int32))).bind fun v170 =>
      (scI X (x3 + (3 : Int32))).bind fun v171 =>
      (ob M 11 x1).bind fun _ => (f_X11_rule M x1 v169 v170 v171).bind fun z172 =>
      (scI X (x3 + (1 : Int32))).bind fun v173 =>
      (scI X (x3 + (2 : Int32))).bind fun v174 =>
      (scI X (x3 + (3 : Int32))).bind fun v175 =>
      (ob z172.2 12 x2).bind fun _ => (f_X12_rule z172.2 x2 v173 v174 v175).bind fun z176 =>
      (if z172.1 = z176.1 then
        some (.inl ((x3 + (6 : Int32)), z176.2))
      else
        none)
    else
    (if (v2 &&& (63 : Int32)) = (19 : Int32) then
      (scI X (x3 + (1 : Int32))).bind fun v180 =>
      (scI X (x3 + (2 : Int32))).bind fun v181 =>
      (if v181 = 0 then
        f_L_law_J1067 lim X M x1 x2 x3 x1 v180 (0 : Int32)
      else
        f_L_law_J1067 lim X M x1 x2 x3 x1 v180 (1 : Int32))
    else
    (if (v2 &&& (63 : Int32)) = (20 : Int32) then
      (scI X (x3 + (1 : Int32))).bind fun v184 =>
      (scI X (x3 + (2 : Int32))).bind fun v185 =>
      (if v185 = 0 then
        f_L_law_J1116 lim X M x1 x2 x3 x1 v184 (0 : Int32)
      else
        f_L_law_J1116 lim X M x1 x2 x3 x1 v184 (1 : Int32))
    else
    (if (v2 &&& (63 : Int32)) = (21 : Int32) then
      (scI X (x3 + (1 : Int32))).bind fun v188 =>
      (scI X (x3 + (2 : Int32))).bind fun v189 =>
      (scI X (x3 + (3 : Int32))).bind fun v190 =>
      (if v190 = 0 then
        f_L_law_J1170 lim X M x1 x2 x3 x1 v188 v189 (0 : Int32)
      else
        f_L_law_J1170 lim X M x1 x2 x3 x1 v188 v189 (1 : Int32))
    else
    (if (v2 &&& (63 : Int32)) = (22 : Int32) then
      (scI X (x3 + (1 : Int32))).bind fun v193 =>
      (scI X (x3 + (2 : Int32))).bind fun v194 =>
      (ob M 11 x1).bind fun _ => (f_X11_quiet M x1 v193 v194).bind fun v195 =>
      (scI X (x3 + (1 : Int32))).bind fun v196 =>
      (scI X (x3 + (2 : Int32))).bind fun v197 =>
      (ob M 12 x2).bind fun _ => (f_X12_quiet M x2 v196 v197).bind fun z198 =>
      (if v195 = z198.1 then
        some (.inl ((x3 + (6 : Int32)), z198.2))
      else
        none)
    else
    (if (v2 &&& (63 : Int32)) = (23 : Int32) then
      (scI X (x3 + (1 : Int32))).bind fun v202 =>
      (scI X (x3 + (2 : Int32))).bind fun v203 =>
      (ob M 11 x1).bind fun _ => (f_X11_given M x1 v202 v203).bind fun z204 =>
      (scI X (x3 + (1 : Int32))).bind fun v205 =>
      (scI X (x3 + (2 : Int32))).bind fun v206 =>
      (ob z204.2 12 x2).bind fun _ => (f_X12_given z204.2 x2 v205 v206).bind fun z207 =>
      (if z204.1 = z207.1 then
        some (.inl ((x3 + (6 : Int32)), z207.2))
      else
        none)
    else
    (if (v2 &&& (63 : Int32)) = (24 : Int32) then
      (scI X (x3 + (1 : Int32))).bind fun v211 =>
      (scI X (x3 + (2 : Int32))).bind fun v212 =>
      (ob M 11 x1).bind fun _ => (f_X11_curve M x1 v211 v212).bind fun v213 =>
      (scI X (x3 + (1 : Int32))).bind fun v214 =>
      (scI X (x3 + (2 : Int32))).bind fun v215 =>
      (ob M 12 x2).bind fun _ => (f_X12_curve M x2 v214 v215).bind fun z216 =>
      (if v213 = z216.1 then
        some (.inl ((x3 + (6 : Int32)), z216.2))
      else
        none)
    else
    (if (v2 &&& (63 : Int32)) = (25 : Int32) then
      (scI X (x3 + (1 : Int32))).bind fun v220 =>
      (ob M 11 x1).bind fun _ => (f_X11_ears M x1 v220).bind fun v221 =>
      (scI X (x3 + (1 : Int32))).bind fun v222 =>
      (ob M 12 x2).bind fun _ => (f_X12_ears M x2 v222).bind fun z223 =>
      (if v221 = z223.1 then
        some (.inl ((x3 + (6 : Int32)), z223.2))
      else
        none)
    else
    (if (v2 &&& (63 : Int32)) = (26 : Int32) then
      (scI X (x3 + (1 : Int32))).bind fun v227 =>
      (scI X (x3 + (2 : Int32))).bind fun v228 =>
      (scI X (x3 + (3 : Int32))).bind fun v229 =>
      (ob M 11 x1).bind fun _ => (f_X11_order M x1 v227 v228 v229).bind fun z230 =>
      (scI X (x3 + (1 : Int32))).bind fun v231 =>
      (scI X (x3 + (2 : Int32))).bind fun v232 =>
      (scI X (x3 + (3 : Int32))).bind fun v233 =>
      (ob z230.2 12 x2).bind fun _ => (f_X12_order z230.2 x2 v231 v232 v233).bind fun z234 =>
      (if z230.1 = z234.1 then
        some (.inl ((x3 + (6 : Int32)), z234.2))
      else
        none)
    else
    (if (v2 &&& (63 : Int32)) = (27 : Int32) then
      (scI X (x3 + (1 : Int32))).bind fun v238 =>
      (scI X (x3 + (2 : Int32))).bind fun v239 =>
      (scI X (x3 + (3 : Int32))).bind fun v240 =>
      (ob M 11 x1).bind fun _ => (f_X11_after M x1 v238 v239 v240).bind fun z241 =>
      (scI X (x3 + (1 : Int32))).bind fun v242 =>
      (scI X (x3 + (2 : Int32))).bind fun v243 =>
      (scI X (x3 + (3 : Int32))).bind fun v244 =>
      (ob z241.2 12 x2).bind fun _ => (f_X12_after z241.2 x2 v242 v243 v244).bind fun z245 =>
      (if z241.1 = z245.1 then
        some (.inl ((x3 + (6 : Int32)), z245.2))
      else
        none)
    else
    (if (v2 &&& (63 : Int32)) = (28 : Int32) then
      (scI X (x3 + (1 : Int32))).bind fun v249 =>
      (scI X (x3 + (2 : Int32))).bind fun v250 =>
      (scI X (x3 + (3 : Int32))).bind fun v251 =>
      (if v251 = 0 then
        f_L_law_J1437 lim X M x1 x2 x3 x1 v249 v250 (0 : Int32)
      else
        f_L_law_J1437 lim X M x1 x2 x3 x1 v249 v250 (1 : Int32))
    else
    (if (v2 &&& (63 : Int32)) = (29 : Int32) then
      (scI X (x3 + (1 : Int32))).bind fun v254 =>
      (scI X (x3 + (2 : Int32))).bind fun v255 =>
      (scI X (x3 + (3 : Int32))).bind fun v256 =>
      (ob M 11 x1).bind fun _ => (f_X11_duty M x1 v254 v255 v256).bind fun z257 =>
      (scI X (x3 + (1 : Int32))).bind fun v258 =>
      (scI X (x3 + (2 : Int32))).bind fun v259 =>
      (scI X (x3 + (3 : Int32))).bind fun v260 =>
      (ob z257.2 12 x2).bind fun _ => (f_X12_duty z257.2 x2 v258 v259 v260).bind fun z261 =>
      (if z257.1 = z261.1 then
        some (.inl ((x3 + (6 : Int32)), z261.2))
      else
        none)
    else
    (if (v2 &&& (63 : Int32)) = (30 : Int32) then
      (scI X (x3 + (1 : Int32))).bind fun v265 =>
      (scI X (x3 + (2 : Int32))).bind fun v266 =>
      (scI X (x3 + (3 : Int32))).bind fun v267 =>
      (ob M 11 x1).bind fun _ => (f_X11_passed M x1 v265 v266 v267).bind fun v268 =>
      (scI X (x3 + (1 : Int32))).bind fun v269 =>
      (scI X (x3 + (2 : Int32))).bind fun v270 =>
      (scI X (x3 + (3 : Int32))).bind fun v271 =>
      (ob M 12 x2).bind fun _ => (f_X12_passed M x2 v269 v270 v271).bind fun z272 =>
      (if v268 = z272.1 then
        some (.inl ((x3 + (6 : Int32)), z272.2))
      else
        none)
    else
    (if (v2 &&& (63 : Int32)) = (31 : Int32) then
      (scI X (x3 + (1 : Int32))).bind fun v276 =>
      (scI X (x3 + (2 : Int32))).bind fun v277 =>
      (ob M 11 x1).bind fun _ => (f_X11_tied M x1 v276 v277).bind fun z278 =>
      (scI X (x3 + (1 : Int32))).bind fun v279 =>
      (scI X (x3 + (2 : Int32))).bind fun v280 =>
      (ob z278.2 12 x2).bind fun _ => (f_X12_tied z278.2 x2 v279 v280).bind fun z281 =>
      (if z278.1 = z281.1 then
        some (.inl ((x3 + (6 : Int32)), z281.2))
      else
        none)
    else
    (if (v2 &&& (63 : Int32)) = (32 : Int32) then
      (scI X (x3 + (1 : Int32))).bind fun v285 =>
      (scI X (x3 + (2 : Int32))).bind fun v286 =>
      (scI X (x3 + (3 : Int32))).bind fun v287 =>
      (if v287 = 0 then
        f_L_law_J1615 lim X M x1 x2 x3 x1 v285 v286 (0 : Int32)
      else
        f_L_law_J1615 lim X M x1 x2 x3 x1 v285 v286 (1 : Int32))
    else
    (if (v2 &&& (63 : Int32)) = (33 : Int32) then
      (scI X (x3 + (1 : Int32))).bind fun v290 =>
      (ob M 11 x1).bind fun _ => (f_X11_best M x1 v290).bind fun z291 =>
      (scI X (x3 + (1 : Int32))).bind fun v292 =>
      (ob z291.2 12 x2).bind fun _ => (f_X12_best z291.2 x2 v292).bind fun z293 =>
      (if z291.1 = z293.1 then
        some (.inl ((x3 + (6 : Int32)), z293.2))
      else
        none)
    else
    (if (v2 &&& (63 : Int32)) = (34 : Int32) then
      (scI X (x3 + (1 : Int32))).bind fun v297 =>
      (scI X (x3 + (2 : Int32))).bind fun v298 =>
      (scI X (x3 + (3 : Int32))).bind fun v299 =>
      (scI X (x3 + (4 : Int32))).bind fun v300 =>
      (ob M 11 x1).bind fun _ => (f_X11_fewer M x1 v297 v298 v299 v300).bind fun z301 =>
      (scI X (x3 + (1 : Int32))).bind fun v302 =>
      (scI X (x3 + (2 : Int32))).bind fun v303 =>
      (scI X (x3 + (3 : Int32))).bind fun v304 =>
      (scI X (x3 + (4 : Int32))).bind fun v305 =>
      (ob z301.2 12 x2).bind fun _ => (f_X12_fewer z301.2 x2 v302 v303 v304 v305).bind fun z306 =>
      (if z301.1 = z306.1 then
        some (.inl ((x3 + (6 : Int32)), z306.2))
      else
        none)
    else
    (if (v2 &&& (63 : Int32)) = (35 : Int32) then
      (scI X (x3 + (1 : Int32))).bind fun v310 =>
      (scI X (x3 + (2 : Int32))).bind fun v311 =>
      (if v311 = 0 then
        f_L_law_J1746 lim X M x1 x2 x3 x1 v310 (0 : Int32)
      else
        f_L_law_J1746 lim X M x1 x2 x3 x1 v310 (1 : Int32))
    else
    (if (v2 &&& (63 : Int32)) = (36 : Int32) then
      (scI X (x3 + (1 : Int32))).bind fun v314 =>
      (ob M 11 x1).bind fun _ => (f_X11_count M x1 v314).bind fun v315 =>
      (scI X (x3 + (1 : Int32))).bind fun v316 =>
      (ob M 12 x2).bind fun _ => (f_X12_count M x2 v316).bind fun v317 =>
      (if v315 = v317 then
        some (.inl ((x3 + (6 : Int32)), M))
      else
        none)
    else
    (if (v2 &&& (63 : Int32)) = (37 : Int32) then
      (scI X (x3 + (1 : Int32))).bind fun v321 =>
      (ob M 11 x1).bind fun _ => (f_X11_image M x1 v321).bind fun z322 =>
      (scI X (x3 + (1 : Int32))).bind fun v323 =>
      (ob z322.2 12 x2).bind fun _ => (f_X12_image z322.2 x2 v323).bind fun z324 =>
      (if z322.1 = z324.1 then
        some (.inl ((x3 + (6 : Int32)), z324.2))
      else
        none)
    else
    (if (v2 &&& (63 : Int32)) = (38 : Int32) then
      (scI X (x3 + (1 : Int32))).bind fun v328 =>
      (ob M 11 x1).bind fun _ => (f_X11_again M x1 v328).bind fun z329 =>
      (scI X (x3 + (1 : Int32))).bind fun v330 =>
      (ob z329.2 12 x2).bind fun _ => (f_X12_again z329.2 x2 v330).bind fun z331 =>
      (if z329.1 = z331.1 then
        some (.inl ((x3 + (6 : Int32)), z331.2))
      else
        none)
    else
    some (.inl ((x3 + (6 : Int32)), M))))))))))))))))))))))))))))))))))))))))))
def f_L_law_L18 (lim : Nat × Nat) (X : List Int32) (M : Mem) (x1 : Nat) (x2 : Nat) (x3 : Int32) : Option ((Mem)) := iter (fun s : Int32 × Mem => f_L_law_B18 lim X s.2 x1 x2 s.1) 1048576 (x3, M)
set_option maxRecDepth 20000 in
theorem B_L_law_18 {l : Launch} {G : Gv} {lim : Nat × Nat} (M : Mem) (x1 : Nat) (x2 : Nat) (x3 : Int32) (K : (Int32 × Mem) ⊕ ((Mem)) → Option (Option Value × Mem)) (kk1 : ∀ s' : Int32 × Mem, SimR l G Y_L_law lim (K (.inl s')) 18 [some (.inr (.inr 4000)), some (.inr (.inr x1)), some (.inr (.inr x2)), some (.inl s'.1)] [] s'.2) (kk2_0 : ∀ r : Mem, SimR l G Y_L_law lim (K (.inr r)) 1851 [none, none, none, none] [] r) : Sim l G Y_L_law lim (f_L_law_B18 lim G.2.2.2.2 M x1 x2 x3) K 18 [some (.inr (.inr 4000)), some (.inr (.inr x1)), some (.inr (.inr x2)), some (.inl x3)] [] M := by
  unfold f_L_law_B18
  refine s_run (b := [(.iload_n 3, 1), (.aload_n 0, 1)]) 20 [some (.inr (.inr 4000)), some (.inr (.inr x1)), some (.inr (.inr x2)), some (.inl x3)] [.inr (.inr 4000), .inl x3] (by decide +kernel) rfl ?_
  refine s_scl rfl (by decide +kernel) ?_
  change Sim l G Y_L_law lim _ _ 21 [some (.inr (.inr 4000)), some (.inr (.inr x1)), some (.inr (.inr x2)), some (.inl x3)] [.inl (Int32.ofNat G.2.2.2.2.length), .inl x3] M
  refine s_run (b := [(.bipush 6, 2), (.isub, 1)]) 24 [some (.inr (.inr 4000)), some (.inr (.inr x1)), some (.inr (.inr x2)), some (.inl x3)] [.inl ((Int32.ofNat G.2.2.2.2.length) - (6 : Int32)), .inl x3] (by decide +kernel) rfl ?_
  refine s_ic_gt (tgt := 1851) (off := 1827) (by decide +kernel) (by decide) (fun h1 => ?_) (fun h1 => ?_)
  · skip
    exact s_lsub (ls' := [none, none, none, none]) trivial (kk2_0 M)
  · skip
    refine s_run (b := [(.aload_n 0, 1), (.iload_n 3, 1)]) 29 [some (.inr (.inr 4000)), some (.inr (.inr x1)), some (.inr (.inr x2)), some (.inl x3)] [.inl x3, .inr (.inr 4000)] (by decide +kernel) rfl ?_
    refine s_sc (by decide +kernel) (fun v2 => ?_)
    refine s_run (b := [(.bipush 63, 2), (.iand, 1)]) 33 [some (.inr (.inr 4000)), some (.inr (.inr x1)), some (.inr (.inr x2)), some (.inl x3)] [.inl (v2 &&& (63 : Int32))] (by decide +kernel) rfl ?_
    refine s_ite (fun h3 => ?_) (fun h3 => ?_)
    · refine s_tabIn (off := 171) (tgt := 204) (dflt := 1812) (lo := 0) (hi := 38) (offs := #[171, 234, 257, 290, 313, 346, 389, 422, 475, 544, 567, 627, 687, 740, 774, 817, 860, 913, 972, 1015, 1064, 1113, 1172, 1205, 1238, 1271, 1294, 1337, 1380, 1439, 1482, 1525, 1558, 1618, 1641, 1694, 1743, 1766, 1789]) (len := 171) (0 : Int32) (by decide +kernel) h3 rfl rfl rfl (by decide) ?_
      change Sim l G Y_L_law lim _ _ 204 [some (.inr (.inr 4000)), some (.inr (.inr x1)), some (.inr (.inr x2)), some (.inl x3)] [] M
      refine s_run (b := [(.aload_n 1, 1), (.aload_n 0, 1), (.iload_n 3, 1), (.iconst 1, 1), (.iadd, 1)]) 209 [some (.inr (.inr 4000)), some (.inr (.inr x1)), some (.inr (.inr x2)), some (.inl x3)] [.inl (x3 + (1 : Int32)), .inr (.inr 4000), .inr (.inr x1)] (by decide +kernel) rfl ?_
      refine s_sc (by decide +kernel) (fun v4 => ?_)
      refine s_run (b := [(.aload_n 0, 1), (.iload_n 3, 1), (.iconst 2, 1), (.iadd, 1)]) 214 [some (.inr (.inr 4000)), some (.inr (.inr x1)), some (.inr (.inr x2)), some (.inl x3)] [.inl (x3 + (2 : Int32)), .inr (.inr 4000), .inl v4, .inr (.inr x1)] (by decide +kernel) rfl ?_
      refine s_sc (by decide +kernel) (fun v5 => ?_)
      refine s_run (b := [(.aload_n 0, 1), (.iload_n 3, 1), (.iconst 3, 1), (.iadd, 1)]) 219 [some (.inr (.inr 4000)), some (.inr (.inr x1)), some (.inr (.inr x2)), some (.inl x3)] [.inl (x3 + (3 : Int32)), .inr (.inr 4000), .inl v5, .inl v4, .inr (.inr x1)] (by decide +kernel) rfl ?_
      refine s_sc (by decide +kernel) (fun v6 => ?_)
      refine s_run (b := [(.aload_n 0, 1), (.iload_n 3, 1), (.iconst 4, 1), (.iadd, 1)]) 224 [some (.inr (.inr 4000)), some (.inr (.inr x1)), some (.inr (.inr x2)), some (.inl x3)] [.inl (x3 + (4 : Int32)), .inr (.inr 4000), .inl v6, .inl v5, .inl v4, .inr (.inr x1)] (by decide +kernel) rfl ?_
      refine s_sc (by decide +kernel) (fun v7 => ?_)
      refine s_run (b := [(.aload_n 0, 1), (.iload_n 3, 1), (.iconst 5, 1), (.iadd, 1)]) 229 [some (.inr (.inr 4000)), some (.inr (.inr x1)), some (.inr (.inr x2)), some (.inl x3)] [.inl (x3 + (5 : Int32)), .inr (.inr 4000), .inl v7, .inl v6, .inl v5, .inl v4, .inr (.inr x1)] (by decide +kernel) rfl ?_
      refine s_sc (by decide +kernel) (fun v8 => ?_)
      refine s_cV (Z := Y_X11_feed) (c := 11) (vs := [.inl v4, .inl v5, .inl v6, .inl v7, .inl v8]) (st := []) (rO := fun z => some (.inl z.1)) (mO := fun z => z.2) zk_X11_feed zi_X11_feed q491 rfl ⟨by decide, by decide⟩ ⟨rfl, rfl⟩ rfl rfl (Nat.le_of_ble_eq_true rfl) (by decide +kernel) (fun z hz => c_X11_feed hz) (fun z9 => ?_)
      change Sim l G Y_L_law lim _ _ 233 [some (.inr (.inr 4000)), some (.inr (.inr x1)), some (.inr (.inr x2)), some (.inl x3)] [.inl z9.1] z9.2
      refine s_run (b := [(.aload_n 2, 1), (.aload_n 0, 1), (.iload_n 3, 1), (.iconst 1, 1), (.iadd, 1)]) 238 [some (.inr (.inr 4000)), some (.inr (.inr x1)), some (.inr (.inr x2)), some (.inl x3)] [.inl (x3 + (1 : Int32)), .inr (.inr 4000), .inr (.inr x2), .inl z9.1] (by decide +kernel) rfl ?_
      refine s_sc (by decide +kernel) (fun v10 => ?_)
      refine s_run (b := [(.aload_n 0, 1), (.iload_n 3, 1), (.iconst 2, 1), (.iadd, 1)]) 243 [some (.inr (.inr 4000)), some (.inr (.inr x1)), some (.inr (.inr x2)), some (.inl x3)] [.inl (x3 + (2 : Int32)), .inr (.inr 4000), .inl v10, .inr (.inr x2), .inl z9.1] (by decide +kernel) rfl ?_
      refine s_sc (by decide +kernel) (fun v11 => ?_)
      refine s_run (b := [(.aload_n 0, 1), (.iload_n 3, 1), (.iconst 3, 1), (.iadd, 1)]) 248 [some (.inr (.inr 4000)), some (.inr (.inr x1)), some (.inr (.inr x2)), some (.inl x3)] [.inl (x3 + (3 : Int32)), .inr (.inr 4000), .inl v11, .inl v10, .inr (.inr x2), .inl z9.1] (by decide +kernel) rfl ?_
      refine s_sc (by decide +kernel) (fun v12 => ?_)
      refine s_run (b := [(.aload_n 0, 1), (.iload_n 3, 1), (.iconst 4, 1), (.iadd, 1)]) 253 [some (.inr (.inr 4000)), some (.inr (.inr x1)), some (.inr (.inr x2)), some (.inl x3)] [.inl (x3 + (4 : Int32)), .inr (.inr 4000), .inl v12, .inl v11, .inl v10, .inr (.inr x2), .inl z9.1] (by decide +kernel) rfl ?_
      refine s_sc (by decide +kernel) (fun v13 => ?_)
      refine s_run (b := [(.aload_n 0, 1), (.iload_n 3, 1), (.iconst 5, 1), (.iadd, 1)]) 258 [some (.inr (.inr 4000)), some (.inr (.inr x1)), some (.inr (.inr x2)), some (.inl x3)] [.inl (x3 + (5 : Int32)), .inr (.inr 4000), .inl v13, .inl v12, .inl v11, .inl v10, .inr (.inr x2), .inl z9.1] (by decide +kernel) rfl ?_
      refine s_sc (by decide +kernel) (fun v14 => ?_)
      refine s_cV (Z := Y_X12_feed) (c := 12) (vs := [.inl v10, .inl v11, .inl v12, .inl v13, .inl v14]) (st := [.inl z9.1]) (rO := fun z => some (.inl z.1)) (mO := fun z => z.2) zk_X12_feed zi_X12_feed q1451 rfl ⟨by decide, by decide⟩ ⟨rfl, rfl⟩ rfl rfl (Nat.le_of_ble_eq_true rfl) (by decide +kernel) (fun z hz => c_X12_feed hz) (fun z15 => ?_)
      change Sim l G Y_L_law lim _ _ 262 [some (.inr (.inr 4000)), some (.inr (.inr x1)), some (.inr (.inr x2)), some (.inl x3)] [.inl z15.1, .inl z9.1] z15.2
      refine s_ic_eq (tgt := 1845) (off := 1583) (by decide +kernel) (by decide) (fun h16 => ?_) (fun h16 => ?_)
      · skip
        refine s_run (b := [(.iinc 3 6, 3), (.goto (-1830), 3)]) 18 [some (.inr (.inr 4000)), some (.inr (.inr x1)), some (.inr (.inr x2)), some (.inl (x3 + (6 : Int32)))] [] (by decide +kernel) rfl ?_
        generalize (x3 + (6 : Int32)) = g17
        exact s_lsub (ls' := [some (.inr (.inr 4000)), some (.inr (.inr x1)), some (.inr (.inr x2)), some (.inl g17)]) ⟨rfl, ⟨rfl, ⟨rfl, ⟨rfl, trivial⟩⟩⟩⟩ (kk1 (g17, z15.2))
      · skip
        exact s_none
    refine s_ite (fun h18 => ?_) (fun h18 => ?_)
    · refine s_tabIn (off := 234) (tgt := 267) (dflt := 1812) (lo := 0) (hi := 38) (offs := #[171, 234, 257, 290, 313, 346, 389, 422, 475, 544, 567, 627, 687, 740, 774, 817, 860, 913, 972, 1015, 1064, 1113, 1172, 1205, 1238, 1271, 1294, 1337, 1380, 1439, 1482, 1525, 1558, 1618, 1641, 1694, 1743, 1766, 1789]) (len := 171) (1 : Int32) (by decide +kernel) h18 rfl rfl rfl (by decide) ?_
      change Sim l G Y_L_law lim _ _ 267 [some (.inr (.inr 4000)), some (.inr (.inr x1)), some (.inr (.inr x2)), some (.inl x3)] [] M
      refine s_run (b := [(.aload_n 1, 1), (.aload_n 0, 1), (.iload_n 3, 1), (.iconst 1, 1), (.iadd, 1)]) 272 [some (.inr (.inr 4000)), some (.inr (.inr x1)), some (.inr (.inr x2)), some (.inl x3)] [.inl (x3 + (1 : Int32)), .inr (.inr 4000), .inr (.inr x1)] (by decide +kernel) rfl ?_
      refine s_sc (by decide +kernel) (fun v19 => ?_)
      refine s_cV (Z := Y_X11_end) (c := 11) (vs := [.inl v19]) (st := []) (rO := fun z => some (.inl z.1)) (mO := fun z => z.2) zk_X11_end zi_X11_end q499 rfl ⟨by decide, by decide⟩ ⟨rfl, rfl⟩ rfl rfl (Nat.le_of_ble_eq_true rfl) (by decide +kernel) (fun z hz => c_X11_end hz) (fun z20 => ?_)
      change Sim l G Y_L_law lim _ _ 276 [some (.inr (.inr 4000)), some (.inr (.inr x1)), some (.inr (.inr x2)), some (.inl x3)] [.inl z20.1] z20.2
      refine s_run (b := [(.aload_n 2, 1), (.aload_n 0, 1), (.iload_n 3, 1), (.iconst 1, 1), (.iadd, 1)]) 281 [some (.inr (.inr 4000)), some (.inr (.inr x1)), some (.inr (.inr x2)), some (.inl x3)] [.inl (x3 + (1 : Int32)), .inr (.inr 4000), .inr (.inr x2), .inl z20.1] (by decide +kernel) rfl ?_
      refine s_sc (by decide +kernel) (fun v21 => ?_)
      refine s_cV (Z := Y_X12_end) (c := 12) (vs := [.inl v21]) (st := [.inl z20.1]) (rO := fun z => some (.inl z.1)) (mO := fun z => z.2) zk_X12_end zi_X12_end q1455 rfl ⟨by decide, by decide⟩ ⟨rfl, rfl⟩ rfl rfl (Nat.le_of_ble_eq_true rfl) (by decide +kernel) (fun z hz => c_X12_end hz) (fun z22 => ?_)
      change Sim l G Y_L_law lim _ _ 285 [some (.inr (.inr 4000)), some (.inr (.inr x1)), some (.inr (.inr x2)), some (.inl x3)] [.inl z22.1, .inl z20.1] z22.2
      refine s_ic_eq (tgt := 1845) (off := 1560) (by decide +kernel) (by decide) (fun h23 => ?_) (fun h23 => ?_)
      · skip
        refine s_run (b := [(.iinc 3 6, 3), (.goto (-1830), 3)]) 18 [some (.inr (.inr 4000)), some (.inr (.inr x1)), some (.inr (.inr x2)), some (.inl (x3 + (6 : Int32)))] [] (by decide +kernel) rfl ?_
        generalize (x3 + (6 : Int32)) = g24
        exact s_lsub (ls' := [some (.inr (.inr 4000)), some (.inr (.inr x1)), some (.inr (.inr x2)), some (.inl g24)]) ⟨rfl, ⟨rfl, ⟨rfl, ⟨rfl, trivial⟩⟩⟩⟩ (kk1 (g24, z22.2))
      · skip
        exact s_none
    refine s_ite (fun h25 => ?_) (fun h25 => ?_)
    · refine s_tabIn (off := 257) (tgt := 290) (dflt := 1812) (lo := 0) (hi := 38) (offs := #[171, 234, 257, 290, 313, 346, 389, 422, 475, 544, 567, 627, 687, 740, 774, 817, 860, 913, 972, 1015, 1064, 1113, 1172, 1205, 1238, 1271, 1294, 1337, 1380, 1439, 1482, 1525, 1558, 1618, 1641, 1694, 1743, 1766, 1789]) (len := 171) (2 : Int32) (by decide +kernel) h25 rfl rfl rfl (by decide) ?_
      change Sim l G Y_L_law lim _ _ 290 [some (.inr (.inr 4000)), some (.inr (.inr x1)), some (.inr (.inr x2)), some (.inl x3)] [] M
      refine s_run (b := [(.aload_n 1, 1), (.aload_n 0, 1), (.iload_n 3, 1), (.iconst 1, 1), (.iadd, 1)]) 295 [some (.inr (.inr 4000)), some (.inr (.inr x1)), some (.inr (.inr x2)), some (.inl x3)] [.inl (x3 + (1 : Int32)), .inr (.inr 4000), .inr (.inr x1)] (by decide +kernel) rfl ?_
      refine s_sc (by decide +kernel) (fun v26 => ?_)
      refine s_run (b := [(.aload_n 0, 1), (.iload_n 3, 1), (.iconst 2, 1), (.iadd, 1)]) 300 [some (.inr (.inr 4000)), some (.inr (.inr x1)), some (.inr (.inr x2)), some (.inl x3)] [.inl (x3 + (2 : Int32)), .inr (.inr 4000), .inl v26, .inr (.inr x1)] (by decide +kernel) rfl ?_
      refine s_sc (by decide +kernel) (fun v27 => ?_)
      refine s_cV (Z := Y_X11_text) (c := 11) (vs := [.inl v26, .inl v27]) (st := []) (rO := fun z => some (.inl z.1)) (mO := fun z => z.2) zk_X11_text zi_X11_text q503 rfl ⟨by decide, by decide⟩ ⟨rfl, rfl⟩ rfl rfl (Nat.le_of_ble_eq_true rfl) (by decide +kernel) (fun z hz => c_X11_text hz) (fun z28 => ?_)
      change Sim l G Y_L_law lim _ _ 304 [some (.inr (.inr 4000)), some (.inr (.inr x1)), some (.inr (.inr x2)), some (.inl x3)] [.inl z28.1] z28.2
      refine s_run (b := [(.aload_n 2, 1), (.aload_n 0, 1), (.iload_n 3, 1), (.iconst 1, 1), (.iadd, 1)]) 309 [some (.inr (.inr 4000)), some (.inr (.inr x1)), some (.inr (.inr x2)), some (.inl x3)] [.inl (x3 + (1 : Int32)), .inr (.inr 4000), .inr (.inr x2), .inl z28.1] (by decide +kernel) rfl ?_
      refine s_sc (by decide +kernel) (fun v29 => ?_)
      refine s_run (b := [(.aload_n 0, 1), (.iload_n 3, 1), (.iconst 2, 1), (.iadd, 1)]) 314 [some (.inr (.inr 4000)), some (.inr (.inr x1)), some (.inr (.inr x2)), some (.inl x3)] [.inl (x3 + (2 : Int32)), .inr (.inr 4000), .inl v29, .inr (.inr x2), .inl z28.1] (by decide +kernel) rfl ?_
      refine s_sc (by decide +kernel) (fun v30 => ?_)
      refine s_cV (Z := Y_X12_text) (c := 12) (vs := [.inl v29, .inl v30]) (st := [.inl z28.1]) (rO := fun z => some (.inl z.1)) (mO := fun z => z.2) zk_X12_text zi_X12_text q1459 rfl ⟨by decide, by decide⟩ ⟨rfl, rfl⟩ rfl rfl (Nat.le_of_ble_eq_true rfl) (by decide +kernel) (fun z hz => c_X12_text hz) (fun z31 => ?_)
      change Sim l G Y_L_law lim _ _ 318 [some (.inr (.inr 4000)), some (.inr (.inr x1)), some (.inr (.inr x2)), some (.inl x3)] [.inl z31.1, .inl z28.1] z31.2
      refine s_ic_eq (tgt := 1845) (off := 1527) (by decide +kernel) (by decide) (fun h32 => ?_) (fun h32 => ?_)
      · skip
        refine s_run (b := [(.iinc 3 6, 3), (.goto (-1830), 3)]) 18 [some (.inr (.inr 4000)), some (.inr (.inr x1)), some (.inr (.inr x2)), some (.inl (x3 + (6 : Int32)))] [] (by decide +kernel) rfl ?_
        generalize (x3 + (6 : Int32)) = g33
        exact s_lsub (ls' := [some (.inr (.inr 4000)), some (.inr (.inr x1)), some (.inr (.inr x2)), some (.inl g33)]) ⟨rfl, ⟨rfl, ⟨rfl, ⟨rfl, trivial⟩⟩⟩⟩ (kk1 (g33, z31.2))
      · skip
        exact s_none
    refine s_ite (fun h34 => ?_) (fun h34 => ?_)
    · refine s_tabIn (off := 290) (tgt := 323) (dflt := 1812) (lo := 0) (hi := 38) (offs := #[171, 234, 257, 290, 313, 346, 389, 422, 475, 544, 567, 627, 687, 740, 774, 817, 860, 913, 972, 1015, 1064, 1113, 1172, 1205, 1238, 1271, 1294, 1337, 1380, 1439, 1482, 1525, 1558, 1618, 1641, 1694, 1743, 1766, 1789]) (len := 171) (3 : Int32) (by decide +kernel) h34 rfl rfl rfl (by decide) ?_
      change Sim l G Y_L_law lim _ _ 323 [some (.inr (.inr 4000)), some (.inr (.inr x1)), some (.inr (.inr x2)), some (.inl x3)] [] M
      refine s_run (b := [(.aload_n 1, 1), (.aload_n 0, 1), (.iload_n 3, 1), (.iconst 1, 1), (.iadd, 1)]) 328 [some (.inr (.inr 4000)), some (.inr (.inr x1)), some (.inr (.inr x2)), some (.inl x3)] [.inl (x3 + (1 : Int32)), .inr (.inr 4000), .inr (.inr x1)] (by decide +kernel) rfl ?_
      refine s_sc (by decide +kernel) (fun v35 => ?_)
      refine s_cV (Z := Y_X11_fault) (c := 11) (vs := [.inl v35]) (st := []) (rO := fun z => some (.inl z)) (mO := fun _ => M) zk_X11_fault zi_X11_fault q708 rfl ⟨by decide, by decide⟩ ⟨rfl, rfl⟩ rfl rfl (Nat.le_of_ble_eq_true rfl) (by decide +kernel) (fun z hz => c_X11_fault hz) (fun v36 => ?_)
      change Sim l G Y_L_law lim _ _ 332 [some (.inr (.inr 4000)), some (.inr (.inr x1)), some (.inr (.inr x2)), some (.inl x3)] [.inl v36] M
      refine s_run (b := [(.aload_n 2, 1), (.aload_n 0, 1), (.iload_n 3, 1), (.iconst 1, 1), (.iadd, 1)]) 337 [some (.inr (.inr 4000)), some (.inr (.inr x1)), some (.inr (.inr x2)), some (.inl x3)] [.inl (x3 + (1 : Int32)), .inr (.inr 4000), .inr (.inr x2), .inl v36] (by decide +kernel) rfl ?_
      refine s_sc (by decide +kernel) (fun v37 => ?_)
      refine s_cV (Z := Y_X12_fault) (c := 12) (vs := [.inl v37]) (st := [.inl v36]) (rO := fun z => some (.inl z)) (mO := fun _ => M) zk_X12_fault zi_X12_fault q1542 rfl ⟨by decide, by decide⟩ ⟨rfl, rfl⟩ rfl rfl (Nat.le_of_ble_eq_true rfl) (by decide +kernel) (fun z hz => c_X12_fault hz) (fun v38 => ?_)
      change Sim l G Y_L_law lim _ _ 341 [some (.inr (.inr 4000)), some (.inr (.inr x1)), some (.inr (.inr x2)), some (.inl x3)] [.inl v38, .inl v36] M
      refine s_ic_eq (tgt := 1845) (off := 1504) (by decide +kernel) (by decide) (fun h39 => ?_) (fun h39 => ?_)
      · skip
        refine s_run (b := [(.iinc 3 6, 3), (.goto (-1830), 3)]) 18 [some (.inr (.inr 4000)), some (.inr (.inr x1)), some (.inr (.inr x2)), some (.inl (x3 + (6 : Int32)))] [] (by decide +kernel) rfl ?_
        generalize (x3 + (6 : Int32)) = g40
        exact s_lsub (ls' := [some (.inr (.inr 4000)), some (.inr (.inr x1)), some (.inr (.inr x2)), some (.inl g40)]) ⟨rfl, ⟨rfl, ⟨rfl, ⟨rfl, trivial⟩⟩⟩⟩ (kk1 (g40, M))
      · skip
        exact s_none
    refine s_ite (fun h41 => ?_) (fun h41 => ?_)
    · refine s_tabIn (off := 313) (tgt := 346) (dflt := 1812) (lo := 0) (hi := 38) (offs := #[171, 234, 257, 290, 313, 346, 389, 422, 475, 544, 567, 627, 687, 740, 774, 817, 860, 913, 972, 1015, 1064, 1113, 1172, 1205, 1238, 1271, 1294, 1337, 1380, 1439, 1482, 1525, 1558, 1618, 1641, 1694, 1743, 1766, 1789]) (len := 171) (4 : Int32) (by decide +kernel) h41 rfl rfl rfl (by decide) ?_
      change Sim l G Y_L_law lim _ _ 346 [some (.inr (.inr 4000)), some (.inr (.inr x1)), some (.inr (.inr x2)), some (.inl x3)] [] M
      refine s_run (b := [(.aload_n 1, 1), (.aload_n 0, 1), (.iload_n 3, 1), (.iconst 1, 1), (.iadd, 1)]) 351 [some (.inr (.inr 4000)), some (.inr (.inr x1)), some (.inr (.inr x2)), some (.inl x3)] [.inl (x3 + (1 : Int32)), .inr (.inr 4000), .inr (.inr x1)] (by decide +kernel) rfl ?_
      refine s_sc (by decide +kernel) (fun v42 => ?_)
      refine s_run (b := [(.aload_n 0, 1), (.iload_n 3, 1), (.iconst 2, 1), (.iadd, 1)]) 356 [some (.inr (.inr 4000)), some (.inr (.inr x1)), some (.inr (.inr x2)), some (.inl x3)] [.inl (x3 + (2 : Int32)), .inr (.inr 4000), .inl v42, .inr (.inr x1)] (by decide +kernel) rfl ?_
      refine s_sc (by decide +kernel) (fun v43 => ?_)
      refine s_cV (Z := Y_X11_office) (c := 11) (vs := [.inl v42, .inl v43]) (st := []) (rO := fun z => some (.inl z)) (mO := fun _ => M) zk_X11_office zi_X11_office q712 rfl ⟨by decide, by decide⟩ ⟨rfl, rfl⟩ rfl rfl (Nat.le_of_ble_eq_true rfl) (by decide +kernel) (fun z hz => c_X11_office hz) (fun v44 => ?_)
      change Sim l G Y_L_law lim _ _ 360 [some (.inr (.inr 4000)), some (.inr (.inr x1)), some (.inr (.inr x2)), some (.inl x3)] [.inl v44] M
      refine s_run (b := [(.aload_n 2, 1), (.aload_n 0, 1), (.iload_n 3, 1), (.iconst 1, 1), (.iadd, 1)]) 365 [some (.inr (.inr 4000)), some (.inr (.inr x1)), some (.inr (.inr x2)), some (.inl x3)] [.inl (x3 + (1 : Int32)), .inr (.inr 4000), .inr (.inr x2), .inl v44] (by decide +kernel) rfl ?_
      refine s_sc (by decide +kernel) (fun v45 => ?_)
      refine s_run (b := [(.aload_n 0, 1), (.iload_n 3, 1), (.iconst 2, 1), (.iadd, 1)]) 370 [some (.inr (.inr 4000)), some (.inr (.inr x1)), some (.inr (.inr x2)), some (.inl x3)] [.inl (x3 + (2 : Int32)), .inr (.inr 4000), .inl v45, .inr (.inr x2), .inl v44] (by decide +kernel) rfl ?_
      refine s_sc (by decide +kernel) (fun v46 => ?_)
      refine s_cV (Z := Y_X12_office) (c := 12) (vs := [.inl v45, .inl v46]) (st := [.inl v44]) (rO := fun z => some (.inl z.1)) (mO := fun z => z.2) zk_X12_office zi_X12_office q1546 rfl ⟨by decide, by decide⟩ ⟨rfl, rfl⟩ rfl rfl (Nat.le_of_ble_eq_true rfl) (by decide +kernel) (fun z hz => c_X12_office hz) (fun z47 => ?_)
      change Sim l G Y_L_law lim _ _ 374 [some (.inr (.inr 4000)), some (.inr (.inr x1)), some (.inr (.inr x2)), some (.inl x3)] [.inl z47.1, .inl v44] z47.2
      refine s_ic_eq (tgt := 1845) (off := 1471) (by decide +kernel) (by decide) (fun h48 => ?_) (fun h48 => ?_)
      · skip
        refine s_run (b := [(.iinc 3 6, 3), (.goto (-1830), 3)]) 18 [some (.inr (.inr 4000)), some (.inr (.inr x1)), some (.inr (.inr x2)), some (.inl (x3 + (6 : Int32)))] [] (by decide +kernel) rfl ?_
        generalize (x3 + (6 : Int32)) = g49
        exact s_lsub (ls' := [some (.inr (.inr 4000)), some (.inr (.inr x1)), some (.inr (.inr x2)), some (.inl g49)]) ⟨rfl, ⟨rfl, ⟨rfl, ⟨rfl, trivial⟩⟩⟩⟩ (kk1 (g49, z47.2))
      · skip
        exact s_none
    refine s_ite (fun h50 => ?_) (fun h50 => ?_)
    · refine s_tabIn (off := 346) (tgt := 379) (dflt := 1812) (lo := 0) (hi := 38) (offs := #[171, 234, 257, 290, 313, 346, 389, 422, 475, 544, 567, 627, 687, 740, 774, 817, 860, 913, 972, 1015, 1064, 1113, 1172, 1205, 1238, 1271, 1294, 1337, 1380, 1439, 1482, 1525, 1558, 1618, 1641, 1694, 1743, 1766, 1789]) (len := 171) (5 : Int32) (by decide +kernel) h50 rfl rfl rfl (by decide) ?_
      change Sim l G Y_L_law lim _ _ 379 [some (.inr (.inr 4000)), some (.inr (.inr x1)), some (.inr (.inr x2)), some (.inl x3)] [] M
      refine s_run (b := [(.aload_n 1, 1), (.aload_n 0, 1), (.iload_n 3, 1), (.iconst 1, 1), (.iadd, 1)]) 384 [some (.inr (.inr 4000)), some (.inr (.inr x1)), some (.inr (.inr x2)), some (.inl x3)] [.inl (x3 + (1 : Int32)), .inr (.inr 4000), .inr (.inr x1)] (by decide +kernel) rfl ?_
      refine s_sc (by decide +kernel) (fun v51 => ?_)
      refine s_run (b := [(.aload_n 0, 1), (.iload_n 3, 1), (.iconst 2, 1), (.iadd, 1)]) 389 [some (.inr (.inr 4000)), some (.inr (.inr x1)), some (.inr (.inr x2)), some (.inl x3)] [.inl (x3 + (2 : Int32)), .inr (.inr 4000), .inl v51, .inr (.inr x1)] (by decide +kernel) rfl ?_
      refine s_sc (by decide +kernel) (fun v52 => ?_)
      refine s_run (b := [(.aload_n 0, 1), (.iload_n 3, 1), (.iconst 3, 1), (.iadd, 1)]) 394 [some (.inr (.inr 4000)), some (.inr (.inr x1)), some (.inr (.inr x2)), some (.inl x3)] [.inl (x3 + (3 : Int32)), .inr (.inr 4000), .inl v52, .inl v51, .inr (.inr x1)] (by decide +kernel) rfl ?_
      refine s_sc (by decide +kernel) (fun v53 => ?_)
      refine s_cV (Z := Y_X11_deed) (c := 11) (vs := [.inl v51, .inl v52, .inl v53]) (st := []) (rO := fun z => some (.inl z)) (mO := fun _ => M) zk_X11_deed zi_X11_deed q740 rfl ⟨by decide, by decide⟩ ⟨rfl, rfl⟩ rfl rfl (Nat.le_of_ble_eq_true rfl) (by decide +kernel) (fun z hz => c_X11_deed hz) (fun v54 => ?_)
      change Sim l G Y_L_law lim _ _ 398 [some (.inr (.inr 4000)), some (.inr (.inr x1)), some (.inr (.inr x2)), some (.inl x3)] [.inl v54] M
      refine s_run (b := [(.aload_n 2, 1), (.aload_n 0, 1), (.iload_n 3, 1), (.iconst 1, 1), (.iadd, 1)]) 403 [some (.inr (.inr 4000)), some (.inr (.inr x1)), some (.inr (.inr x2)), some (.inl x3)] [.inl (x3 + (1 : Int32)), .inr (.inr 4000), .inr (.inr x2), .inl v54] (by decide +kernel) rfl ?_
      refine s_sc (by decide +kernel) (fun v55 => ?_)
      refine s_run (b := [(.aload_n 0, 1), (.iload_n 3, 1), (.iconst 2, 1), (.iadd, 1)]) 408 [some (.inr (.inr 4000)), some (.inr (.inr x1)), some (.inr (.inr x2)), some (.inl x3)] [.inl (x3 + (2 : Int32)), .inr (.inr 4000), .inl v55, .inr (.inr x2), .inl v54] (by decide +kernel) rfl ?_
      refine s_sc (by decide +kernel) (fun v56 => ?_)
      refine s_run (b := [(.aload_n 0, 1), (.iload_n 3, 1), (.iconst 3, 1), (.iadd, 1)]) 413 [some (.inr (.inr 4000)), some (.inr (.inr x1)), some (.inr (.inr x2)), some (.inl x3)] [.inl (x3 + (3 : Int32)), .inr (.inr 4000), .inl v56, .inl v55, .inr (.inr x2), .inl v54] (by decide +kernel) rfl ?_
      refine s_sc (by decide +kernel) (fun v57 => ?_)
      refine s_cV (Z := Y_X12_deed) (c := 12) (vs := [.inl v55, .inl v56, .inl v57]) (st := [.inl v54]) (rO := fun z => some (.inl z.1)) (mO := fun z => z.2) zk_X12_deed zi_X12_deed q1570 rfl ⟨by decide, by decide⟩ ⟨rfl, rfl⟩ rfl rfl (Nat.le_of_ble_eq_true rfl) (by decide +kernel) (fun z hz => c_X12_deed hz) (fun z58 => ?_)
      change Sim l G Y_L_law lim _ _ 417 [some (.inr (.inr 4000)), some (.inr (.inr x1)), some (.inr (.inr x2)), some (.inl x3)] [.inl z58.1, .inl v54] z58.2
      refine s_ic_eq (tgt := 1845) (off := 1428) (by decide +kernel) (by decide) (fun h59 => ?_) (fun h59 => ?_)
      · skip
        refine s_run (b := [(.iinc 3 6, 3), (.goto (-1830), 3)]) 18 [some (.inr (.inr 4000)), some (.inr (.inr x1)), some (.inr (.inr x2)), some (.inl (x3 + (6 : Int32)))] [] (by decide +kernel) rfl ?_
        generalize (x3 + (6 : Int32)) = g60
        exact s_lsub (ls' := [some (.inr (.inr 4000)), some (.inr (.inr x1)), some (.inr (.inr x2)), some (.inl g60)]) ⟨rfl, ⟨rfl, ⟨rfl, ⟨rfl, trivial⟩⟩⟩⟩ (kk1 (g60, z58.2))
      · skip
        exact s_none
    refine s_ite (fun h61 => ?_) (fun h61 => ?_)
    · refine s_tabIn (off := 389) (tgt := 422) (dflt := 1812) (lo := 0) (hi := 38) (offs := #[171, 234, 257, 290, 313, 346, 389, 422, 475, 544, 567, 627, 687, 740, 774, 817, 860, 913, 972, 1015, 1064, 1113, 1172, 1205, 1238, 1271, 1294, 1337, 1380, 1439, 1482, 1525, 1558, 1618, 1641, 1694, 1743, 1766, 1789]) (len := 171) (6 : Int32) (by decide +kernel) h61 rfl rfl rfl (by decide) ?_
      change Sim l G Y_L_law lim _ _ 422 [some (.inr (.inr 4000)), some (.inr (.inr x1)), some (.inr (.inr x2)), some (.inl x3)] [] M
      refine s_run (b := [(.aload_n 1, 1), (.aload_n 0, 1), (.iload_n 3, 1), (.iconst 1, 1), (.iadd, 1)]) 427 [some (.inr (.inr 4000)), some (.inr (.inr x1)), some (.inr (.inr x2)), some (.inl x3)] [.inl (x3 + (1 : Int32)), .inr (.inr 4000), .inr (.inr x1)] (by decide +kernel) rfl ?_
      refine s_sc (by decide +kernel) (fun v62 => ?_)
      refine s_run (b := [(.aload_n 0, 1), (.iload_n 3, 1), (.iconst 2, 1), (.iadd, 1)]) 432 [some (.inr (.inr 4000)), some (.inr (.inr x1)), some (.inr (.inr x2)), some (.inl x3)] [.inl (x3 + (2 : Int32)), .inr (.inr 4000), .inl v62, .inr (.inr x1)] (by decide +kernel) rfl ?_
      refine s_sc (by decide +kernel) (fun v63 => ?_)
      refine s_cV (Z := Y_X11_stop) (c := 11) (vs := [.inl v62, .inl v63]) (st := []) (rO := fun z => some (.inl z.1)) (mO := fun z => z.2) zk_X11_stop zi_X11_stop q752 rfl ⟨by decide, by decide⟩ ⟨rfl, rfl⟩ rfl rfl (Nat.le_of_ble_eq_true rfl) (by decide +kernel) (fun z hz => c_X11_stop hz) (fun z64 => ?_)
      change Sim l G Y_L_law lim _ _ 436 [some (.inr (.inr 4000)), some (.inr (.inr x1)), some (.inr (.inr x2)), some (.inl x3)] [.inl z64.1] z64.2
      refine s_run (b := [(.aload_n 2, 1), (.aload_n 0, 1), (.iload_n 3, 1), (.iconst 1, 1), (.iadd, 1)]) 441 [some (.inr (.inr 4000)), some (.inr (.inr x1)), some (.inr (.inr x2)), some (.inl x3)] [.inl (x3 + (1 : Int32)), .inr (.inr 4000), .inr (.inr x2), .inl z64.1] (by decide +kernel) rfl ?_
      refine s_sc (by decide +kernel) (fun v65 => ?_)
      refine s_run (b := [(.aload_n 0, 1), (.iload_n 3, 1), (.iconst 2, 1), (.iadd, 1)]) 446 [some (.inr (.inr 4000)), some (.inr (.inr x1)), some (.inr (.inr x2)), some (.inl x3)] [.inl (x3 + (2 : Int32)), .inr (.inr 4000), .inl v65, .inr (.inr x2), .inl z64.1] (by decide +kernel) rfl ?_
      refine s_sc (by decide +kernel) (fun v66 => ?_)
      refine s_cV (Z := Y_X12_stop) (c := 12) (vs := [.inl v65, .inl v66]) (st := [.inl z64.1]) (rO := fun z => some (.inl z.1)) (mO := fun z => z.2) zk_X12_stop zi_X12_stop q1578 rfl ⟨by decide, by decide⟩ ⟨rfl, rfl⟩ rfl rfl (Nat.le_of_ble_eq_true rfl) (by decide +kernel) (fun z hz => c_X12_stop hz) (fun z67 => ?_)
      change Sim l G Y_L_law lim _ _ 450 [some (.inr (.inr 4000)), some (.inr (.inr x1)), some (.inr (.inr x2)), some (.inl x3)] [.inl z67.1, .inl z64.1] z67.2
      refine s_ic_eq (tgt := 1845) (off := 1395) (by decide +kernel) (by decide) (fun h68 => ?_) (fun h68 => ?_)
      · skip
        refine s_run (b := [(.iinc 3 6, 3), (.goto (-1830), 3)]) 18 [some (.inr (.inr 4000)), some (.inr (.inr x1)), some (.inr (.inr x2)), some (.inl (x3 + (6 : Int32)))] [] (by decide +kernel) rfl ?_
        generalize (x3 + (6 : Int32)) = g69
        exact s_lsub (ls' := [some (.inr (.inr 4000)), some (.inr (.inr x1)), some (.inr (.inr x2)), some (.inl g69)]) ⟨rfl, ⟨rfl, ⟨rfl, ⟨rfl, trivial⟩⟩⟩⟩ (kk1 (g69, z67.2))
      · skip
        exact s_none
    refine s_ite (fun h70 => ?_) (fun h70 => ?_)
    · refine s_tabIn (off := 422) (tgt := 455) (dflt := 1812) (lo := 0) (hi := 38) (offs := #[171, 234, 257, 290, 313, 346, 389, 422, 475, 544, 567, 627, 687, 740, 774, 817, 860, 913, 972, 1015, 1064, 1113, 1172, 1205, 1238, 1271, 1294, 1337, 1380, 1439, 1482, 1525, 1558, 1618, 1641, 1694, 1743, 1766, 1789]) (len := 171) (7 : Int32) (by decide +kernel) h70 rfl rfl rfl (by decide) ?_
      change Sim l G Y_L_law lim _ _ 455 [some (.inr (.inr 4000)), some (.inr (.inr x1)), some (.inr (.inr x2)), some (.inl x3)] [] M
      refine s_run (b := [(.aload_n 1, 1), (.aload_n 0, 1), (.iload_n 3, 1), (.iconst 1, 1), (.iadd, 1)]) 460 [some (.inr (.inr 4000)), some (.inr (.inr x1)), some (.inr (.inr x2)), some (.inl x3)] [.inl (x3 + (1 : Int32)), .inr (.inr 4000), .inr (.inr x1)] (by decide +kernel) rfl ?_
      refine s_sc (by decide +kernel) (fun v71 => ?_)
      refine s_run (b := [(.aload_n 0, 1), (.iload_n 3, 1), (.iconst 2, 1), (.iadd, 1)]) 465 [some (.inr (.inr 4000)), some (.inr (.inr x1)), some (.inr (.inr x2)), some (.inl x3)] [.inl (x3 + (2 : Int32)), .inr (.inr 4000), .inl v71, .inr (.inr x1)] (by decide +kernel) rfl ?_
      refine s_sc (by decide +kernel) (fun v72 => ?_)
      refine s_run (b := [(.aload_n 0, 1), (.iload_n 3, 1), (.iconst 3, 1), (.iadd, 1)]) 470 [some (.inr (.inr 4000)), some (.inr (.inr x1)), some (.inr (.inr x2)), some (.inl x3)] [.inl (x3 + (3 : Int32)), .inr (.inr 4000), .inl v72, .inl v71, .inr (.inr x1)] (by decide +kernel) rfl ?_
      refine s_sc (by decide +kernel) (fun v73 => ?_)
      refine s_run (b := [(.aload_n 0, 1), (.iload_n 3, 1), (.iconst 4, 1), (.iadd, 1)]) 475 [some (.inr (.inr 4000)), some (.inr (.inr x1)), some (.inr (.inr x2)), some (.inl x3)] [.inl (x3 + (4 : Int32)), .inr (.inr 4000), .inl v73, .inl v72, .inl v71, .inr (.inr x1)] (by decide +kernel) rfl ?_
      refine s_sc (by decide +kernel) (fun v74 => ?_)
      refine s_cV (Z := Y_X11_state) (c := 11) (vs := [.inl v71, .inl v72, .inl v73, .inl v74]) (st := []) (rO := fun z => some (.inl z.1)) (mO := fun z => z.2) zk_X11_state zi_X11_state q829 rfl ⟨by decide, by decide⟩ ⟨rfl, rfl⟩ rfl rfl (Nat.le_of_ble_eq_true rfl) (by decide +kernel) (fun z hz => c_X11_state hz) (fun z75 => ?_)
      change Sim l G Y_L_law lim _ _ 479 [some (.inr (.inr 4000)), some (.inr (.inr x1)), some (.inr (.inr x2)), some (.inl x3)] [.inl z75.1] z75.2
      refine s_run (b := [(.aload_n 2, 1), (.aload_n 0, 1), (.iload_n 3, 1), (.iconst 1, 1), (.iadd, 1)]) 484 [some (.inr (.inr 4000)), some (.inr (.inr x1)), some (.inr (.inr x2)), some (.inl x3)] [.inl (x3 + (1 : Int32)), .inr (.inr 4000), .inr (.inr x2), .inl z75.1] (by decide +kernel) rfl ?_
      refine s_sc (by decide +kernel) (fun v76 => ?_)
      refine s_run (b := [(.aload_n 0, 1), (.iload_n 3, 1), (.iconst 2, 1), (.iadd, 1)]) 489 [some (.inr (.inr 4000)), some (.inr (.inr x1)), some (.inr (.inr x2)), some (.inl x3)] [.inl (x3 + (2 : Int32)), .inr (.inr 4000), .inl v76, .inr (.inr x2), .inl z75.1] (by decide +kernel) rfl ?_
      refine s_sc (by decide +kernel) (fun v77 => ?_)
      refine s_run (b := [(.aload_n 0, 1), (.iload_n 3, 1), (.iconst 3, 1), (.iadd, 1)]) 494 [some (.inr (.inr 4000)), some (.inr (.inr x1)), some (.inr (.inr x2)), some (.inl x3)] [.inl (x3 + (3 : Int32)), .inr (.inr 4000), .inl v77, .inl v76, .inr (.inr x2), .inl z75.1] (by decide +kernel) rfl ?_
      refine s_sc (by decide +kernel) (fun v78 => ?_)
      refine s_run (b := [(.aload_n 0, 1), (.iload_n 3, 1), (.iconst 4, 1), (.iadd, 1)]) 499 [some (.inr (.inr 4000)), some (.inr (.inr x1)), some (.inr (.inr x2)), some (.inl x3)] [.inl (x3 + (4 : Int32)), .inr (.inr 4000), .inl v78, .inl v77, .inl v76, .inr (.inr x2), .inl z75.1] (by decide +kernel) rfl ?_
      refine s_sc (by decide +kernel) (fun v79 => ?_)
      refine s_cV (Z := Y_X12_state) (c := 12) (vs := [.inl v76, .inl v77, .inl v78, .inl v79]) (st := [.inl z75.1]) (rO := fun z => some (.inl z.1)) (mO := fun z => z.2) zk_X12_state zi_X12_state q1633 rfl ⟨by decide, by decide⟩ ⟨rfl, rfl⟩ rfl rfl (Nat.le_of_ble_eq_true rfl) (by decide +kernel) (fun z hz => c_X12_state hz) (fun z80 => ?_)
      change Sim l G Y_L_law lim _ _ 503 [some (.inr (.inr 4000)), some (.inr (.inr x1)), some (.inr (.inr x2)), some (.inl x3)] [.inl z80.1, .inl z75.1] z80.2
      refine s_ic_eq (tgt := 1845) (off := 1342) (by decide +kernel) (by decide) (fun h81 => ?_) (fun h81 => ?_)
      · skip
        refine s_run (b := [(.iinc 3 6, 3), (.goto (-1830), 3)]) 18 [some (.inr (.inr 4000)), some (.inr (.inr x1)), some (.inr (.inr x2)), some (.inl (x3 + (6 : Int32)))] [] (by decide +kernel) rfl ?_
        generalize (x3 + (6 : Int32)) = g82
        exact s_lsub (ls' := [some (.inr (.inr 4000)), some (.inr (.inr x1)), some (.inr (.inr x2)), some (.inl g82)]) ⟨rfl, ⟨rfl, ⟨rfl, ⟨rfl, trivial⟩⟩⟩⟩ (kk1 (g82, z80.2))
      · skip
        exact s_none
    refine s_ite (fun h83 => ?_) (fun h83 => ?_)
    · refine s_tabIn (off := 475) (tgt := 508) (dflt := 1812) (lo := 0) (hi := 38) (offs := #[171, 234, 257, 290, 313, 346, 389, 422, 475, 544, 567, 627, 687, 740, 774, 817, 860, 913, 972, 1015, 1064, 1113, 1172, 1205, 1238, 1271, 1294, 1337, 1380, 1439, 1482, 1525, 1558, 1618, 1641, 1694, 1743, 1766, 1789]) (len := 171) (8 : Int32) (by decide +kernel) h83 rfl rfl rfl (by decide) ?_
      change Sim l G Y_L_law lim _ _ 508 [some (.inr (.inr 4000)), some (.inr (.inr x1)), some (.inr (.inr x2)), some (.inl x3)] [] M
      refine s_run (b := [(.aload_n 1, 1), (.aload_n 0, 1), (.iload_n 3, 1), (.iconst 1, 1), (.iadd, 1)]) 513 [some (.inr (.inr 4000)), some (.inr (.inr x1)), some (.inr (.inr x2)), some (.inl x3)] [.inl (x3 + (1 : Int32)), .inr (.inr 4000), .inr (.inr x1)] (by decide +kernel) rfl ?_
      refine s_sc (by decide +kernel) (fun v84 => ?_)
      refine s_run (b := [(.aload_n 0, 1), (.iload_n 3, 1), (.iconst 2, 1), (.iadd, 1)]) 518 [some (.inr (.inr 4000)), some (.inr (.inr x1)), some (.inr (.inr x2)), some (.inl x3)] [.inl (x3 + (2 : Int32)), .inr (.inr 4000), .inl v84, .inr (.inr x1)] (by decide +kernel) rfl ?_
      refine s_sc (by decide +kernel) (fun v85 => ?_)
      refine s_run (b := [(.aload_n 0, 1), (.iload_n 3, 1), (.iconst 3, 1), (.iadd, 1)]) 523 [some (.inr (.inr 4000)), some (.inr (.inr x1)), some (.inr (.inr x2)), some (.inl x3)] [.inl (x3 + (3 : Int32)), .inr (.inr 4000), .inl v85, .inl v84, .inr (.inr x1)] (by decide +kernel) rfl ?_
      refine s_sc (by decide +kernel) (fun v86 => ?_)
      refine s_run (b := [(.aload_n 0, 1), (.iload_n 3, 1), (.iconst 4, 1), (.iadd, 1)]) 528 [some (.inr (.inr 4000)), some (.inr (.inr x1)), some (.inr (.inr x2)), some (.inl x3)] [.inl (x3 + (4 : Int32)), .inr (.inr 4000), .inl v86, .inl v85, .inl v84, .inr (.inr x1)] (by decide +kernel) rfl ?_
      refine s_sc (by decide +kernel) (fun v87 => ?_)
      refine s_if_eq (tgt := 536) (off := 7) (by decide +kernel) (by decide) (fun h88 => ?_) (fun h88 => ?_)
      · skip
        refine s_run (b := [(.iconst 0, 1)]) 537 [some (.inr (.inr 4000)), some (.inr (.inr x1)), some (.inr (.inr x2)), some (.inl x3)] [.inl (0 : Int32), .inl v86, .inl v85, .inl v84, .inr (.inr x1)] (by decide +kernel) rfl ?_
        exact s_lsub (ls' := [some (.inr (.inr 4000)), some (.inr (.inr x1)), some (.inr (.inr x2)), some (.inl x3)]) ⟨rfl, ⟨rfl, ⟨rfl, ⟨rfl, trivial⟩⟩⟩⟩ (J_L_law_537 M x1 x2 x3 x1 v84 v85 v86 (0 : Int32) K kk1 kk2_0)
      · skip
        refine s_run (b := [(.iconst 1, 1), (.goto 4, 3)]) 537 [some (.inr (.inr 4000)), some (.inr (.inr x1)), some (.inr (.inr x2)), some (.inl x3)] [.inl (1 : Int32), .inl v86, .inl v85, .inl v84, .inr (.inr x1)] (by decide +kernel) rfl ?_
        exact s_lsub (ls' := [some (.inr (.inr 4000)), some (.inr (.inr x1)), some (.inr (.inr x2)), some (.inl x3)]) ⟨rfl, ⟨rfl, ⟨rfl, ⟨rfl, trivial⟩⟩⟩⟩ (J_L_law_537 M x1 x2 x3 x1 v84 v85 v86 (1 : Int32) K kk1 kk2_0)
    refine s_ite (fun h89 => ?_) (fun h89 => ?_)
    · refine s_tabIn (off := 544) (tgt := 577) (dflt := 1812) (lo := 0) (hi := 38) (offs := #[171, 234, 257, 290, 313, 346, 389, 422, 475, 544, 567, 627, 687, 740, 774, 817, 860, 913, 972, 1015, 1064, 1113, 1172, 1205, 1238, 1271, 1294, 1337, 1380, 1439, 1482, 1525, 1558, 1618, 1641, 1694, 1743, 1766, 1789]) (len := 171) (9 : Int32) (by decide +kernel) h89 rfl rfl rfl (by decide) ?_
      change Sim l G Y_L_law lim _ _ 577 [some (.inr (.inr 4000)), some (.inr (.inr x1)), some (.inr (.inr x2)), some (.inl x3)] [] M
      refine s_run (b := [(.aload_n 1, 1), (.aload_n 0, 1), (.iload_n 3, 1), (.iconst 1, 1), (.iadd, 1)]) 582 [some (.inr (.inr 4000)), some (.inr (.inr x1)), some (.inr (.inr x2)), some (.inl x3)] [.inl (x3 + (1 : Int32)), .inr (.inr 4000), .inr (.inr x1)] (by decide +kernel) rfl ?_
      refine s_sc (by decide +kernel) (fun v90 => ?_)
      refine s_cV (Z := Y_X11_enough) (c := 11) (vs := [.inl v90]) (st := []) (rO := fun z => some (.inl z.1)) (mO := fun z => z.2) zk_X11_enough zi_X11_enough q850 rfl ⟨by decide, by decide⟩ ⟨rfl, rfl⟩ rfl rfl (Nat.le_of_ble_eq_true rfl) (by decide +kernel) (fun z hz => c_X11_enough hz) (fun z91 => ?_)
      change Sim l G Y_L_law lim _ _ 586 [some (.inr (.inr 4000)), some (.inr (.inr x1)), some (.inr (.inr x2)), some (.inl x3)] [.inl z91.1] z91.2
      refine s_run (b := [(.aload_n 2, 1), (.aload_n 0, 1), (.iload_n 3, 1), (.iconst 1, 1), (.iadd, 1)]) 591 [some (.inr (.inr 4000)), some (.inr (.inr x1)), some (.inr (.inr x2)), some (.inl x3)] [.inl (x3 + (1 : Int32)), .inr (.inr 4000), .inr (.inr x2), .inl z91.1] (by decide +kernel) rfl ?_
      refine s_sc (by decide +kernel) (fun v92 => ?_)
      refine s_cV (Z := Y_X12_enough) (c := 12) (vs := [.inl v92]) (st := [.inl z91.1]) (rO := fun z => some (.inl z.1)) (mO := fun z => z.2) zk_X12_enough zi_X12_enough q1645 rfl ⟨by decide, by decide⟩ ⟨rfl, rfl⟩ rfl rfl (Nat.le_of_ble_eq_true rfl) (by decide +kernel) (fun z hz => c_X12_enough hz) (fun z93 => ?_)
      change Sim l G Y_L_law lim _ _ 595 [some (.inr (.inr 4000)), some (.inr (.inr x1)), some (.inr (.inr x2)), some (.inl x3)] [.inl z93.1, .inl z91.1] z93.2
      refine s_ic_eq (tgt := 1845) (off := 1250) (by decide +kernel) (by decide) (fun h94 => ?_) (fun h94 => ?_)
      · skip
        refine s_run (b := [(.iinc 3 6, 3), (.goto (-1830), 3)]) 18 [some (.inr (.inr 4000)), some (.inr (.inr x1)), some (.inr (.inr x2)), some (.inl (x3 + (6 : Int32)))] [] (by decide +kernel) rfl ?_
        generalize (x3 + (6 : Int32)) = g95
        exact s_lsub (ls' := [some (.inr (.inr 4000)), some (.inr (.inr x1)), some (.inr (.inr x2)), some (.inl g95)]) ⟨rfl, ⟨rfl, ⟨rfl, ⟨rfl, trivial⟩⟩⟩⟩ (kk1 (g95, z93.2))
      · skip
        exact s_none
    refine s_ite (fun h96 => ?_) (fun h96 => ?_)
    · refine s_tabIn (off := 567) (tgt := 600) (dflt := 1812) (lo := 0) (hi := 38) (offs := #[171, 234, 257, 290, 313, 346, 389, 422, 475, 544, 567, 627, 687, 740, 774, 817, 860, 913, 972, 1015, 1064, 1113, 1172, 1205, 1238, 1271, 1294, 1337, 1380, 1439, 1482, 1525, 1558, 1618, 1641, 1694, 1743, 1766, 1789]) (len := 171) (10 : Int32) (by decide +kernel) h96 rfl rfl rfl (by decide) ?_
      change Sim l G Y_L_law lim _ _ 600 [some (.inr (.inr 4000)), some (.inr (.inr x1)), some (.inr (.inr x2)), some (.inl x3)] [] M
      refine s_run (b := [(.aload_n 1, 1), (.aload_n 0, 1), (.iload_n 3, 1), (.iconst 1, 1), (.iadd, 1)]) 605 [some (.inr (.inr 4000)), some (.inr (.inr x1)), some (.inr (.inr x2)), some (.inl x3)] [.inl (x3 + (1 : Int32)), .inr (.inr 4000), .inr (.inr x1)] (by decide +kernel) rfl ?_
      refine s_sc (by decide +kernel) (fun v97 => ?_)
      refine s_run (b := [(.aload_n 0, 1), (.iload_n 3, 1), (.iconst 2, 1), (.iadd, 1)]) 610 [some (.inr (.inr 4000)), some (.inr (.inr x1)), some (.inr (.inr x2)), some (.inl x3)] [.inl (x3 + (2 : Int32)), .inr (.inr 4000), .inl v97, .inr (.inr x1)] (by decide +kernel) rfl ?_
      refine s_sc (by decide +kernel) (fun v98 => ?_)
      refine s_run (b := [(.aload_n 0, 1), (.iload_n 3, 1), (.iconst 3, 1), (.iadd, 1)]) 615 [some (.inr (.inr 4000)), some (.inr (.inr x1)), some (.inr (.inr x2)), some (.inl x3)] [.inl (x3 + (3 : Int32)), .inr (.inr 4000), .inl v98, .inl v97, .inr (.inr x1)] (by decide +kernel) rfl ?_
      refine s_sc (by decide +kernel) (fun v99 => ?_)
      refine s_if_eq (tgt := 623) (off := 7) (by decide +kernel) (by decide) (fun h100 => ?_) (fun h100 => ?_)
      · skip
        refine s_run (b := [(.iconst 0, 1)]) 624 [some (.inr (.inr 4000)), some (.inr (.inr x1)), some (.inr (.inr x2)), some (.inl x3)] [.inl (0 : Int32), .inl v98, .inl v97, .inr (.inr x1)] (by decide +kernel) rfl ?_
        exact s_lsub (ls' := [some (.inr (.inr 4000)), some (.inr (.inr x1)), some (.inr (.inr x2)), some (.inl x3)]) ⟨rfl, ⟨rfl, ⟨rfl, ⟨rfl, trivial⟩⟩⟩⟩ (J_L_law_624 M x1 x2 x3 x1 v97 v98 (0 : Int32) K kk1 kk2_0)
      · skip
        refine s_run (b := [(.iconst 1, 1), (.goto 4, 3)]) 624 [some (.inr (.inr 4000)), some (.inr (.inr x1)), some (.inr (.inr x2)), some (.inl x3)] [.inl (1 : Int32), .inl v98, .inl v97, .inr (.inr x1)] (by decide +kernel) rfl ?_
        exact s_lsub (ls' := [some (.inr (.inr 4000)), some (.inr (.inr x1)), some (.inr (.inr x2)), some (.inl x3)]) ⟨rfl, ⟨rfl, ⟨rfl, ⟨rfl, trivial⟩⟩⟩⟩ (J_L_law_624 M x1 x2 x3 x1 v97 v98 (1 : Int32) K kk1 kk2_0)
    refine s_ite (fun h101 => ?_) (fun h101 => ?_)
    · refine s_tabIn (off := 627) (tgt := 660) (dflt := 1812) (lo := 0) (hi := 38) (offs := #[171, 234, 257, 290, 313, 346, 389, 422, 475, 544, 567, 627, 687, 740, 774, 817, 860, 913, 972, 1015, 1064, 1113, 1172, 1205, 1238, 1271, 1294, 1337, 1380, 1439, 1482, 1525, 1558, 1618, 1641, 1694, 1743, 1766, 1789]) (len := 171) (11 : Int32) (by decide +kernel) h101 rfl rfl rfl (by decide) ?_
      change Sim l G Y_L_law lim _ _ 660 [some (.inr (.inr 4000)), some (.inr (.inr x1)), some (.inr (.inr x2)), some (.inl x3)] [] M
      refine s_run (b := [(.aload_n 1, 1), (.aload_n 0, 1), (.iload_n 3, 1), (.iconst 1, 1), (.iadd, 1)]) 665 [some (.inr (.inr 4000)), some (.inr (.inr x1)), some (.inr (.inr x2)), some (.inl x3)] [.inl (x3 + (1 : Int32)), .inr (.inr 4000), .inr (.inr x1)] (by decide +kernel) rfl ?_
      refine s_sc (by decide +kernel) (fun v102 => ?_)
      refine s_run (b := [(.aload_n 0, 1), (.iload_n 3, 1), (.iconst 2, 1), (.iadd, 1)]) 670 [some (.inr (.inr 4000)), some (.inr (.inr x1)), some (.inr (.inr x2)), some (.inl x3)] [.inl (x3 + (2 : Int32)), .inr (.inr 4000), .inl v102, .inr (.inr x1)] (by decide +kernel) rfl ?_
      refine s_sc (by decide +kernel) (fun v103 => ?_)
      refine s_run (b := [(.aload_n 0, 1), (.iload_n 3, 1), (.iconst 3, 1), (.iadd, 1)]) 675 [some (.inr (.inr 4000)), some (.inr (.inr x1)), some (.inr (.inr x2)), some (.inl x3)] [.inl (x3 + (3 : Int32)), .inr (.inr 4000), .inl v103, .inl v102, .inr (.inr x1)] (by decide +kernel) rfl ?_
      refine s_sc (by decide +kernel) (fun v104 => ?_)
      refine s_if_eq (tgt := 683) (off := 7) (by decide +kernel) (by decide) (fun h105 => ?_) (fun h105 => ?_)
      · skip
        refine s_run (b := [(.iconst 0, 1)]) 684 [some (.inr (.inr 4000)), some (.inr (.inr x1)), some (.inr (.inr x2)), some (.inl x3)] [.inl (0 : Int32), .inl v103, .inl v102, .inr (.inr x1)] (by decide +kernel) rfl ?_
        exact s_lsub (ls' := [some (.inr (.inr 4000)), some (.inr (.inr x1)), some (.inr (.inr x2)), some (.inl x3)]) ⟨rfl, ⟨rfl, ⟨rfl, ⟨rfl, trivial⟩⟩⟩⟩ (J_L_law_684 M x1 x2 x3 x1 v102 v103 (0 : Int32) K kk1 kk2_0)
      · skip
        refine s_run (b := [(.iconst 1, 1), (.goto 4, 3)]) 684 [some (.inr (.inr 4000)), some (.inr (.inr x1)), some (.inr (.inr x2)), some (.inl x3)] [.inl (1 : Int32), .inl v103, .inl v102, .inr (.inr x1)] (by decide +kernel) rfl ?_
        exact s_lsub (ls' := [some (.inr (.inr 4000)), some (.inr (.inr x1)), some (.inr (.inr x2)), some (.inl x3)]) ⟨rfl, ⟨rfl, ⟨rfl, ⟨rfl, trivial⟩⟩⟩⟩ (J_L_law_684 M x1 x2 x3 x1 v102 v103 (1 : Int32) K kk1 kk2_0)
    refine s_ite (fun h106 => ?_) (fun h106 => ?_)
    · refine s_tabIn (off := 687) (tgt := 720) (dflt := 1812) (lo := 0) (hi := 38) (offs := #[171, 234, 257, 290, 313, 346, 389, 422, 475, 544, 567, 627, 687, 740, 774, 817, 860, 913, 972, 1015, 1064, 1113, 1172, 1205, 1238, 1271, 1294, 1337, 1380, 1439, 1482, 1525, 1558, 1618, 1641, 1694, 1743, 1766, 1789]) (len := 171) (12 : Int32) (by decide +kernel) h106 rfl rfl rfl (by decide) ?_
      change Sim l G Y_L_law lim _ _ 720 [some (.inr (.inr 4000)), some (.inr (.inr x1)), some (.inr (.inr x2)), some (.inl x3)] [] M
      refine s_run (b := [(.aload_n 1, 1), (.aload_n 0, 1), (.iload_n 3, 1), (.iconst 1, 1), (.iadd, 1)]) 725 [some (.inr (.inr 4000)), some (.inr (.inr x1)), some (.inr (.inr x2)), some (.inl x3)] [.inl (x3 + (1 : Int32)), .inr (.inr 4000), .inr (.inr x1)] (by decide +kernel) rfl ?_
      refine s_sc (by decide +kernel) (fun v107 => ?_)
      refine s_run (b := [(.aload_n 0, 1), (.iload_n 3, 1), (.iconst 2, 1), (.iadd, 1)]) 730 [some (.inr (.inr 4000)), some (.inr (.inr x1)), some (.inr (.inr x2)), some (.inl x3)] [.inl (x3 + (2 : Int32)), .inr (.inr 4000), .inl v107, .inr (.inr x1)] (by decide +kernel) rfl ?_
      refine s_sc (by decide +kernel) (fun v108 => ?_)
      refine s_run (b := [(.aload_n 0, 1), (.iload_n 3, 1), (.iconst 3, 1), (.iadd, 1)]) 735 [some (.inr (.inr 4000)), some (.inr (.inr x1)), some (.inr (.inr x2)), some (.inl x3)] [.inl (x3 + (3 : Int32)), .inr (.inr 4000), .inl v108, .inl v107, .inr (.inr x1)] (by decide +kernel) rfl ?_
      refine s_sc (by decide +kernel) (fun v109 => ?_)
      refine s_run (b := [(.aload_n 0, 1), (.iload_n 3, 1), (.iconst 4, 1), (.iadd, 1)]) 740 [some (.inr (.inr 4000)), some (.inr (.inr x1)), some (.inr (.inr x2)), some (.inl x3)] [.inl (x3 + (4 : Int32)), .inr (.inr 4000), .inl v109, .inl v108, .inl v107, .inr (.inr x1)] (by decide +kernel) rfl ?_
      refine s_sc (by decide +kernel) (fun v110 => ?_)
      refine s_cV (Z := Y_X11_rest) (c := 11) (vs := [.inl v107, .inl v108, .inl v109, .inl v110]) (st := []) (rO := fun z => some (.inl z.1)) (mO := fun z => z.2) zk_X11_rest zi_X11_rest q901 rfl ⟨by decide, by decide⟩ ⟨rfl, rfl⟩ rfl rfl (Nat.le_of_ble_eq_true rfl) (by decide +kernel) (fun z hz => c_X11_rest hz) (fun z111 => ?_)
      change Sim l G Y_L_law lim _ _ 744 [some (.inr (.inr 4000)), some (.inr (.inr x1)), some (.inr (.inr x2)), some (.inl x3)] [.inl z111.1] z111.2
      refine s_run (b := [(.aload_n 2, 1), (.aload_n 0, 1), (.iload_n 3, 1), (.iconst 1, 1), (.iadd, 1)]) 749 [some (.inr (.inr 4000)), some (.inr (.inr x1)), some (.inr (.inr x2)), some (.inl x3)] [.inl (x3 + (1 : Int32)), .inr (.inr 4000), .inr (.inr x2), .inl z111.1] (by decide +kernel) rfl ?_
      refine s_sc (by decide +kernel) (fun v112 => ?_)
      refine s_run (b := [(.aload_n 0, 1), (.iload_n 3, 1), (.iconst 2, 1), (.iadd, 1)]) 754 [some (.inr (.inr 4000)), some (.inr (.inr x1)), some (.inr (.inr x2)), some (.inl x3)] [.inl (x3 + (2 : Int32)), .inr (.inr 4000), .inl v112, .inr (.inr x2), .inl z111.1] (by decide +kernel) rfl ?_
      refine s_sc (by decide +kernel) (fun v113 => ?_)
      refine s_run (b := [(.aload_n 0, 1), (.iload_n 3, 1), (.iconst 3, 1), (.iadd, 1)]) 759 [some (.inr (.inr 4000)), some (.inr (.inr x1)), some (.inr (.inr x2)), some (.inl x3)] [.inl (x3 + (3 : Int32)), .inr (.inr 4000), .inl v113, .inl v112, .inr (.inr x2), .inl z111.1] (by decide +kernel) rfl ?_
      refine s_sc (by decide +kernel) (fun v114 => ?_)
      refine s_run (b := [(.aload_n 0, 1), (.iload_n 3, 1), (.iconst 4, 1), (.iadd, 1)]) 764 [some (.inr (.inr 4000)), some (.inr (.inr x1)), some (.inr (.inr x2)), some (.inl x3)] [.inl (x3 + (4 : Int32)), .inr (.inr 4000), .inl v114, .inl v113, .inl v112, .inr (.inr x2), .inl z111.1] (by decide +kernel) rfl ?_
      refine s_sc (by decide +kernel) (fun v115 => ?_)
      refine s_cV (Z := Y_X12_rest) (c := 12) (vs := [.inl v112, .inl v113, .inl v114, .inl v115]) (st := [.inl z111.1]) (rO := fun z => some (.inl z.1)) (mO := fun z => z.2) zk_X12_rest zi_X12_rest q1683 rfl ⟨by decide, by decide⟩ ⟨rfl, rfl⟩ rfl rfl (Nat.le_of_ble_eq_true rfl) (by decide +kernel) (fun z hz => c_X12_rest hz) (fun z116 => ?_)
      change Sim l G Y_L_law lim _ _ 768 [some (.inr (.inr 4000)), some (.inr (.inr x1)), some (.inr (.inr x2)), some (.inl x3)] [.inl z116.1, .inl z111.1] z116.2
      refine s_ic_eq (tgt := 1845) (off := 1077) (by decide +kernel) (by decide) (fun h117 => ?_) (fun h117 => ?_)
      · skip
        refine s_run (b := [(.iinc 3 6, 3), (.goto (-1830), 3)]) 18 [some (.inr (.inr 4000)), some (.inr (.inr x1)), some (.inr (.inr x2)), some (.inl (x3 + (6 : Int32)))] [] (by decide +kernel) rfl ?_
        generalize (x3 + (6 : Int32)) = g118
        exact s_lsub (ls' := [some (.inr (.inr 4000)), some (.inr (.inr x1)), some (.inr (.inr x2)), some (.inl g118)]) ⟨rfl, ⟨rfl, ⟨rfl, ⟨rfl, trivial⟩⟩⟩⟩ (kk1 (g118, z116.2))
      · skip
        exact s_none
    refine s_ite (fun h119 => ?_) (fun h119 => ?_)
    · refine s_tabIn (off := 740) (tgt := 773) (dflt := 1812) (lo := 0) (hi := 38) (offs := #[171, 234, 257, 290, 313, 346, 389, 422, 475, 544, 567, 627, 687, 740, 774, 817, 860, 913, 972, 1015, 1064, 1113, 1172, 1205, 1238, 1271, 1294, 1337, 1380, 1439, 1482, 1525, 1558, 1618, 1641, 1694, 1743, 1766, 1789]) (len := 171) (13 : Int32) (by decide +kernel) h119 rfl rfl rfl (by decide) ?_
      change Sim l G Y_L_law lim _ _ 773 [some (.inr (.inr 4000)), some (.inr (.inr x1)), some (.inr (.inr x2)), some (.inl x3)] [] M
      refine s_run (b := [(.aload_n 1, 1), (.aload_n 0, 1), (.iload_n 3, 1), (.iconst 1, 1), (.iadd, 1)]) 778 [some (.inr (.inr 4000)), some (.inr (.inr x1)), some (.inr (.inr x2)), some (.inl x3)] [.inl (x3 + (1 : Int32)), .inr (.inr 4000), .inr (.inr x1)] (by decide +kernel) rfl ?_
      refine s_sc (by decide +kernel) (fun v120 => ?_)
      refine s_run (b := [(.aload_n 0, 1), (.iload_n 3, 1), (.iconst 2, 1), (.iadd, 1)]) 783 [some (.inr (.inr 4000)), some (.inr (.inr x1)), some (.inr (.inr x2)), some (.inl x3)] [.inl (x3 + (2 : Int32)), .inr (.inr 4000), .inl v120, .inr (.inr x1)] (by decide +kernel) rfl ?_
      refine s_sc (by decide +kernel) (fun v121 => ?_)
      refine s_cV (Z := Y_X11_button) (c := 11) (vs := [.inl v120, .inl v121]) (st := []) (rO := fun z => some (.inr (.inl z.1))) (mO := fun z => z.2) zk_X11_button zi_X11_button q965 rfl ⟨by decide, by decide⟩ ⟨rfl, rfl⟩ rfl rfl (Nat.le_of_ble_eq_true rfl) (by decide +kernel) (fun z hz => c_X11_button hz) (fun z122 => ?_)
      change Sim l G Y_L_law lim _ _ 787 [some (.inr (.inr 4000)), some (.inr (.inr x1)), some (.inr (.inr x2)), some (.inl x3)] [.inr (.inl z122.1)] z122.2
      refine s_run (b := [(.aload_n 2, 1), (.aload_n 0, 1), (.iload_n 3, 1), (.iconst 1, 1), (.iadd, 1)]) 792 [some (.inr (.inr 4000)), some (.inr (.inr x1)), some (.inr (.inr x2)), some (.inl x3)] [.inl (x3 + (1 : Int32)), .inr (.inr 4000), .inr (.inr x2), .inr (.inl z122.1)] (by decide +kernel) rfl ?_
      refine s_sc (by decide +kernel) (fun v123 => ?_)
      refine s_run (b := [(.aload_n 0, 1), (.iload_n 3, 1), (.iconst 2, 1), (.iadd, 1)]) 797 [some (.inr (.inr 4000)), some (.inr (.inr x1)), some (.inr (.inr x2)), some (.inl x3)] [.inl (x3 + (2 : Int32)), .inr (.inr 4000), .inl v123, .inr (.inr x2), .inr (.inl z122.1)] (by decide +kernel) rfl ?_
      refine s_sc (by decide +kernel) (fun v124 => ?_)
      refine s_cV (Z := Y_X12_button) (c := 12) (vs := [.inl v123, .inl v124]) (st := [.inr (.inl z122.1)]) (rO := fun z => some (.inr (.inl z.1))) (mO := fun z => z.2) zk_X12_button zi_X12_button q1715 rfl ⟨by decide, by decide⟩ ⟨rfl, rfl⟩ rfl rfl (Nat.le_of_ble_eq_true rfl) (by decide +kernel) (fun z hz => c_X12_button hz) (fun z125 => ?_)
      change Sim l G Y_L_law lim _ _ 801 [some (.inr (.inr 4000)), some (.inr (.inr x1)), some (.inr (.inr x2)), some (.inl x3)] [.inr (.inl z125.1), .inr (.inl z122.1)] z125.2
      refine s_run (b := [(.lcmp, 1)]) 802 [some (.inr (.inr 4000)), some (.inr (.inr x1)), some (.inr (.inr x2)), some (.inl x3)] [.inl (lg_cmp z122.1 z125.1)] (by decide +kernel) rfl ?_
      refine s_if_eq (tgt := 1845) (off := 1043) (by decide +kernel) (by decide) (fun h126 => ?_) (fun h126 => ?_)
      · skip
        refine s_run (b := [(.iinc 3 6, 3), (.goto (-1830), 3)]) 18 [some (.inr (.inr 4000)), some (.inr (.inr x1)), some (.inr (.inr x2)), some (.inl (x3 + (6 : Int32)))] [] (by decide +kernel) rfl ?_
        generalize (x3 + (6 : Int32)) = g127
        exact s_lsub (ls' := [some (.inr (.inr 4000)), some (.inr (.inr x1)), some (.inr (.inr x2)), some (.inl g127)]) ⟨rfl, ⟨rfl, ⟨rfl, ⟨rfl, trivial⟩⟩⟩⟩ (kk1 (g127, z125.2))
      · skip
        exact s_none
    refine s_ite (fun h128 => ?_) (fun h128 => ?_)
    · refine s_tabIn (off := 774) (tgt := 807) (dflt := 1812) (lo := 0) (hi := 38) (offs := #[171, 234, 257, 290, 313, 346, 389, 422, 475, 544, 567, 627, 687, 740, 774, 817, 860, 913, 972, 1015, 1064, 1113, 1172, 1205, 1238, 1271, 1294, 1337, 1380, 1439, 1482, 1525, 1558, 1618, 1641, 1694, 1743, 1766, 1789]) (len := 171) (14 : Int32) (by decide +kernel) h128 rfl rfl rfl (by decide) ?_
      change Sim l G Y_L_law lim _ _ 807 [some (.inr (.inr 4000)), some (.inr (.inr x1)), some (.inr (.inr x2)), some (.inl x3)] [] M
      refine s_run (b := [(.aload_n 1, 1), (.aload_n 0, 1), (.iload_n 3, 1), (.iconst 1, 1), (.iadd, 1)]) 812 [some (.inr (.inr 4000)), some (.inr (.inr x1)), some (.inr (.inr x2)), some (.inl x3)] [.inl (x3 + (1 : Int32)), .inr (.inr 4000), .inr (.inr x1)] (by decide +kernel) rfl ?_
      refine s_sc (by decide +kernel) (fun v129 => ?_)
      refine s_run (b := [(.aload_n 0, 1), (.iload_n 3, 1), (.iconst 2, 1), (.iadd, 1)]) 817 [some (.inr (.inr 4000)), some (.inr (.inr x1)), some (.inr (.inr x2)), some (.inl x3)] [.inl (x3 + (2 : Int32)), .inr (.inr 4000), .inl v129, .inr (.inr x1)] (by decide +kernel) rfl ?_
      refine s_sc (by decide +kernel) (fun v130 => ?_)
      refine s_run (b := [(.aload_n 0, 1), (.iload_n 3, 1), (.iconst 3, 1), (.iadd, 1)]) 822 [some (.inr (.inr 4000)), some (.inr (.inr x1)), some (.inr (.inr x2)), some (.inl x3)] [.inl (x3 + (3 : Int32)), .inr (.inr 4000), .inl v130, .inl v129, .inr (.inr x1)] (by decide +kernel) rfl ?_
      refine s_sc (by decide +kernel) (fun v131 => ?_)
      refine s_cV (Z := Y_X11_fact) (c := 11) (vs := [.inl v129, .inl v130, .inl v131]) (st := []) (rO := fun z => some (.inl z)) (mO := fun _ => M) zk_X11_fact zi_X11_fact q977 rfl ⟨by decide, by decide⟩ ⟨rfl, rfl⟩ rfl rfl (Nat.le_of_ble_eq_true rfl) (by decide +kernel) (fun z hz => c_X11_fact hz) (fun v132 => ?_)
      change Sim l G Y_L_law lim _ _ 826 [some (.inr (.inr 4000)), some (.inr (.inr x1)), some (.inr (.inr x2)), some (.inl x3)] [.inl v132] M
      refine s_run (b := [(.aload_n 2, 1), (.aload_n 0, 1), (.iload_n 3, 1), (.iconst 1, 1), (.iadd, 1)]) 831 [some (.inr (.inr 4000)), some (.inr (.inr x1)), some (.inr (.inr x2)), some (.inl x3)] [.inl (x3 + (1 : Int32)), .inr (.inr 4000), .inr (.inr x2), .inl v132] (by decide +kernel) rfl ?_
      refine s_sc (by decide +kernel) (fun v133 => ?_)
      refine s_run (b := [(.aload_n 0, 1), (.iload_n 3, 1), (.iconst 2, 1), (.iadd, 1)]) 836 [some (.inr (.inr 4000)), some (.inr (.inr x1)), some (.inr (.inr x2)), some (.inl x3)] [.inl (x3 + (2 : Int32)), .inr (.inr 4000), .inl v133, .inr (.inr x2), .inl v132] (by decide +kernel) rfl ?_
      refine s_sc (by decide +kernel) (fun v134 => ?_)
      refine s_run (b := [(.aload_n 0, 1), (.iload_n 3, 1), (.iconst 3, 1), (.iadd, 1)]) 841 [some (.inr (.inr 4000)), some (.inr (.inr x1)), some (.inr (.inr x2)), some (.inl x3)] [.inl (x3 + (3 : Int32)), .inr (.inr 4000), .inl v134, .inl v133, .inr (.inr x2), .inl v132] (by decide +kernel) rfl ?_
      refine s_sc (by decide +kernel) (fun v135 => ?_)
      refine s_cV (Z := Y_X12_fact) (c := 12) (vs := [.inl v133, .inl v134, .inl v135]) (st := [.inl v132]) (rO := fun z => some (.inl z.1)) (mO := fun z => z.2) zk_X12_fact zi_X12_fact q1731 rfl ⟨by decide, by decide⟩ ⟨rfl, rfl⟩ rfl rfl (Nat.le_of_ble_eq_true rfl) (by decide +kernel) (fun z hz => c_X12_fact hz) (fun z136 => ?_)
      change Sim l G Y_L_law lim _ _ 845 [some (.inr (.inr 4000)), some (.inr (.inr x1)), some (.inr (.inr x2)), some (.inl x3)] [.inl z136.1, .inl v132] z136.2
      refine s_ic_eq (tgt := 1845) (off := 1000) (by decide +kernel) (by decide) (fun h137 => ?_) (fun h137 => ?_)
      · skip
        refine s_run (b := [(.iinc 3 6, 3), (.goto (-1830), 3)]) 18 [some (.inr (.inr 4000)), some (.inr (.inr x1)), some (.inr (.inr x2)), some (.inl (x3 + (6 : Int32)))] [] (by decide +kernel) rfl ?_
        generalize (x3 + (6 : Int32)) = g138
        exact s_lsub (ls' := [some (.inr (.inr 4000)), some (.inr (.inr x1)), some (.inr (.inr x2)), some (.inl g138)]) ⟨rfl, ⟨rfl, ⟨rfl, ⟨rfl, trivial⟩⟩⟩⟩ (kk1 (g138, z136.2))
      · skip
        exact s_none
    refine s_ite (fun h139 => ?_) (fun h139 => ?_)
    · refine s_tabIn (off := 817) (tgt := 850) (dflt := 1812) (lo := 0) (hi := 38) (offs := #[171, 234, 257, 290, 313, 346, 389, 422, 475, 544, 567, 627, 687, 740, 774, 817, 860, 913, 972, 1015, 1064, 1113, 1172, 1205, 1238, 1271, 1294, 1337, 1380, 1439, 1482, 1525, 1558, 1618, 1641, 1694, 1743, 1766, 1789]) (len := 171) (15 : Int32) (by decide +kernel) h139 rfl rfl rfl (by decide) ?_
      change Sim l G Y_L_law lim _ _ 850 [some (.inr (.inr 4000)), some (.inr (.inr x1)), some (.inr (.inr x2)), some (.inl x3)] [] M
      refine s_run (b := [(.aload_n 1, 1), (.aload_n 0, 1), (.iload_n 3, 1), (.iconst 1, 1), (.iadd, 1)]) 855 [some (.inr (.inr 4000)), some (.inr (.inr x1)), some (.inr (.inr x2)), some (.inl x3)] [.inl (x3 + (1 : Int32)), .inr (.inr 4000), .inr (.inr x1)] (by decide +kernel) rfl ?_
      refine s_sc (by decide +kernel) (fun v140 => ?_)
      refine s_run (b := [(.aload_n 0, 1), (.iload_n 3, 1), (.iconst 2, 1), (.iadd, 1)]) 860 [some (.inr (.inr 4000)), some (.inr (.inr x1)), some (.inr (.inr x2)), some (.inl x3)] [.inl (x3 + (2 : Int32)), .inr (.inr 4000), .inl v140, .inr (.inr x1)] (by decide +kernel) rfl ?_
      refine s_sc (by decide +kernel) (fun v141 => ?_)
      refine s_run (b := [(.aload_n 0, 1), (.iload_n 3, 1), (.iconst 3, 1), (.iadd, 1)]) 865 [some (.inr (.inr 4000)), some (.inr (.inr x1)), some (.inr (.inr x2)), some (.inl x3)] [.inl (x3 + (3 : Int32)), .inr (.inr 4000), .inl v141, .inl v140, .inr (.inr x1)] (by decide +kernel) rfl ?_
      refine s_sc (by decide +kernel) (fun v142 => ?_)
      refine s_cV (Z := Y_X11_fits) (c := 11) (vs := [.inl v140, .inl v141, .inl v142]) (st := []) (rO := fun z => some (.inl z.1)) (mO := fun z => z.2) zk_X11_fits zi_X11_fits q989 rfl ⟨by decide, by decide⟩ ⟨rfl, rfl⟩ rfl rfl (Nat.le_of_ble_eq_true rfl) (by decide +kernel) (fun z hz => c_X11_fits hz) (fun z143 => ?_)
      change Sim l G Y_L_law lim _ _ 869 [some (.inr (.inr 4000)), some (.inr (.inr x1)), some (.inr (.inr x2)), some (.inl x3)] [.inl z143.1] z143.2
      refine s_run (b := [(.aload_n 2, 1), (.aload_n 0, 1), (.iload_n 3, 1), (.iconst 1, 1), (.iadd, 1)]) 874 [some (.inr (.inr 4000)), some (.inr (.inr x1)), some (.inr (.inr x2)), some (.inl x3)] [.inl (x3 + (1 : Int32)), .inr (.inr 4000), .inr (.inr x2), .inl z143.1] (by decide +kernel) rfl ?_
      refine s_sc (by decide +kernel) (fun v144 => ?_)
      refine s_run (b := [(.aload_n 0, 1), (.iload_n 3, 1), (.iconst 2, 1), (.iadd, 1)]) 879 [some (.inr (.inr 4000)), some (.inr (.inr x1)), some (.inr (.inr x2)), some (.inl x3)] [.inl (x3 + (2 : Int32)), .inr (.inr 4000), .inl v144, .inr (.inr x2), .inl z143.1] (by decide +kernel) rfl ?_
      refine s_sc (by decide +kernel) (fun v145 => ?_)
      refine s_run (b := [(.aload_n 0, 1), (.iload_n 3, 1), (.iconst 3, 1), (.iadd, 1)]) 884 [some (.inr (.inr 4000)), some (.inr (.inr x1)), some (.inr (.inr x2)), some (.inl x3)] [.inl (x3 + (3 : Int32)), .inr (.inr 4000), .inl v145, .inl v144, .inr (.inr x2), .inl z143.1] (by decide +kernel) rfl ?_
      refine s_sc (by decide +kernel) (fun v146 => ?_)
      refine s_cV (Z := Y_X12_fits) (c := 12) (vs := [.inl v144, .inl v145, .inl v146]) (st := [.inl z143.1]) (rO := fun z => some (.inl z.1)) (mO := fun z => z.2) zk_X12_fits zi_X12_fits q1739 rfl ⟨by decide, by decide⟩ ⟨rfl, rfl⟩ rfl rfl (Nat.le_of_ble_eq_true rfl) (by decide +kernel) (fun z hz => c_X12_fits hz) (fun z147 => ?_)
      change Sim l G Y_L_law lim _ _ 888 [some (.inr (.inr 4000)), some (.inr (.inr x1)), some (.inr (.inr x2)), some (.inl x3)] [.inl z147.1, .inl z143.1] z147.2
      refine s_ic_eq (tgt := 1845) (off := 957) (by decide +kernel) (by decide) (fun h148 => ?_) (fun h148 => ?_)
      · skip
        refine s_run (b := [(.iinc 3 6, 3), (.goto (-1830), 3)]) 18 [some (.inr (.inr 4000)), some (.inr (.inr x1)), some (.inr (.inr x2)), some (.inl (x3 + (6 : Int32)))] [] (by decide +kernel) rfl ?_
        generalize (x3 + (6 : Int32)) = g149
        exact s_lsub (ls' := [some (.inr (.inr 4000)), some (.inr (.inr x1)), some (.inr (.inr x2)), some (.inl g149)]) ⟨rfl, ⟨rfl, ⟨rfl, ⟨rfl, trivial⟩⟩⟩⟩ (kk1 (g149, z147.2))
      · skip
        exact s_none
    refine s_ite (fun h150 => ?_) (fun h150 => ?_)
    · refine s_tabIn (off := 860) (tgt := 893) (dflt := 1812) (lo := 0) (hi := 38) (offs := #[171, 234, 257, 290, 313, 346, 389, 422, 475, 544, 567, 627, 687, 740, 774, 817, 860, 913, 972, 1015, 1064, 1113, 1172, 1205, 1238, 1271, 1294, 1337, 1380, 1439, 1482, 1525, 1558, 1618, 1641, 1694, 1743, 1766, 1789]) (len := 171) (16 : Int32) (by decide +kernel) h150 rfl rfl rfl (by decide) ?_
      change Sim l G Y_L_law lim _ _ 893 [some (.inr (.inr 4000)), some (.inr (.inr x1)), some (.inr (.inr x2)), some (.inl x3)] [] M
      refine s_run (b := [(.aload_n 1, 1), (.aload_n 0, 1), (.iload_n 3, 1), (.iconst 1, 1), (.iadd, 1)]) 898 [some (.inr (.inr 4000)), some (.inr (.inr x1)), some (.inr (.inr x2)), some (.inl x3)] [.inl (x3 + (1 : Int32)), .inr (.inr 4000), .inr (.inr x1)] (by decide +kernel) rfl ?_
      refine s_sc (by decide +kernel) (fun v151 => ?_)
      refine s_run (b := [(.aload_n 0, 1), (.iload_n 3, 1), (.iconst 2, 1), (.iadd, 1)]) 903 [some (.inr (.inr 4000)), some (.inr (.inr x1)), some (.inr (.inr x2)), some (.inl x3)] [.inl (x3 + (2 : Int32)), .inr (.inr 4000), .inl v151, .inr (.inr x1)] (by decide +kernel) rfl ?_
      refine s_sc (by decide +kernel) (fun v152 => ?_)
      refine s_run (b := [(.aload_n 0, 1), (.iload_n 3, 1), (.iconst 3, 1), (.iadd, 1)]) 908 [some (.inr (.inr 4000)), some (.inr (.inr x1)), some (.inr (.inr x2)), some (.inl x3)] [.inl (x3 + (3 : Int32)), .inr (.inr 4000), .inl v152, .inl v151, .inr (.inr x1)] (by decide +kernel) rfl ?_
      refine s_sc (by decide +kernel) (fun v153 => ?_)
      refine s_run (b := [(.aload_n 0, 1), (.iload_n 3, 1), (.iconst 4, 1), (.iadd, 1)]) 913 [some (.inr (.inr 4000)), some (.inr (.inr x1)), some (.inr (.inr x2)), some (.inl x3)] [.inl (x3 + (4 : Int32)), .inr (.inr 4000), .inl v153, .inl v152, .inl v151, .inr (.inr x1)] (by decide +kernel) rfl ?_
      refine s_sc (by decide +kernel) (fun v154 => ?_)
      refine s_cV (Z := Y_X11_drawn) (c := 11) (vs := [.inl v151, .inl v152, .inl v153, .inl v154]) (st := []) (rO := fun z => some (.inl z.1)) (mO := fun z => z.2) zk_X11_drawn zi_X11_drawn q1040 rfl ⟨by decide, by decide⟩ ⟨rfl, rfl⟩ rfl rfl (Nat.le_of_ble_eq_true rfl) (by decide +kernel) (fun z hz => c_X11_drawn hz) (fun z155 => ?_)
      change Sim l G Y_L_law lim _ _ 917 [some (.inr (.inr 4000)), some (.inr (.inr x1)), some (.inr (.inr x2)), some (.inl x3)] [.inl z155.1] z155.2
      refine s_run (b := [(.aload_n 2, 1), (.aload_n 0, 1), (.iload_n 3, 1), (.iconst 1, 1), (.iadd, 1)]) 922 [some (.inr (.inr 4000)), some (.inr (.inr x1)), some (.inr (.inr x2)), some (.inl x3)] [.inl (x3 + (1 : Int32)), .inr (.inr 4000), .inr (.inr x2), .inl z155.1] (by decide +kernel) rfl ?_
      refine s_sc (by decide +kernel) (fun v156 => ?_)
      refine s_run (b := [(.aload_n 0, 1), (.iload_n 3, 1), (.iconst 2, 1), (.iadd, 1)]) 927 [some (.inr (.inr 4000)), some (.inr (.inr x1)), some (.inr (.inr x2)), some (.inl x3)] [.inl (x3 + (2 : Int32)), .inr (.inr 4000), .inl v156, .inr (.inr x2), .inl z155.1] (by decide +kernel) rfl ?_
      refine s_sc (by decide +kernel) (fun v157 => ?_)
      refine s_run (b := [(.aload_n 0, 1), (.iload_n 3, 1), (.iconst 3, 1), (.iadd, 1)]) 932 [some (.inr (.inr 4000)), some (.inr (.inr x1)), some (.inr (.inr x2)), some (.inl x3)] [.inl (x3 + (3 : Int32)), .inr (.inr 4000), .inl v157, .inl v156, .inr (.inr x2), .inl z155.1] (by decide +kernel) rfl ?_
      refine s_sc (by decide +kernel) (fun v158 => ?_)
      refine s_run (b := [(.aload_n 0, 1), (.iload_n 3, 1), (.iconst 4, 1), (.iadd, 1)]) 937 [some (.inr (.inr 4000)), some (.inr (.inr x1)), some (.inr (.inr x2)), some (.inl x3)] [.inl (x3 + (4 : Int32)), .inr (.inr 4000), .inl v158, .inl v157, .inl v156, .inr (.inr x2), .inl z155.1] (by decide +kernel) rfl ?_
      refine s_sc (by decide +kernel) (fun v159 => ?_)
      refine s_cV (Z := Y_X12_drawn) (c := 12) (vs := [.inl v156, .inl v157, .inl v158, .inl v159]) (st := [.inl z155.1]) (rO := fun z => some (.inl z.1)) (mO := fun z => z.2) zk_X12_drawn zi_X12_drawn q1914 rfl ⟨by decide, by decide⟩ ⟨rfl, rfl⟩ rfl rfl (Nat.le_of_ble_eq_true rfl) (by decide +kernel) (fun z hz => c_X12_drawn hz) (fun z160 => ?_)
      change Sim l G Y_L_law lim _ _ 941 [some (.inr (.inr 4000)), some (.inr (.inr x1)), some (.inr (.inr x2)), some (.inl x3)] [.inl z160.1, .inl z155.1] z160.2
      refine s_ic_eq (tgt := 1845) (off := 904) (by decide +kernel) (by decide) (fun h161 => ?_) (fun h161 => ?_)
      · skip
        refine s_run (b := [(.iinc 3 6, 3), (.goto (-1830), 3)]) 18 [some (.inr (.inr 4000)), some (.inr (.inr x1)), some (.inr (.inr x2)), some (.inl (x3 + (6 : Int32)))] [] (by decide +kernel) rfl ?_
        generalize (x3 + (6 : Int32)) = g162
        exact s_lsub (ls' := [some (.inr (.inr 4000)), some (.inr (.inr x1)), some (.inr (.inr x2)), some (.inl g162)]) ⟨rfl, ⟨rfl, ⟨rfl, ⟨rfl, trivial⟩⟩⟩⟩ (kk1 (g162, z160.2))
      · skip
        exact s_none
    refine s_ite (fun h163 => ?_) (fun h163 => ?_)
    · refine s_tabIn (off := 913) (tgt := 946) (dflt := 1812) (lo := 0) (hi := 38) (offs := #[171, 234, 257, 290, 313, 346, 389, 422, 475, 544, 567, 627, 687, 740, 774, 817, 860, 913, 972, 1015, 1064, 1113, 1172, 1205, 1238, 1271, 1294, 1337, 1380, 1439, 1482, 1525, 1558, 1618, 1641, 1694, 1743, 1766, 1789]) (len := 171) (17 : Int32) (by decide +kernel) h163 rfl rfl rfl (by decide) ?_
      change Sim l G Y_L_law lim _ _ 946 [some (.inr (.inr 4000)), some (.inr (.inr x1)), some (.inr (.inr x2)), some (.inl x3)] [] M
      refine s_run (b := [(.aload_n 1, 1), (.aload_n 0, 1), (.iload_n 3, 1), (.iconst 1, 1), (.iadd, 1)]) 951 [some (.inr (.inr 4000)), some (.inr (.inr x1)), some (.inr (.inr x2)), some (.inl x3)] [.inl (x3 + (1 : Int32)), .inr (.inr 4000), .inr (.inr x1)] (by decide +kernel) rfl ?_
      refine s_sc (by decide +kernel) (fun v164 => ?_)
      refine s_run (b := [(.aload_n 0, 1), (.iload_n 3, 1), (.iconst 2, 1), (.iadd, 1)]) 956 [some (.inr (.inr 4000)), some (.inr (.inr x1)), some (.inr (.inr x2)), some (.inl x3)] [.inl (x3 + (2 : Int32)), .inr (.inr 4000), .inl v164, .inr (.inr x1)] (by decide +kernel) rfl ?_
      refine s_sc (by decide +kernel) (fun v165 => ?_)
      refine s_run (b := [(.aload_n 0, 1), (.iload_n 3, 1), (.iconst 3, 1), (.iadd, 1)]) 961 [some (.inr (.inr 4000)), some (.inr (.inr x1)), some (.inr (.inr x2)), some (.inl x3)] [.inl (x3 + (3 : Int32)), .inr (.inr 4000), .inl v165, .inl v164, .inr (.inr x1)] (by decide +kernel) rfl ?_
      refine s_sc (by decide +kernel) (fun v166 => ?_)
      refine s_if_eq (tgt := 969) (off := 7) (by decide +kernel) (by decide) (fun h167 => ?_) (fun h167 => ?_)
      · skip
        refine s_run (b := [(.iconst 0, 1)]) 970 [some (.inr (.inr 4000)), some (.inr (.inr x1)), some (.inr (.inr x2)), some (.inl x3)] [.inl (0 : Int32), .inl v165, .inl v164, .inr (.inr x1)] (by decide +kernel) rfl ?_
        exact s_lsub (ls' := [some (.inr (.inr 4000)), some (.inr (.inr x1)), some (.inr (.inr x2)), some (.inl x3)]) ⟨rfl, ⟨rfl, ⟨rfl, ⟨rfl, trivial⟩⟩⟩⟩ (J_L_law_970 M x1 x2 x3 x1 v164 v165 (0 : Int32) K kk1 kk2_0)
      · skip
        refine s_run (b := [(.iconst 1, 1), (.goto 4, 3)]) 970 [some (.inr (.inr 4000)), some (.inr (.inr x1)), some (.inr (.inr x2)), some (.inl x3)] [.inl (1 : Int32), .inl v165, .inl v164, .inr (.inr x1)] (by decide +kernel) rfl ?_
        exact s_lsub (ls' := [some (.inr (.inr 4000)), some (.inr (.inr x1)), some (.inr (.inr x2)), some (.inl x3)]) ⟨rfl, ⟨rfl, ⟨rfl, ⟨rfl, trivial⟩⟩⟩⟩ (J_L_law_970 M x1 x2 x3 x1 v164 v165 (1 : Int32) K kk1 kk2_0)
    refine s_ite (fun h168 => ?_) (fun h168 => ?_)
    · refine s_tabIn (off := 972) (tgt := 1005) (dflt := 1812) (lo := 0) (hi := 38) (offs := #[171, 234, 257, 290, 313, 346, 389, 422, 475, 544, 567, 627, 687, 740, 774, 817, 860, 913, 972, 1015, 1064, 1113, 1172, 1205, 1238, 1271, 1294, 1337, 1380, 1439, 1482, 1525, 1558, 1618, 1641, 1694, 1743, 1766, 1789]) (len := 171) (18 : Int32) (by decide +kernel) h168 rfl rfl rfl (by decide) ?_
      change Sim l G Y_L_law lim _ _ 1005 [some (.inr (.inr 4000)), some (.inr (.inr x1)), some (.inr (.inr x2)), some (.inl x3)] [] M
      refine s_run (b := [(.aload_n 1, 1), (.aload_n 0, 1), (.iload_n 3, 1), (.iconst 1, 1), (.iadd, 1)]) 1010 [some (.inr (.inr 4000)), some (.inr (.inr x1)), some (.inr (.inr x2)), some (.inl x3)] [.inl (x3 + (1 : Int32)), .inr (.inr 4000), .inr (.inr x1)] (by decide +kernel) rfl ?_
      refine s_sc (by decide +kernel) (fun v169 => ?_)
      refine s_run (b := [(.aload_n 0, 1), (.iload_n 3, 1), (.iconst 2, 1), (.iadd, 1)]) 1015 [some (.inr (.inr 4000)), some (.inr (.inr x1)), some (.inr (.inr x2)), some (.inl x3)] [.inl (x3 + (2 : Int32)), .inr (.inr 4000), .inl v169, .inr (.inr x1)] (by decide +kernel) rfl ?_
      refine s_sc (by decide +kernel) (fun v170 => ?_)
      refine s_run (b := [(.aload_n 0, 1), (.iload_n 3, 1), (.iconst 3, 1), (.iadd, 1)]) 1020 [some (.inr (.inr 4000)), some (.inr (.inr x1)), some (.inr (.inr x2)), some (.inl x3)] [.inl (x3 + (3 : Int32)), .inr (.inr 4000), .inl v170, .inl v169, .inr (.inr x1)] (by decide +kernel) rfl ?_
      refine s_sc (by decide +kernel) (fun v171 => ?_)
      refine s_cV (Z := Y_X11_rule) (c := 11) (vs := [.inl v169, .inl v170, .inl v171]) (st := []) (rO := fun z => some (.inl z.1)) (mO := fun z => z.2) zk_X11_rule zi_X11_rule q1066 rfl ⟨by decide, by decide⟩ ⟨rfl, rfl⟩ rfl rfl (Nat.le_of_ble_eq_true rfl) (by decide +kernel) (fun z hz => c_X11_rule hz) (fun z172 => ?_)
      change Sim l G Y_L_law lim _ _ 1024 [some (.inr (.inr 4000)), some (.inr (.inr x1)), some (.inr (.inr x2)), some (.inl x3)] [.inl z172.1] z172.2
      refine s_run (b := [(.aload_n 2, 1), (.aload_n 0, 1), (.iload_n 3, 1), (.iconst 1, 1), (.iadd, 1)]) 1029 [some (.inr (.inr 4000)), some (.inr (.inr x1)), some (.inr (.inr x2)), some (.inl x3)] [.inl (x3 + (1 : Int32)), .inr (.inr 4000), .inr (.inr x2), .inl z172.1] (by decide +kernel) rfl ?_
      refine s_sc (by decide +kernel) (fun v173 => ?_)
      refine s_run (b := [(.aload_n 0, 1), (.iload_n 3, 1), (.iconst 2, 1), (.iadd, 1)]) 1034 [some (.inr (.inr 4000)), some (.inr (.inr x1)), some (.inr (.inr x2)), some (.inl x3)] [.inl (x3 + (2 : Int32)), .inr (.inr 4000), .inl v173, .inr (.inr x2), .inl z172.1] (by decide +kernel) rfl ?_
      refine s_sc (by decide +kernel) (fun v174 => ?_)
      refine s_run (b := [(.aload_n 0, 1), (.iload_n 3, 1), (.iconst 3, 1), (.iadd, 1)]) 1039 [some (.inr (.inr 4000)), some (.inr (.inr x1)), some (.inr (.inr x2)), some (.inl x3)] [.inl (x3 + (3 : Int32)), .inr (.inr 4000), .inl v174, .inl v173, .inr (.inr x2), .inl z172.1] (by decide +kernel) rfl ?_
      refine s_sc (by decide +kernel) (fun v175 => ?_)
      refine s_cV (Z := Y_X12_rule) (c := 12) (vs := [.inl v173, .inl v174, .inl v175]) (st := [.inl z172.1]) (rO := fun z => some (.inl z.1)) (mO := fun z => z.2) zk_X12_rule zi_X12_rule q1779 rfl ⟨by decide, by decide⟩ ⟨rfl, rfl⟩ rfl rfl (Nat.le_of_ble_eq_true rfl) (by decide +kernel) (fun z hz => c_X12_rule hz) (fun z176 => ?_)
      change Sim l G Y_L_law lim _ _ 1043 [some (.inr (.inr 4000)), some (.inr (.inr x1)), some (.inr (.inr x2)), some (.inl x3)] [.inl z176.1, .inl z172.1] z176.2
      refine s_ic_eq (tgt := 1845) (off := 802) (by decide +kernel) (by decide) (fun h177 => ?_) (fun h177 => ?_)
      · skip
        refine s_run (b := [(.iinc 3 6, 3), (.goto (-1830), 3)]) 18 [some (.inr (.inr 4000)), some (.inr (.inr x1)), some (.inr (.inr x2)), some (.inl (x3 + (6 : Int32)))] [] (by decide +kernel) rfl ?_
        generalize (x3 + (6 : Int32)) = g178
        exact s_lsub (ls' := [some (.inr (.inr 4000)), some (.inr (.inr x1)), some (.inr (.inr x2)), some (.inl g178)]) ⟨rfl, ⟨rfl, ⟨rfl, ⟨rfl, trivial⟩⟩⟩⟩ (kk1 (g178, z176.2))
      · skip
        exact s_none
    refine s_ite (fun h179 => ?_) (fun h179 => ?_)
    · refine s_tabIn (off := 1015) (tgt := 1048) (dflt := 1812) (lo := 0) (hi := 38) (offs := #[171, 234, 257, 290, 313, 346, 389, 422, 475, 544, 567, 627, 687, 740, 774, 817, 860, 913, 972, 1015, 1064, 1113, 1172, 1205, 1238, 1271, 1294, 1337, 1380, 1439, 1482, 1525, 1558, 1618, 1641, 1694, 1743, 1766, 1789]) (len := 171) (19 : Int32) (by decide +kernel) h179 rfl rfl rfl (by decide) ?_
      change Sim l G Y_L_law lim _ _ 1048 [some (.inr (.inr 4000)), some (.inr (.inr x1)), some (.inr (.inr x2)), some (.inl x3)] [] M
      refine s_run (b := [(.aload_n 1, 1), (.aload_n 0, 1), (.iload_n 3, 1), (.iconst 1, 1), (.iadd, 1)]) 1053 [some (.inr (.inr 4000)), some (.inr (.inr x1)), some (.inr (.inr x2)), some (.inl x3)] [.inl (x3 + (1 : Int32)), .inr (.inr 4000), .inr (.inr x1)] (by decide +kernel) rfl ?_
      refine s_sc (by decide +kernel) (fun v180 => ?_)
      refine s_run (b := [(.aload_n 0, 1), (.iload_n 3, 1), (.iconst 2, 1), (.iadd, 1)]) 1058 [some (.inr (.inr 4000)), some (.inr (.inr x1)), some (.inr (.inr x2)), some (.inl x3)] [.inl (x3 + (2 : Int32)), .inr (.inr 4000), .inl v180, .inr (.inr x1)] (by decide +kernel) rfl ?_
      refine s_sc (by decide +kernel) (fun v181 => ?_)
      refine s_if_eq (tgt := 1066) (off := 7) (by decide +kernel) (by decide) (fun h182 => ?_) (fun h182 => ?_)
      · skip
        refine s_run (b := [(.iconst 0, 1)]) 1067 [some (.inr (.inr 4000)), some (.inr (.inr x1)), some (.inr (.inr x2)), some (.inl x3)] [.inl (0 : Int32), .inl v180, .inr (.inr x1)] (by decide +kernel) rfl ?_
        exact s_lsub (ls' := [some (.inr (.inr 4000)), some (.inr (.inr x1)), some (.inr (.inr x2)), some (.inl x3)]) ⟨rfl, ⟨rfl, ⟨rfl, ⟨rfl, trivial⟩⟩⟩⟩ (J_L_law_1067 M x1 x2 x3 x1 v180 (0 : Int32) K kk1 kk2_0)
      · skip
        refine s_run (b := [(.iconst 1, 1), (.goto 4, 3)]) 1067 [some (.inr (.inr 4000)), some (.inr (.inr x1)), some (.inr (.inr x2)), some (.inl x3)] [.inl (1 : Int32), .inl v180, .inr (.inr x1)] (by decide +kernel) rfl ?_
        exact s_lsub (ls' := [some (.inr (.inr 4000)), some (.inr (.inr x1)), some (.inr (.inr x2)), some (.inl x3)]) ⟨rfl, ⟨rfl, ⟨rfl, ⟨rfl, trivial⟩⟩⟩⟩ (J_L_law_1067 M x1 x2 x3 x1 v180 (1 : Int32) K kk1 kk2_0)
    refine s_ite (fun h183 => ?_) (fun h183 => ?_)
    · refine s_tabIn (off := 1064) (tgt := 1097) (dflt := 1812) (lo := 0) (hi := 38) (offs := #[171, 234, 257, 290, 313, 346, 389, 422, 475, 544, 567, 627, 687, 740, 774, 817, 860, 913, 972, 1015, 1064, 1113, 1172, 1205, 1238, 1271, 1294, 1337, 1380, 1439, 1482, 1525, 1558, 1618, 1641, 1694, 1743, 1766, 1789]) (len := 171) (20 : Int32) (by decide +kernel) h183 rfl rfl rfl (by decide) ?_
      change Sim l G Y_L_law lim _ _ 1097 [some (.inr (.inr 4000)), some (.inr (.inr x1)), some (.inr (.inr x2)), some (.inl x3)] [] M
      refine s_run (b := [(.aload_n 1, 1), (.aload_n 0, 1), (.iload_n 3, 1), (.iconst 1, 1), (.iadd, 1)]) 1102 [some (.inr (.inr 4000)), some (.inr (.inr x1)), some (.inr (.inr x2)), some (.inl x3)] [.inl (x3 + (1 : Int32)), .inr (.inr 4000), .inr (.inr x1)] (by decide +kernel) rfl ?_
      refine s_sc (by decide +kernel) (fun v184 => ?_)
      refine s_run (b := [(.aload_n 0, 1), (.iload_n 3, 1), (.iconst 2, 1), (.iadd, 1)]) 1107 [some (.inr (.inr 4000)), some (.inr (.inr x1)), some (.inr (.inr x2)), some (.inl x3)] [.inl (x3 + (2 : Int32)), .inr (.inr 4000), .inl v184, .inr (.inr x1)] (by decide +kernel) rfl ?_
      refine s_sc (by decide +kernel) (fun v185 => ?_)
      refine s_if_eq (tgt := 1115) (off := 7) (by decide +kernel) (by decide) (fun h186 => ?_) (fun h186 => ?_)
      · skip
        refine s_run (b := [(.iconst 0, 1)]) 1116 [some (.inr (.inr 4000)), some (.inr (.inr x1)), some (.inr (.inr x2)), some (.inl x3)] [.inl (0 : Int32), .inl v184, .inr (.inr x1)] (by decide +kernel) rfl ?_
        exact s_lsub (ls' := [some (.inr (.inr 4000)), some (.inr (.inr x1)), some (.inr (.inr x2)), some (.inl x3)]) ⟨rfl, ⟨rfl, ⟨rfl, ⟨rfl, trivial⟩⟩⟩⟩ (J_L_law_1116 M x1 x2 x3 x1 v184 (0 : Int32) K kk1 kk2_0)
      · skip
        refine s_run (b := [(.iconst 1, 1), (.goto 4, 3)]) 1116 [some (.inr (.inr 4000)), some (.inr (.inr x1)), some (.inr (.inr x2)), some (.inl x3)] [.inl (1 : Int32), .inl v184, .inr (.inr x1)] (by decide +kernel) rfl ?_
        exact s_lsub (ls' := [some (.inr (.inr 4000)), some (.inr (.inr x1)), some (.inr (.inr x2)), some (.inl x3)]) ⟨rfl, ⟨rfl, ⟨rfl, ⟨rfl, trivial⟩⟩⟩⟩ (J_L_law_1116 M x1 x2 x3 x1 v184 (1 : Int32) K kk1 kk2_0)
    refine s_ite (fun h187 => ?_) (fun h187 => ?_)
    · refine s_tabIn (off := 1113) (tgt := 1146) (dflt := 1812) (lo := 0) (hi := 38) (offs := #[171, 234, 257, 290, 313, 346, 389, 422, 475, 544, 567, 627, 687, 740, 774, 817, 860, 913, 972, 1015, 1064, 1113, 1172, 1205, 1238, 1271, 1294, 1337, 1380, 1439, 1482, 1525, 1558, 1618, 1641, 1694, 1743, 1766, 1789]) (len := 171) (21 : Int32) (by decide +kernel) h187 rfl rfl rfl (by decide) ?_
      change Sim l G Y_L_law lim _ _ 1146 [some (.inr (.inr 4000)), some (.inr (.inr x1)), some (.inr (.inr x2)), some (.inl x3)] [] M
      refine s_run (b := [(.aload_n 1, 1), (.aload_n 0, 1), (.iload_n 3, 1), (.iconst 1, 1), (.iadd, 1)]) 1151 [some (.inr (.inr 4000)), some (.inr (.inr x1)), some (.inr (.inr x2)), some (.inl x3)] [.inl (x3 + (1 : Int32)), .inr (.inr 4000), .inr (.inr x1)] (by decide +kernel) rfl ?_
      refine s_sc (by decide +kernel) (fun v188 => ?_)
      refine s_run (b := [(.aload_n 0, 1), (.iload_n 3, 1), (.iconst 2, 1), (.iadd, 1)]) 1156 [some (.inr (.inr 4000)), some (.inr (.inr x1)), some (.inr (.inr x2)), some (.inl x3)] [.inl (x3 + (2 : Int32)), .inr (.inr 4000), .inl v188, .inr (.inr x1)] (by decide +kernel) rfl ?_
      refine s_sc (by decide +kernel) (fun v189 => ?_)
      refine s_run (b := [(.aload_n 0, 1), (.iload_n 3, 1), (.iconst 3, 1), (.iadd, 1)]) 1161 [some (.inr (.inr 4000)), some (.inr (.inr x1)), some (.inr (.inr x2)), some (.inl x3)] [.inl (x3 + (3 : Int32)), .inr (.inr 4000), .inl v189, .inl v188, .inr (.inr x1)] (by decide +kernel) rfl ?_
      refine s_sc (by decide +kernel) (fun v190 => ?_)
      refine s_if_eq (tgt := 1169) (off := 7) (by decide +kernel) (by decide) (fun h191 => ?_) (fun h191 => ?_)
      · skip
        refine s_run (b := [(.iconst 0, 1)]) 1170 [some (.inr (.inr 4000)), some (.inr (.inr x1)), some (.inr (.inr x2)), some (.inl x3)] [.inl (0 : Int32), .inl v189, .inl v188, .inr (.inr x1)] (by decide +kernel) rfl ?_
        exact s_lsub (ls' := [some (.inr (.inr 4000)), some (.inr (.inr x1)), some (.inr (.inr x2)), some (.inl x3)]) ⟨rfl, ⟨rfl, ⟨rfl, ⟨rfl, trivial⟩⟩⟩⟩ (J_L_law_1170 M x1 x2 x3 x1 v188 v189 (0 : Int32) K kk1 kk2_0)
      · skip
        refine s_run (b := [(.iconst 1, 1), (.goto 4, 3)]) 1170 [some (.inr (.inr 4000)), some (.inr (.inr x1)), some (.inr (.inr x2)), some (.inl x3)] [.inl (1 : Int32), .inl v189, .inl v188, .inr (.inr x1)] (by decide +kernel) rfl ?_
        exact s_lsub (ls' := [some (.inr (.inr 4000)), some (.inr (.inr x1)), some (.inr (.inr x2)), some (.inl x3)]) ⟨rfl, ⟨rfl, ⟨rfl, ⟨rfl, trivial⟩⟩⟩⟩ (J_L_law_1170 M x1 x2 x3 x1 v188 v189 (1 : Int32) K kk1 kk2_0)
    refine s_ite (fun h192 => ?_) (fun h192 => ?_)
    · refine s_tabIn (off := 1172) (tgt := 1205) (dflt := 1812) (lo := 0) (hi := 38) (offs := #[171, 234, 257, 290, 313, 346, 389, 422, 475, 544, 567, 627, 687, 740, 774, 817, 860, 913, 972, 1015, 1064, 1113, 1172, 1205, 1238, 1271, 1294, 1337, 1380, 1439, 1482, 1525, 1558, 1618, 1641, 1694, 1743, 1766, 1789]) (len := 171) (22 : Int32) (by decide +kernel) h192 rfl rfl rfl (by decide) ?_
      change Sim l G Y_L_law lim _ _ 1205 [some (.inr (.inr 4000)), some (.inr (.inr x1)), some (.inr (.inr x2)), some (.inl x3)] [] M
      refine s_run (b := [(.aload_n 1, 1), (.aload_n 0, 1), (.iload_n 3, 1), (.iconst 1, 1), (.iadd, 1)]) 1210 [some (.inr (.inr 4000)), some (.inr (.inr x1)), some (.inr (.inr x2)), some (.inl x3)] [.inl (x3 + (1 : Int32)), .inr (.inr 4000), .inr (.inr x1)] (by decide +kernel) rfl ?_
      refine s_sc (by decide +kernel) (fun v193 => ?_)
      refine s_run (b := [(.aload_n 0, 1), (.iload_n 3, 1), (.iconst 2, 1), (.iadd, 1)]) 1215 [some (.inr (.inr 4000)), some (.inr (.inr x1)), some (.inr (.inr x2)), some (.inl x3)] [.inl (x3 + (2 : Int32)), .inr (.inr 4000), .inl v193, .inr (.inr x1)] (by decide +kernel) rfl ?_
      refine s_sc (by decide +kernel) (fun v194 => ?_)
      refine s_cV (Z := Y_X11_quiet) (c := 11) (vs := [.inl v193, .inl v194]) (st := []) (rO := fun z => some (.inl z)) (mO := fun _ => M) zk_X11_quiet zi_X11_quiet q1141 rfl ⟨by decide, by decide⟩ ⟨rfl, rfl⟩ rfl rfl (Nat.le_of_ble_eq_true rfl) (by decide +kernel) (fun z hz => c_X11_quiet hz) (fun v195 => ?_)
      change Sim l G Y_L_law lim _ _ 1219 [some (.inr (.inr 4000)), some (.inr (.inr x1)), some (.inr (.inr x2)), some (.inl x3)] [.inl v195] M
      refine s_run (b := [(.aload_n 2, 1), (.aload_n 0, 1), (.iload_n 3, 1), (.iconst 1, 1), (.iadd, 1)]) 1224 [some (.inr (.inr 4000)), some (.inr (.inr x1)), some (.inr (.inr x2)), some (.inl x3)] [.inl (x3 + (1 : Int32)), .inr (.inr 4000), .inr (.inr x2), .inl v195] (by decide +kernel) rfl ?_
      refine s_sc (by decide +kernel) (fun v196 => ?_)
      refine s_run (b := [(.aload_n 0, 1), (.iload_n 3, 1), (.iconst 2, 1), (.iadd, 1)]) 1229 [some (.inr (.inr 4000)), some (.inr (.inr x1)), some (.inr (.inr x2)), some (.inl x3)] [.inl (x3 + (2 : Int32)), .inr (.inr 4000), .inl v196, .inr (.inr x2), .inl v195] (by decide +kernel) rfl ?_
      refine s_sc (by decide +kernel) (fun v197 => ?_)
      refine s_cV (Z := Y_X12_quiet) (c := 12) (vs := [.inl v196, .inl v197]) (st := [.inl v195]) (rO := fun z => some (.inl z.1)) (mO := fun z => z.2) zk_X12_quiet zi_X12_quiet q1846 rfl ⟨by decide, by decide⟩ ⟨rfl, rfl⟩ rfl rfl (Nat.le_of_ble_eq_true rfl) (by decide +kernel) (fun z hz => c_X12_quiet hz) (fun z198 => ?_)
      change Sim l G Y_L_law lim _ _ 1233 [some (.inr (.inr 4000)), some (.inr (.inr x1)), some (.inr (.inr x2)), some (.inl x3)] [.inl z198.1, .inl v195] z198.2
      refine s_ic_eq (tgt := 1845) (off := 612) (by decide +kernel) (by decide) (fun h199 => ?_) (fun h199 => ?_)
      · skip
        refine s_run (b := [(.iinc 3 6, 3), (.goto (-1830), 3)]) 18 [some (.inr (.inr 4000)), some (.inr (.inr x1)), some (.inr (.inr x2)), some (.inl (x3 + (6 : Int32)))] [] (by decide +kernel) rfl ?_
        generalize (x3 + (6 : Int32)) = g200
        exact s_lsub (ls' := [some (.inr (.inr 4000)), some (.inr (.inr x1)), some (.inr (.inr x2)), some (.inl g200)]) ⟨rfl, ⟨rfl, ⟨rfl, ⟨rfl, trivial⟩⟩⟩⟩ (kk1 (g200, z198.2))
      · skip
        exact s_none
    refine s_ite (fun h201 => ?_) (fun h201 => ?_)
    · refine s_tabIn (off := 1205) (tgt := 1238) (dflt := 1812) (lo := 0) (hi := 38) (offs := #[171, 234, 257, 290, 313, 346, 389, 422, 475, 544, 567, 627, 687, 740, 774, 817, 860, 913, 972, 1015, 1064, 1113, 1172, 1205, 1238, 1271, 1294, 1337, 1380, 1439, 1482, 1525, 1558, 1618, 1641, 1694, 1743, 1766, 1789]) (len := 171) (23 : Int32) (by decide +kernel) h201 rfl rfl rfl (by decide) ?_
      change Sim l G Y_L_law lim _ _ 1238 [some (.inr (.inr 4000)), some (.inr (.inr x1)), some (.inr (.inr x2)), some (.inl x3)] [] M
      refine s_run (b := [(.aload_n 1, 1), (.aload_n 0, 1), (.iload_n 3, 1), (.iconst 1, 1), (.iadd, 1)]) 1243 [some (.inr (.inr 4000)), some (.inr (.inr x1)), some (.inr (.inr x2)), some (.inl x3)] [.inl (x3 + (1 : Int32)), .inr (.inr 4000), .inr (.inr x1)] (by decide +kernel) rfl ?_
      refine s_sc (by decide +kernel) (fun v202 => ?_)
      refine s_run (b := [(.aload_n 0, 1), (.iload_n 3, 1), (.iconst 2, 1), (.iadd, 1)]) 1248 [some (.inr (.inr 4000)), some (.inr (.inr x1)), some (.inr (.inr x2)), some (.inl x3)] [.inl (x3 + (2 : Int32)), .inr (.inr 4000), .inl v202, .inr (.inr x1)] (by decide +kernel) rfl ?_
      refine s_sc (by decide +kernel) (fun v203 => ?_)
      refine s_cV (Z := Y_X11_given) (c := 11) (vs := [.inl v202, .inl v203]) (st := []) (rO := fun z => some (.inl z.1)) (mO := fun z => z.2) zk_X11_given zi_X11_given q1151 rfl ⟨by decide, by decide⟩ ⟨rfl, rfl⟩ rfl rfl (Nat.le_of_ble_eq_true rfl) (by decide +kernel) (fun z hz => c_X11_given hz) (fun z204 => ?_)
      change Sim l G Y_L_law lim _ _ 1252 [some (.inr (.inr 4000)), some (.inr (.inr x1)), some (.inr (.inr x2)), some (.inl x3)] [.inl z204.1] z204.2
      refine s_run (b := [(.aload_n 2, 1), (.aload_n 0, 1), (.iload_n 3, 1), (.iconst 1, 1), (.iadd, 1)]) 1257 [some (.inr (.inr 4000)), some (.inr (.inr x1)), some (.inr (.inr x2)), some (.inl x3)] [.inl (x3 + (1 : Int32)), .inr (.inr 4000), .inr (.inr x2), .inl z204.1] (by decide +kernel) rfl ?_
      refine s_sc (by decide +kernel) (fun v205 => ?_)
      refine s_run (b := [(.aload_n 0, 1), (.iload_n 3, 1), (.iconst 2, 1), (.iadd, 1)]) 1262 [some (.inr (.inr 4000)), some (.inr (.inr x1)), some (.inr (.inr x2)), some (.inl x3)] [.inl (x3 + (2 : Int32)), .inr (.inr 4000), .inl v205, .inr (.inr x2), .inl z204.1] (by decide +kernel) rfl ?_
      refine s_sc (by decide +kernel) (fun v206 => ?_)
      refine s_cV (Z := Y_X12_given) (c := 12) (vs := [.inl v205, .inl v206]) (st := [.inl z204.1]) (rO := fun z => some (.inl z.1)) (mO := fun z => z.2) zk_X12_given zi_X12_given q1850 rfl ⟨by decide, by decide⟩ ⟨rfl, rfl⟩ rfl rfl (Nat.le_of_ble_eq_true rfl) (by decide +kernel) (fun z hz => c_X12_given hz) (fun z207 => ?_)
      change Sim l G Y_L_law lim _ _ 1266 [some (.inr (.inr 4000)), some (.inr (.inr x1)), some (.inr (.inr x2)), some (.inl x3)] [.inl z207.1, .inl z204.1] z207.2
      refine s_ic_eq (tgt := 1845) (off := 579) (by decide +kernel) (by decide) (fun h208 => ?_) (fun h208 => ?_)
      · skip
        refine s_run (b := [(.iinc 3 6, 3), (.goto (-1830), 3)]) 18 [some (.inr (.inr 4000)), some (.inr (.inr x1)), some (.inr (.inr x2)), some (.inl (x3 + (6 : Int32)))] [] (by decide +kernel) rfl ?_
        generalize (x3 + (6 : Int32)) = g209
        exact s_lsub (ls' := [some (.inr (.inr 4000)), some (.inr (.inr x1)), some (.inr (.inr x2)), some (.inl g209)]) ⟨rfl, ⟨rfl, ⟨rfl, ⟨rfl, trivial⟩⟩⟩⟩ (kk1 (g209, z207.2))
      · skip
        exact s_none
    refine s_ite (fun h210 => ?_) (fun h210 => ?_)
    · refine s_tabIn (off := 1238) (tgt := 1271) (dflt := 1812) (lo := 0) (hi := 38) (offs := #[171, 234, 257, 290, 313, 346, 389, 422, 475, 544, 567, 627, 687, 740, 774, 817, 860, 913, 972, 1015, 1064, 1113, 1172, 1205, 1238, 1271, 1294, 1337, 1380, 1439, 1482, 1525, 1558, 1618, 1641, 1694, 1743, 1766, 1789]) (len := 171) (24 : Int32) (by decide +kernel) h210 rfl rfl rfl (by decide) ?_
      change Sim l G Y_L_law lim _ _ 1271 [some (.inr (.inr 4000)), some (.inr (.inr x1)), some (.inr (.inr x2)), some (.inl x3)] [] M
      refine s_run (b := [(.aload_n 1, 1), (.aload_n 0, 1), (.iload_n 3, 1), (.iconst 1, 1), (.iadd, 1)]) 1276 [some (.inr (.inr 4000)), some (.inr (.inr x1)), some (.inr (.inr x2)), some (.inl x3)] [.inl (x3 + (1 : Int32)), .inr (.inr 4000), .inr (.inr x1)] (by decide +kernel) rfl ?_
      refine s_sc (by decide +kernel) (fun v211 => ?_)
      refine s_run (b := [(.aload_n 0, 1), (.iload_n 3, 1), (.iconst 2, 1), (.iadd, 1)]) 1281 [some (.inr (.inr 4000)), some (.inr (.inr x1)), some (.inr (.inr x2)), some (.inl x3)] [.inl (x3 + (2 : Int32)), .inr (.inr 4000), .inl v211, .inr (.inr x1)] (by decide +kernel) rfl ?_
      refine s_sc (by decide +kernel) (fun v212 => ?_)
      refine s_cV (Z := Y_X11_curve) (c := 11) (vs := [.inl v211, .inl v212]) (st := []) (rO := fun z => some (.inl z)) (mO := fun _ => M) zk_X11_curve zi_X11_curve q1175 rfl ⟨by decide, by decide⟩ ⟨rfl, rfl⟩ rfl rfl (Nat.le_of_ble_eq_true rfl) (by decide +kernel) (fun z hz => c_X11_curve hz) (fun v213 => ?_)
      change Sim l G Y_L_law lim _ _ 1285 [some (.inr (.inr 4000)), some (.inr (.inr x1)), some (.inr (.inr x2)), some (.inl x3)] [.inl v213] M
      refine s_run (b := [(.aload_n 2, 1), (.aload_n 0, 1), (.iload_n 3, 1), (.iconst 1, 1), (.iadd, 1)]) 1290 [some (.inr (.inr 4000)), some (.inr (.inr x1)), some (.inr (.inr x2)), some (.inl x3)] [.inl (x3 + (1 : Int32)), .inr (.inr 4000), .inr (.inr x2), .inl v213] (by decide +kernel) rfl ?_
      refine s_sc (by decide +kernel) (fun v214 => ?_)
      refine s_run (b := [(.aload_n 0, 1), (.iload_n 3, 1), (.iconst 2, 1), (.iadd, 1)]) 1295 [some (.inr (.inr 4000)), some (.inr (.inr x1)), some (.inr (.inr x2)), some (.inl x3)] [.inl (x3 + (2 : Int32)), .inr (.inr 4000), .inl v214, .inr (.inr x2), .inl v213] (by decide +kernel) rfl ?_
      refine s_sc (by decide +kernel) (fun v215 => ?_)
      refine s_cV (Z := Y_X12_curve) (c := 12) (vs := [.inl v214, .inl v215]) (st := [.inl v213]) (rO := fun z => some (.inl z.1)) (mO := fun z => z.2) zk_X12_curve zi_X12_curve q1862 rfl ⟨by decide, by decide⟩ ⟨rfl, rfl⟩ rfl rfl (Nat.le_of_ble_eq_true rfl) (by decide +kernel) (fun z hz => c_X12_curve hz) (fun z216 => ?_)
      change Sim l G Y_L_law lim _ _ 1299 [some (.inr (.inr 4000)), some (.inr (.inr x1)), some (.inr (.inr x2)), some (.inl x3)] [.inl z216.1, .inl v213] z216.2
      refine s_ic_eq (tgt := 1845) (off := 546) (by decide +kernel) (by decide) (fun h217 => ?_) (fun h217 => ?_)
      · skip
        refine s_run (b := [(.iinc 3 6, 3), (.goto (-1830), 3)]) 18 [some (.inr (.inr 4000)), some (.inr (.inr x1)), some (.inr (.inr x2)), some (.inl (x3 + (6 : Int32)))] [] (by decide +kernel) rfl ?_
        generalize (x3 + (6 : Int32)) = g218
        exact s_lsub (ls' := [some (.inr (.inr 4000)), some (.inr (.inr x1)), some (.inr (.inr x2)), some (.inl g218)]) ⟨rfl, ⟨rfl, ⟨rfl, ⟨rfl, trivial⟩⟩⟩⟩ (kk1 (g218, z216.2))
      · skip
        exact s_none
    refine s_ite (fun h219 => ?_) (fun h219 => ?_)
    · refine s_tabIn (off := 1271) (tgt := 1304) (dflt := 1812) (lo := 0) (hi := 38) (offs := #[171, 234, 257, 290, 313, 346, 389, 422, 475, 544, 567, 627, 687, 740, 774, 817, 860, 913, 972, 1015, 1064, 1113, 1172, 1205, 1238, 1271, 1294, 1337, 1380, 1439, 1482, 1525, 1558, 1618, 1641, 1694, 1743, 1766, 1789]) (len := 171) (25 : Int32) (by decide +kernel) h219 rfl rfl rfl (by decide) ?_
      change Sim l G Y_L_law lim _ _ 1304 [some (.inr (.inr 4000)), some (.inr (.inr x1)), some (.inr (.inr x2)), some (.inl x3)] [] M
      refine s_run (b := [(.aload_n 1, 1), (.aload_n 0, 1), (.iload_n 3, 1), (.iconst 1, 1), (.iadd, 1)]) 1309 [some (.inr (.inr 4000)), some (.inr (.inr x1)), some (.inr (.inr x2)), some (.inl x3)] [.inl (x3 + (1 : Int32)), .inr (.inr 4000), .inr (.inr x1)] (by decide +kernel) rfl ?_
      refine s_sc (by decide +kernel) (fun v220 => ?_)
      refine s_cV (Z := Y_X11_ears) (c := 11) (vs := [.inl v220]) (st := []) (rO := fun z => some (.inl z)) (mO := fun _ => M) zk_X11_ears zi_X11_ears q1180 rfl ⟨by decide, by decide⟩ ⟨rfl, rfl⟩ rfl rfl (Nat.le_of_ble_eq_true rfl) (by decide +kernel) (fun z hz => c_X11_ears hz) (fun v221 => ?_)
      change Sim l G Y_L_law lim _ _ 1313 [some (.inr (.inr 4000)), some (.inr (.inr x1)), some (.inr (.inr x2)), some (.inl x3)] [.inl v221] M
      refine s_run (b := [(.aload_n 2, 1), (.aload_n 0, 1), (.iload_n 3, 1), (.iconst 1, 1), (.iadd, 1)]) 1318 [some (.inr (.inr 4000)), some (.inr (.inr x1)), some (.inr (.inr x2)), some (.inl x3)] [.inl (x3 + (1 : Int32)), .inr (.inr 4000), .inr (.inr x2), .inl v221] (by decide +kernel) rfl ?_
      refine s_sc (by decide +kernel) (fun v222 => ?_)
      refine s_cV (Z := Y_X12_ears) (c := 12) (vs := [.inl v222]) (st := [.inl v221]) (rO := fun z => some (.inl z.1)) (mO := fun z => z.2) zk_X12_ears zi_X12_ears q1866 rfl ⟨by decide, by decide⟩ ⟨rfl, rfl⟩ rfl rfl (Nat.le_of_ble_eq_true rfl) (by decide +kernel) (fun z hz => c_X12_ears hz) (fun z223 => ?_)
      change Sim l G Y_L_law lim _ _ 1322 [some (.inr (.inr 4000)), some (.inr (.inr x1)), some (.inr (.inr x2)), some (.inl x3)] [.inl z223.1, .inl v221] z223.2
      refine s_ic_eq (tgt := 1845) (off := 523) (by decide +kernel) (by decide) (fun h224 => ?_) (fun h224 => ?_)
      · skip
        refine s_run (b := [(.iinc 3 6, 3), (.goto (-1830), 3)]) 18 [some (.inr (.inr 4000)), some (.inr (.inr x1)), some (.inr (.inr x2)), some (.inl (x3 + (6 : Int32)))] [] (by decide +kernel) rfl ?_
        generalize (x3 + (6 : Int32)) = g225
        exact s_lsub (ls' := [some (.inr (.inr 4000)), some (.inr (.inr x1)), some (.inr (.inr x2)), some (.inl g225)]) ⟨rfl, ⟨rfl, ⟨rfl, ⟨rfl, trivial⟩⟩⟩⟩ (kk1 (g225, z223.2))
      · skip
        exact s_none
    refine s_ite (fun h226 => ?_) (fun h226 => ?_)
    · refine s_tabIn (off := 1294) (tgt := 1327) (dflt := 1812) (lo := 0) (hi := 38) (offs := #[171, 234, 257, 290, 313, 346, 389, 422, 475, 544, 567, 627, 687, 740, 774, 817, 860, 913, 972, 1015, 1064, 1113, 1172, 1205, 1238, 1271, 1294, 1337, 1380, 1439, 1482, 1525, 1558, 1618, 1641, 1694, 1743, 1766, 1789]) (len := 171) (26 : Int32) (by decide +kernel) h226 rfl rfl rfl (by decide) ?_
      change Sim l G Y_L_law lim _ _ 1327 [some (.inr (.inr 4000)), some (.inr (.inr x1)), some (.inr (.inr x2)), some (.inl x3)] [] M
      refine s_run (b := [(.aload_n 1, 1), (.aload_n 0, 1), (.iload_n 3, 1), (.iconst 1, 1), (.iadd, 1)]) 1332 [some (.inr (.inr 4000)), some (.inr (.inr x1)), some (.inr (.inr x2)), some (.inl x3)] [.inl (x3 + (1 : Int32)), .inr (.inr 4000), .inr (.inr x1)] (by decide +kernel) rfl ?_
      refine s_sc (by decide +kernel) (fun v227 => ?_)
      refine s_run (b := [(.aload_n 0, 1), (.iload_n 3, 1), (.iconst 2, 1), (.iadd, 1)]) 1337 [some (.inr (.inr 4000)), some (.inr (.inr x1)), some (.inr (.inr x2)), some (.inl x3)] [.inl (x3 + (2 : Int32)), .inr (.inr 4000), .inl v227, .inr (.inr x1)] (by decide +kernel) rfl ?_
      refine s_sc (by decide +kernel) (fun v228 => ?_)
      refine s_run (b := [(.aload_n 0, 1), (.iload_n 3, 1), (.iconst 3, 1), (.iadd, 1)]) 1342 [some (.inr (.inr 4000)), some (.inr (.inr x1)), some (.inr (.inr x2)), some (.inl x3)] [.inl (x3 + (3 : Int32)), .inr (.inr 4000), .inl v228, .inl v227, .inr (.inr x1)] (by decide +kernel) rfl ?_
      refine s_sc (by decide +kernel) (fun v229 => ?_)
      refine s_cV (Z := Y_X11_order) (c := 11) (vs := [.inl v227, .inl v228, .inl v229]) (st := []) (rO := fun z => some (.inl z.1)) (mO := fun z => z.2) zk_X11_order zi_X11_order q1190 rfl ⟨by decide, by decide⟩ ⟨rfl, rfl⟩ rfl rfl (Nat.le_of_ble_eq_true rfl) (by decide +kernel) (fun z hz => c_X11_order hz) (fun z230 => ?_)
      change Sim l G Y_L_law lim _ _ 1346 [some (.inr (.inr 4000)), some (.inr (.inr x1)), some (.inr (.inr x2)), some (.inl x3)] [.inl z230.1] z230.2
      refine s_run (b := [(.aload_n 2, 1), (.aload_n 0, 1), (.iload_n 3, 1), (.iconst 1, 1), (.iadd, 1)]) 1351 [some (.inr (.inr 4000)), some (.inr (.inr x1)), some (.inr (.inr x2)), some (.inl x3)] [.inl (x3 + (1 : Int32)), .inr (.inr 4000), .inr (.inr x2), .inl z230.1] (by decide +kernel) rfl ?_
      refine s_sc (by decide +kernel) (fun v231 => ?_)
      refine s_run (b := [(.aload_n 0, 1), (.iload_n 3, 1), (.iconst 2, 1), (.iadd, 1)]) 1356 [some (.inr (.inr 4000)), some (.inr (.inr x1)), some (.inr (.inr x2)), some (.inl x3)] [.inl (x3 + (2 : Int32)), .inr (.inr 4000), .inl v231, .inr (.inr x2), .inl z230.1] (by decide +kernel) rfl ?_
      refine s_sc (by decide +kernel) (fun v232 => ?_)
      refine s_run (b := [(.aload_n 0, 1), (.iload_n 3, 1), (.iconst 3, 1), (.iadd, 1)]) 1361 [some (.inr (.inr 4000)), some (.inr (.inr x1)), some (.inr (.inr x2)), some (.inl x3)] [.inl (x3 + (3 : Int32)), .inr (.inr 4000), .inl v232, .inl v231, .inr (.inr x2), .inl z230.1] (by decide +kernel) rfl ?_
      refine s_sc (by decide +kernel) (fun v233 => ?_)
      refine s_cV (Z := Y_X12_order) (c := 12) (vs := [.inl v231, .inl v232, .inl v233]) (st := [.inl z230.1]) (rO := fun z => some (.inl z.1)) (mO := fun z => z.2) zk_X12_order zi_X12_order q1811 rfl ⟨by decide, by decide⟩ ⟨rfl, rfl⟩ rfl rfl (Nat.le_of_ble_eq_true rfl) (by decide +kernel) (fun z hz => c_X12_order hz) (fun z234 => ?_)
      change Sim l G Y_L_law lim _ _ 1365 [some (.inr (.inr 4000)), some (.inr (.inr x1)), some (.inr (.inr x2)), some (.inl x3)] [.inl z234.1, .inl z230.1] z234.2
      refine s_ic_eq (tgt := 1845) (off := 480) (by decide +kernel) (by decide) (fun h235 => ?_) (fun h235 => ?_)
      · skip
        refine s_run (b := [(.iinc 3 6, 3), (.goto (-1830), 3)]) 18 [some (.inr (.inr 4000)), some (.inr (.inr x1)), some (.inr (.inr x2)), some (.inl (x3 + (6 : Int32)))] [] (by decide +kernel) rfl ?_
        generalize (x3 + (6 : Int32)) = g236
        exact s_lsub (ls' := [some (.inr (.inr 4000)), some (.inr (.inr x1)), some (.inr (.inr x2)), some (.inl g236)]) ⟨rfl, ⟨rfl, ⟨rfl, ⟨rfl, trivial⟩⟩⟩⟩ (kk1 (g236, z234.2))
      · skip
        exact s_none
    refine s_ite (fun h237 => ?_) (fun h237 => ?_)
    · refine s_tabIn (off := 1337) (tgt := 1370) (dflt := 1812) (lo := 0) (hi := 38) (offs := #[171, 234, 257, 290, 313, 346, 389, 422, 475, 544, 567, 627, 687, 740, 774, 817, 860, 913, 972, 1015, 1064, 1113, 1172, 1205, 1238, 1271, 1294, 1337, 1380, 1439, 1482, 1525, 1558, 1618, 1641, 1694, 1743, 1766, 1789]) (len := 171) (27 : Int32) (by decide +kernel) h237 rfl rfl rfl (by decide) ?_
      change Sim l G Y_L_law lim _ _ 1370 [some (.inr (.inr 4000)), some (.inr (.inr x1)), some (.inr (.inr x2)), some (.inl x3)] [] M
      refine s_run (b := [(.aload_n 1, 1), (.aload_n 0, 1), (.iload_n 3, 1), (.iconst 1, 1), (.iadd, 1)]) 1375 [some (.inr (.inr 4000)), some (.inr (.inr x1)), some (.inr (.inr x2)), some (.inl x3)] [.inl (x3 + (1 : Int32)), .inr (.inr 4000), .inr (.inr x1)] (by decide +kernel) rfl ?_
      refine s_sc (by decide +kernel) (fun v238 => ?_)
      refine s_run (b := [(.aload_n 0, 1), (.iload_n 3, 1), (.iconst 2, 1), (.iadd, 1)]) 1380 [some (.inr (.inr 4000)), some (.inr (.inr x1)), some (.inr (.inr x2)), some (.inl x3)] [.inl (x3 + (2 : Int32)), .inr (.inr 4000), .inl v238, .inr (.inr x1)] (by decide +kernel) rfl ?_
      refine s_sc (by decide +kernel) (fun v239 => ?_)
      refine s_run (b := [(.aload_n 0, 1), (.iload_n 3, 1), (.iconst 3, 1), (.iadd, 1)]) 1385 [some (.inr (.inr 4000)), some (.inr (.inr x1)), some (.inr (.inr x2)), some (.inl x3)] [.inl (x3 + (3 : Int32)), .inr (.inr 4000), .inl v239, .inl v238, .inr (.inr x1)] (by decide +kernel) rfl ?_
      refine s_sc (by decide +kernel) (fun v240 => ?_)
      refine s_cV (Z := Y_X11_after) (c := 11) (vs := [.inl v238, .inl v239, .inl v240]) (st := []) (rO := fun z => some (.inl z.1)) (mO := fun z => z.2) zk_X11_after zi_X11_after q1213 rfl ⟨by decide, by decide⟩ ⟨rfl, rfl⟩ rfl rfl (Nat.le_of_ble_eq_true rfl) (by decide +kernel) (fun z hz => c_X11_after hz) (fun z241 => ?_)
      change Sim l G Y_L_law lim _ _ 1389 [some (.inr (.inr 4000)), some (.inr (.inr x1)), some (.inr (.inr x2)), some (.inl x3)] [.inl z241.1] z241.2
      refine s_run (b := [(.aload_n 2, 1), (.aload_n 0, 1), (.iload_n 3, 1), (.iconst 1, 1), (.iadd, 1)]) 1394 [some (.inr (.inr 4000)), some (.inr (.inr x1)), some (.inr (.inr x2)), some (.inl x3)] [.inl (x3 + (1 : Int32)), .inr (.inr 4000), .inr (.inr x2), .inl z241.1] (by decide +kernel) rfl ?_
      refine s_sc (by decide +kernel) (fun v242 => ?_)
      refine s_run (b := [(.aload_n 0, 1), (.iload_n 3, 1), (.iconst 2, 1), (.iadd, 1)]) 1399 [some (.inr (.inr 4000)), some (.inr (.inr x1)), some (.inr (.inr x2)), some (.inl x3)] [.inl (x3 + (2 : Int32)), .inr (.inr 4000), .inl v242, .inr (.inr x2), .inl z241.1] (by decide +kernel) rfl ?_
      refine s_sc (by decide +kernel) (fun v243 => ?_)
      refine s_run (b := [(.aload_n 0, 1), (.iload_n 3, 1), (.iconst 3, 1), (.iadd, 1)]) 1404 [some (.inr (.inr 4000)), some (.inr (.inr x1)), some (.inr (.inr x2)), some (.inl x3)] [.inl (x3 + (3 : Int32)), .inr (.inr 4000), .inl v243, .inl v242, .inr (.inr x2), .inl z241.1] (by decide +kernel) rfl ?_
      refine s_sc (by decide +kernel) (fun v244 => ?_)
      refine s_cV (Z := Y_X12_after) (c := 12) (vs := [.inl v242, .inl v243, .inl v244]) (st := [.inl z241.1]) (rO := fun z => some (.inl z.1)) (mO := fun z => z.2) zk_X12_after zi_X12_after q1870 rfl ⟨by decide, by decide⟩ ⟨rfl, rfl⟩ rfl rfl (Nat.le_of_ble_eq_true rfl) (by decide +kernel) (fun z hz => c_X12_after hz) (fun z245 => ?_)
      change Sim l G Y_L_law lim _ _ 1408 [some (.inr (.inr 4000)), some (.inr (.inr x1)), some (.inr (.inr x2)), some (.inl x3)] [.inl z245.1, .inl z241.1] z245.2
      refine s_ic_eq (tgt := 1845) (off := 437) (by decide +kernel) (by decide) (fun h246 => ?_) (fun h246 => ?_)
      · skip
        refine s_run (b := [(.iinc 3 6, 3), (.goto (-1830), 3)]) 18 [some (.inr (.inr 4000)), some (.inr (.inr x1)), some (.inr (.inr x2)), some (.inl (x3 + (6 : Int32)))] [] (by decide +kernel) rfl ?_
        generalize (x3 + (6 : Int32)) = g247
        exact s_lsub (ls' := [some (.inr (.inr 4000)), some (.inr (.inr x1)), some (.inr (.inr x2)), some (.inl g247)]) ⟨rfl, ⟨rfl, ⟨rfl, ⟨rfl, trivial⟩⟩⟩⟩ (kk1 (g247, z245.2))
      · skip
        exact s_none
    refine s_ite (fun h248 => ?_) (fun h248 => ?_)
    · refine s_tabIn (off := 1380) (tgt := 1413) (dflt := 1812) (lo := 0) (hi := 38) (offs := #[171, 234, 257, 290, 313, 346, 389, 422, 475, 544, 567, 627, 687, 740, 774, 817, 860, 913, 972, 1015, 1064, 1113, 1172, 1205, 1238, 1271, 1294, 1337, 1380, 1439, 1482, 1525, 1558, 1618, 1641, 1694, 1743, 1766, 1789]) (len := 171) (28 : Int32) (by decide +kernel) h248 rfl rfl rfl (by decide) ?_
      change Sim l G Y_L_law lim _ _ 1413 [some (.inr (.inr 4000)), some (.inr (.inr x1)), some (.inr (.inr x2)), some (.inl x3)] [] M
      refine s_run (b := [(.aload_n 1, 1), (.aload_n 0, 1), (.iload_n 3, 1), (.iconst 1, 1), (.iadd, 1)]) 1418 [some (.inr (.inr 4000)), some (.inr (.inr x1)), some (.inr (.inr x2)), some (.inl x3)] [.inl (x3 + (1 : Int32)), .inr (.inr 4000), .inr (.inr x1)] (by decide +kernel) rfl ?_
      refine s_sc (by decide +kernel) (fun v249 => ?_)
      refine s_run (b := [(.aload_n 0, 1), (.iload_n 3, 1), (.iconst 2, 1), (.iadd, 1)]) 1423 [some (.inr (.inr 4000)), some (.inr (.inr x1)), some (.inr (.inr x2)), some (.inl x3)] [.inl (x3 + (2 : Int32)), .inr (.inr 4000), .inl v249, .inr (.inr x1)] (by decide +kernel) rfl ?_
      refine s_sc (by decide +kernel) (fun v250 => ?_)
      refine s_run (b := [(.aload_n 0, 1), (.iload_n 3, 1), (.iconst 3, 1), (.iadd, 1)]) 1428 [some (.inr (.inr 4000)), some (.inr (.inr x1)), some (.inr (.inr x2)), some (.inl x3)] [.inl (x3 + (3 : Int32)), .inr (.inr 4000), .inl v250, .inl v249, .inr (.inr x1)] (by decide +kernel) rfl ?_
      refine s_sc (by decide +kernel) (fun v251 => ?_)
      refine s_if_eq (tgt := 1436) (off := 7) (by decide +kernel) (by decide) (fun h252 => ?_) (fun h252 => ?_)
      · skip
        refine s_run (b := [(.iconst 0, 1)]) 1437 [some (.inr (.inr 4000)), some (.inr (.inr x1)), some (.inr (.inr x2)), some (.inl x3)] [.inl (0 : Int32), .inl v250, .inl v249, .inr (.inr x1)] (by decide +kernel) rfl ?_
        exact s_lsub (ls' := [some (.inr (.inr 4000)), some (.inr (.inr x1)), some (.inr (.inr x2)), some (.inl x3)]) ⟨rfl, ⟨rfl, ⟨rfl, ⟨rfl, trivial⟩⟩⟩⟩ (J_L_law_1437 M x1 x2 x3 x1 v249 v250 (0 : Int32) K kk1 kk2_0)
      · skip
        refine s_run (b := [(.iconst 1, 1), (.goto 4, 3)]) 1437 [some (.inr (.inr 4000)), some (.inr (.inr x1)), some (.inr (.inr x2)), some (.inl x3)] [.inl (1 : Int32), .inl v250, .inl v249, .inr (.inr x1)] (by decide +kernel) rfl ?_
        exact s_lsub (ls' := [some (.inr (.inr 4000)), some (.inr (.inr x1)), some (.inr (.inr x2)), some (.inl x3)]) ⟨rfl, ⟨rfl, ⟨rfl, ⟨rfl, trivial⟩⟩⟩⟩ (J_L_law_1437 M x1 x2 x3 x1 v249 v250 (1 : Int32) K kk1 kk2_0)
    refine s_ite (fun h253 => ?_) (fun h253 => ?_)
    · refine s_tabIn (off := 1439) (tgt := 1472) (dflt := 1812) (lo := 0) (hi := 38) (offs := #[171, 234, 257, 290, 313, 346, 389, 422, 475, 544, 567, 627, 687, 740, 774, 817, 860, 913, 972, 1015, 1064, 1113, 1172, 1205, 1238, 1271, 1294, 1337, 1380, 1439, 1482, 1525, 1558, 1618, 1641, 1694, 1743, 1766, 1789]) (len := 171) (29 : Int32) (by decide +kernel) h253 rfl rfl rfl (by decide) ?_
      change Sim l G Y_L_law lim _ _ 1472 [some (.inr (.inr 4000)), some (.inr (.inr x1)), some (.inr (.inr x2)), some (.inl x3)] [] M
      refine s_run (b := [(.aload_n 1, 1), (.aload_n 0, 1), (.iload_n 3, 1), (.iconst 1, 1), (.iadd, 1)]) 1477 [some (.inr (.inr 4000)), some (.inr (.inr x1)), some (.inr (.inr x2)), some (.inl x3)] [.inl (x3 + (1 : Int32)), .inr (.inr 4000), .inr (.inr x1)] (by decide +kernel) rfl ?_
      refine s_sc (by decide +kernel) (fun v254 => ?_)
      refine s_run (b := [(.aload_n 0, 1), (.iload_n 3, 1), (.iconst 2, 1), (.iadd, 1)]) 1482 [some (.inr (.inr 4000)), some (.inr (.inr x1)), some (.inr (.inr x2)), some (.inl x3)] [.inl (x3 + (2 : Int32)), .inr (.inr 4000), .inl v254, .inr (.inr x1)] (by decide +kernel) rfl ?_
      refine s_sc (by decide +kernel) (fun v255 => ?_)
      refine s_run (b := [(.aload_n 0, 1), (.iload_n 3, 1), (.iconst 3, 1), (.iadd, 1)]) 1487 [some (.inr (.inr 4000)), some (.inr (.inr x1)), some (.inr (.inr x2)), some (.inl x3)] [.inl (x3 + (3 : Int32)), .inr (.inr 4000), .inl v255, .inl v254, .inr (.inr x1)] (by decide +kernel) rfl ?_
      refine s_sc (by decide +kernel) (fun v256 => ?_)
      refine s_cV (Z := Y_X11_duty) (c := 11) (vs := [.inl v254, .inl v255, .inl v256]) (st := []) (rO := fun z => some (.inl z.1)) (mO := fun z => z.2) zk_X11_duty zi_X11_duty q1239 rfl ⟨by decide, by decide⟩ ⟨rfl, rfl⟩ rfl rfl (Nat.le_of_ble_eq_true rfl) (by decide +kernel) (fun z hz => c_X11_duty hz) (fun z257 => ?_)
      change Sim l G Y_L_law lim _ _ 1491 [some (.inr (.inr 4000)), some (.inr (.inr x1)), some (.inr (.inr x2)), some (.inl x3)] [.inl z257.1] z257.2
      refine s_run (b := [(.aload_n 2, 1), (.aload_n 0, 1), (.iload_n 3, 1), (.iconst 1, 1), (.iadd, 1)]) 1496 [some (.inr (.inr 4000)), some (.inr (.inr x1)), some (.inr (.inr x2)), some (.inl x3)] [.inl (x3 + (1 : Int32)), .inr (.inr 4000), .inr (.inr x2), .inl z257.1] (by decide +kernel) rfl ?_
      refine s_sc (by decide +kernel) (fun v258 => ?_)
      refine s_run (b := [(.aload_n 0, 1), (.iload_n 3, 1), (.iconst 2, 1), (.iadd, 1)]) 1501 [some (.inr (.inr 4000)), some (.inr (.inr x1)), some (.inr (.inr x2)), some (.inl x3)] [.inl (x3 + (2 : Int32)), .inr (.inr 4000), .inl v258, .inr (.inr x2), .inl z257.1] (by decide +kernel) rfl ?_
      refine s_sc (by decide +kernel) (fun v259 => ?_)
      refine s_run (b := [(.aload_n 0, 1), (.iload_n 3, 1), (.iconst 3, 1), (.iadd, 1)]) 1506 [some (.inr (.inr 4000)), some (.inr (.inr x1)), some (.inr (.inr x2)), some (.inl x3)] [.inl (x3 + (3 : Int32)), .inr (.inr 4000), .inl v259, .inl v258, .inr (.inr x2), .inl z257.1] (by decide +kernel) rfl ?_
      refine s_sc (by decide +kernel) (fun v260 => ?_)
      refine s_cV (Z := Y_X12_duty) (c := 12) (vs := [.inl v258, .inl v259, .inl v260]) (st := [.inl z257.1]) (rO := fun z => some (.inl z.1)) (mO := fun z => z.2) zk_X12_duty zi_X12_duty q1882 rfl ⟨by decide, by decide⟩ ⟨rfl, rfl⟩ rfl rfl (Nat.le_of_ble_eq_true rfl) (by decide +kernel) (fun z hz => c_X12_duty hz) (fun z261 => ?_)
      change Sim l G Y_L_law lim _ _ 1510 [some (.inr (.inr 4000)), some (.inr (.inr x1)), some (.inr (.inr x2)), some (.inl x3)] [.inl z261.1, .inl z257.1] z261.2
      refine s_ic_eq (tgt := 1845) (off := 335) (by decide +kernel) (by decide) (fun h262 => ?_) (fun h262 => ?_)
      · skip
        refine s_run (b := [(.iinc 3 6, 3), (.goto (-1830), 3)]) 18 [some (.inr (.inr 4000)), some (.inr (.inr x1)), some (.inr (.inr x2)), some (.inl (x3 + (6 : Int32)))] [] (by decide +kernel) rfl ?_
        generalize (x3 + (6 : Int32)) = g263
        exact s_lsub (ls' := [some (.inr (.inr 4000)), some (.inr (.inr x1)), some (.inr (.inr x2)), some (.inl g263)]) ⟨rfl, ⟨rfl, ⟨rfl, ⟨rfl, trivial⟩⟩⟩⟩ (kk1 (g263, z261.2))
      · skip
        exact s_none
    refine s_ite (fun h264 => ?_) (fun h264 => ?_)
    · refine s_tabIn (off := 1482) (tgt := 1515) (dflt := 1812) (lo := 0) (hi := 38) (offs := #[171, 234, 257, 290, 313, 346, 389, 422, 475, 544, 567, 627, 687, 740, 774, 817, 860, 913, 972, 1015, 1064, 1113, 1172, 1205, 1238, 1271, 1294, 1337, 1380, 1439, 1482, 1525, 1558, 1618, 1641, 1694, 1743, 1766, 1789]) (len := 171) (30 : Int32) (by decide +kernel) h264 rfl rfl rfl (by decide) ?_
      change Sim l G Y_L_law lim _ _ 1515 [some (.inr (.inr 4000)), some (.inr (.inr x1)), some (.inr (.inr x2)), some (.inl x3)] [] M
      refine s_run (b := [(.aload_n 1, 1), (.aload_n 0, 1), (.iload_n 3, 1), (.iconst 1, 1), (.iadd, 1)]) 1520 [some (.inr (.inr 4000)), some (.inr (.inr x1)), some (.inr (.inr x2)), some (.inl x3)] [.inl (x3 + (1 : Int32)), .inr (.inr 4000), .inr (.inr x1)] (by decide +kernel) rfl ?_
      refine s_sc (by decide +kernel) (fun v265 => ?_)
      refine s_run (b := [(.aload_n 0, 1), (.iload_n 3, 1), (.iconst 2, 1), (.iadd, 1)]) 1525 [some (.inr (.inr 4000)), some (.inr (.inr x1)), some (.inr (.inr x2)), some (.inl x3)] [.inl (x3 + (2 : Int32)), .inr (.inr 4000), .inl v265, .inr (.inr x1)] (by decide +kernel) rfl ?_
      refine s_sc (by decide +kernel) (fun v266 => ?_)
      refine s_run (b := [(.aload_n 0, 1), (.iload_n 3, 1), (.iconst 3, 1), (.iadd, 1)]) 1530 [some (.inr (.inr 4000)), some (.inr (.inr x1)), some (.inr (.inr x2)), some (.inl x3)] [.inl (x3 + (3 : Int32)), .inr (.inr 4000), .inl v266, .inl v265, .inr (.inr x1)] (by decide +kernel) rfl ?_
      refine s_sc (by decide +kernel) (fun v267 => ?_)
      refine s_cV (Z := Y_X11_passed) (c := 11) (vs := [.inl v265, .inl v266, .inl v267]) (st := []) (rO := fun z => some (.inl z)) (mO := fun _ => M) zk_X11_passed zi_X11_passed q1251 rfl ⟨by decide, by decide⟩ ⟨rfl, rfl⟩ rfl rfl (Nat.le_of_ble_eq_true rfl) (by decide +kernel) (fun z hz => c_X11_passed hz) (fun v268 => ?_)
      change Sim l G Y_L_law lim _ _ 1534 [some (.inr (.inr 4000)), some (.inr (.inr x1)), some (.inr (.inr x2)), some (.inl x3)] [.inl v268] M
      refine s_run (b := [(.aload_n 2, 1), (.aload_n 0, 1), (.iload_n 3, 1), (.iconst 1, 1), (.iadd, 1)]) 1539 [some (.inr (.inr 4000)), some (.inr (.inr x1)), some (.inr (.inr x2)), some (.inl x3)] [.inl (x3 + (1 : Int32)), .inr (.inr 4000), .inr (.inr x2), .inl v268] (by decide +kernel) rfl ?_
      refine s_sc (by decide +kernel) (fun v269 => ?_)
      refine s_run (b := [(.aload_n 0, 1), (.iload_n 3, 1), (.iconst 2, 1), (.iadd, 1)]) 1544 [some (.inr (.inr 4000)), some (.inr (.inr x1)), some (.inr (.inr x2)), some (.inl x3)] [.inl (x3 + (2 : Int32)), .inr (.inr 4000), .inl v269, .inr (.inr x2), .inl v268] (by decide +kernel) rfl ?_
      refine s_sc (by decide +kernel) (fun v270 => ?_)
      refine s_run (b := [(.aload_n 0, 1), (.iload_n 3, 1), (.iconst 3, 1), (.iadd, 1)]) 1549 [some (.inr (.inr 4000)), some (.inr (.inr x1)), some (.inr (.inr x2)), some (.inl x3)] [.inl (x3 + (3 : Int32)), .inr (.inr 4000), .inl v270, .inl v269, .inr (.inr x2), .inl v268] (by decide +kernel) rfl ?_
      refine s_sc (by decide +kernel) (fun v271 => ?_)
      refine s_cV (Z := Y_X12_passed) (c := 12) (vs := [.inl v269, .inl v270, .inl v271]) (st := [.inl v268]) (rO := fun z => some (.inl z.1)) (mO := fun z => z.2) zk_X12_passed zi_X12_passed q1894 rfl ⟨by decide, by decide⟩ ⟨rfl, rfl⟩ rfl rfl (Nat.le_of_ble_eq_true rfl) (by decide +kernel) (fun z hz => c_X12_passed hz) (fun z272 => ?_)
      change Sim l G Y_L_law lim _ _ 1553 [some (.inr (.inr 4000)), some (.inr (.inr x1)), some (.inr (.inr x2)), some (.inl x3)] [.inl z272.1, .inl v268] z272.2
      refine s_ic_eq (tgt := 1845) (off := 292) (by decide +kernel) (by decide) (fun h273 => ?_) (fun h273 => ?_)
      · skip
        refine s_run (b := [(.iinc 3 6, 3), (.goto (-1830), 3)]) 18 [some (.inr (.inr 4000)), some (.inr (.inr x1)), some (.inr (.inr x2)), some (.inl (x3 + (6 : Int32)))] [] (by decide +kernel) rfl ?_
        generalize (x3 + (6 : Int32)) = g274
        exact s_lsub (ls' := [some (.inr (.inr 4000)), some (.inr (.inr x1)), some (.inr (.inr x2)), some (.inl g274)]) ⟨rfl, ⟨rfl, ⟨rfl, ⟨rfl, trivial⟩⟩⟩⟩ (kk1 (g274, z272.2))
      · skip
        exact s_none
    refine s_ite (fun h275 => ?_) (fun h275 => ?_)
    · refine s_tabIn (off := 1525) (tgt := 1558) (dflt := 1812) (lo := 0) (hi := 38) (offs := #[171, 234, 257, 290, 313, 346, 389, 422, 475, 544, 567, 627, 687, 740, 774, 817, 860, 913, 972, 1015, 1064, 1113, 1172, 1205, 1238, 1271, 1294, 1337, 1380, 1439, 1482, 1525, 1558, 1618, 1641, 1694, 1743, 1766, 1789]) (len := 171) (31 : Int32) (by decide +kernel) h275 rfl rfl rfl (by decide) ?_
      change Sim l G Y_L_law lim _ _ 1558 [some (.inr (.inr 4000)), some (.inr (.inr x1)), some (.inr (.inr x2)), some (.inl x3)] [] M
      refine s_run (b := [(.aload_n 1, 1), (.aload_n 0, 1), (.iload_n 3, 1), (.iconst 1, 1), (.iadd, 1)]) 1563 [some (.inr (.inr 4000)), some (.inr (.inr x1)), some (.inr (.inr x2)), some (.inl x3)] [.inl (x3 + (1 : Int32)), .inr (.inr 4000), .inr (.inr x1)] (by decide +kernel) rfl ?_
      refine s_sc (by decide +kernel) (fun v276 => ?_)
      refine s_run (b := [(.aload_n 0, 1), (.iload_n 3, 1), (.iconst 2, 1), (.iadd, 1)]) 1568 [some (.inr (.inr 4000)), some (.inr (.inr x1)), some (.inr (.inr x2)), some (.inl x3)] [.inl (x3 + (2 : Int32)), .inr (.inr 4000), .inl v276, .inr (.inr x1)] (by decide +kernel) rfl ?_
      refine s_sc (by decide +kernel) (fun v277 => ?_)
      refine s_cV (Z := Y_X11_tied) (c := 11) (vs := [.inl v276, .inl v277]) (st := []) (rO := fun z => some (.inl z.1)) (mO := fun z => z.2) zk_X11_tied zi_X11_tied q1259 rfl ⟨by decide, by decide⟩ ⟨rfl, rfl⟩ rfl rfl (Nat.le_of_ble_eq_true rfl) (by decide +kernel) (fun z hz => c_X11_tied hz) (fun z278 => ?_)
      change Sim l G Y_L_law lim _ _ 1572 [some (.inr (.inr 4000)), some (.inr (.inr x1)), some (.inr (.inr x2)), some (.inl x3)] [.inl z278.1] z278.2
      refine s_run (b := [(.aload_n 2, 1), (.aload_n 0, 1), (.iload_n 3, 1), (.iconst 1, 1), (.iadd, 1)]) 1577 [some (.inr (.inr 4000)), some (.inr (.inr x1)), some (.inr (.inr x2)), some (.inl x3)] [.inl (x3 + (1 : Int32)), .inr (.inr 4000), .inr (.inr x2), .inl z278.1] (by decide +kernel) rfl ?_
      refine s_sc (by decide +kernel) (fun v279 => ?_)
      refine s_run (b := [(.aload_n 0, 1), (.iload_n 3, 1), (.iconst 2, 1), (.iadd, 1)]) 1582 [some (.inr (.inr 4000)), some (.inr (.inr x1)), some (.inr (.inr x2)), some (.inl x3)] [.inl (x3 + (2 : Int32)), .inr (.inr 4000), .inl v279, .inr (.inr x2), .inl z278.1] (by decide +kernel) rfl ?_
      refine s_sc (by decide +kernel) (fun v280 => ?_)
      refine s_cV (Z := Y_X12_tied) (c := 12) (vs := [.inl v279, .inl v280]) (st := [.inl z278.1]) (rO := fun z => some (.inl z.1)) (mO := fun z => z.2) zk_X12_tied zi_X12_tied q1898 rfl ⟨by decide, by decide⟩ ⟨rfl, rfl⟩ rfl rfl (Nat.le_of_ble_eq_true rfl) (by decide +kernel) (fun z hz => c_X12_tied hz) (fun z281 => ?_)
      change Sim l G Y_L_law lim _ _ 1586 [some (.inr (.inr 4000)), some (.inr (.inr x1)), some (.inr (.inr x2)), some (.inl x3)] [.inl z281.1, .inl z278.1] z281.2
      refine s_ic_eq (tgt := 1845) (off := 259) (by decide +kernel) (by decide) (fun h282 => ?_) (fun h282 => ?_)
      · skip
        refine s_run (b := [(.iinc 3 6, 3), (.goto (-1830), 3)]) 18 [some (.inr (.inr 4000)), some (.inr (.inr x1)), some (.inr (.inr x2)), some (.inl (x3 + (6 : Int32)))] [] (by decide +kernel) rfl ?_
        generalize (x3 + (6 : Int32)) = g283
        exact s_lsub (ls' := [some (.inr (.inr 4000)), some (.inr (.inr x1)), some (.inr (.inr x2)), some (.inl g283)]) ⟨rfl, ⟨rfl, ⟨rfl, ⟨rfl, trivial⟩⟩⟩⟩ (kk1 (g283, z281.2))
      · skip
        exact s_none
    refine s_ite (fun h284 => ?_) (fun h284 => ?_)
    · refine s_tabIn (off := 1558) (tgt := 1591) (dflt := 1812) (lo := 0) (hi := 38) (offs := #[171, 234, 257, 290, 313, 346, 389, 422, 475, 544, 567, 627, 687, 740, 774, 817, 860, 913, 972, 1015, 1064, 1113, 1172, 1205, 1238, 1271, 1294, 1337, 1380, 1439, 1482, 1525, 1558, 1618, 1641, 1694, 1743, 1766, 1789]) (len := 171) (32 : Int32) (by decide +kernel) h284 rfl rfl rfl (by decide) ?_
      change Sim l G Y_L_law lim _ _ 1591 [some (.inr (.inr 4000)), some (.inr (.inr x1)), some (.inr (.inr x2)), some (.inl x3)] [] M
      refine s_run (b := [(.aload_n 1, 1), (.aload_n 0, 1), (.iload_n 3, 1), (.iconst 1, 1), (.iadd, 1)]) 1596 [some (.inr (.inr 4000)), some (.inr (.inr x1)), some (.inr (.inr x2)), some (.inl x3)] [.inl (x3 + (1 : Int32)), .inr (.inr 4000), .inr (.inr x1)] (by decide +kernel) rfl ?_
      refine s_sc (by decide +kernel) (fun v285 => ?_)
      refine s_run (b := [(.aload_n 0, 1), (.iload_n 3, 1), (.iconst 2, 1), (.iadd, 1)]) 1601 [some (.inr (.inr 4000)), some (.inr (.inr x1)), some (.inr (.inr x2)), some (.inl x3)] [.inl (x3 + (2 : Int32)), .inr (.inr 4000), .inl v285, .inr (.inr x1)] (by decide +kernel) rfl ?_
      refine s_sc (by decide +kernel) (fun v286 => ?_)
      refine s_run (b := [(.aload_n 0, 1), (.iload_n 3, 1), (.iconst 3, 1), (.iadd, 1)]) 1606 [some (.inr (.inr 4000)), some (.inr (.inr x1)), some (.inr (.inr x2)), some (.inl x3)] [.inl (x3 + (3 : Int32)), .inr (.inr 4000), .inl v286, .inl v285, .inr (.inr x1)] (by decide +kernel) rfl ?_
      refine s_sc (by decide +kernel) (fun v287 => ?_)
      refine s_if_eq (tgt := 1614) (off := 7) (by decide +kernel) (by decide) (fun h288 => ?_) (fun h288 => ?_)
      · skip
        refine s_run (b := [(.iconst 0, 1)]) 1615 [some (.inr (.inr 4000)), some (.inr (.inr x1)), some (.inr (.inr x2)), some (.inl x3)] [.inl (0 : Int32), .inl v286, .inl v285, .inr (.inr x1)] (by decide +kernel) rfl ?_
        exact s_lsub (ls' := [some (.inr (.inr 4000)), some (.inr (.inr x1)), some (.inr (.inr x2)), some (.inl x3)]) ⟨rfl, ⟨rfl, ⟨rfl, ⟨rfl, trivial⟩⟩⟩⟩ (J_L_law_1615 M x1 x2 x3 x1 v285 v286 (0 : Int32) K kk1 kk2_0)
      · skip
        refine s_run (b := [(.iconst 1, 1), (.goto 4, 3)]) 1615 [some (.inr (.inr 4000)), some (.inr (.inr x1)), some (.inr (.inr x2)), some (.inl x3)] [.inl (1 : Int32), .inl v286, .inl v285, .inr (.inr x1)] (by decide +kernel) rfl ?_
        exact s_lsub (ls' := [some (.inr (.inr 4000)), some (.inr (.inr x1)), some (.inr (.inr x2)), some (.inl x3)]) ⟨rfl, ⟨rfl, ⟨rfl, ⟨rfl, trivial⟩⟩⟩⟩ (J_L_law_1615 M x1 x2 x3 x1 v285 v286 (1 : Int32) K kk1 kk2_0)
    refine s_ite (fun h289 => ?_) (fun h289 => ?_)
    · refine s_tabIn (off := 1618) (tgt := 1651) (dflt := 1812) (lo := 0) (hi := 38) (offs := #[171, 234, 257, 290, 313, 346, 389, 422, 475, 544, 567, 627, 687, 740, 774, 817, 860, 913, 972, 1015, 1064, 1113, 1172, 1205, 1238, 1271, 1294, 1337, 1380, 1439, 1482, 1525, 1558, 1618, 1641, 1694, 1743, 1766, 1789]) (len := 171) (33 : Int32) (by decide +kernel) h289 rfl rfl rfl (by decide) ?_
      change Sim l G Y_L_law lim _ _ 1651 [some (.inr (.inr 4000)), some (.inr (.inr x1)), some (.inr (.inr x2)), some (.inl x3)] [] M
      refine s_run (b := [(.aload_n 1, 1), (.aload_n 0, 1), (.iload_n 3, 1), (.iconst 1, 1), (.iadd, 1)]) 1656 [some (.inr (.inr 4000)), some (.inr (.inr x1)), some (.inr (.inr x2)), some (.inl x3)] [.inl (x3 + (1 : Int32)), .inr (.inr 4000), .inr (.inr x1)] (by decide +kernel) rfl ?_
      refine s_sc (by decide +kernel) (fun v290 => ?_)
      refine s_cV (Z := Y_X11_best) (c := 11) (vs := [.inl v290]) (st := []) (rO := fun z => some (.inl z.1)) (mO := fun z => z.2) zk_X11_best zi_X11_best q1273 rfl ⟨by decide, by decide⟩ ⟨rfl, rfl⟩ rfl rfl (Nat.le_of_ble_eq_true rfl) (by decide +kernel) (fun z hz => c_X11_best hz) (fun z291 => ?_)
      change Sim l G Y_L_law lim _ _ 1660 [some (.inr (.inr 4000)), some (.inr (.inr x1)), some (.inr (.inr x2)), some (.inl x3)] [.inl z291.1] z291.2
      refine s_run (b := [(.aload_n 2, 1), (.aload_n 0, 1), (.iload_n 3, 1), (.iconst 1, 1), (.iadd, 1)]) 1665 [some (.inr (.inr 4000)), some (.inr (.inr x1)), some (.inr (.inr x2)), some (.inl x3)] [.inl (x3 + (1 : Int32)), .inr (.inr 4000), .inr (.inr x2), .inl z291.1] (by decide +kernel) rfl ?_
      refine s_sc (by decide +kernel) (fun v292 => ?_)
      refine s_cV (Z := Y_X12_best) (c := 12) (vs := [.inl v292]) (st := [.inl z291.1]) (rO := fun z => some (.inl z.1)) (mO := fun z => z.2) zk_X12_best zi_X12_best q1807 rfl ⟨by decide, by decide⟩ ⟨rfl, rfl⟩ rfl rfl (Nat.le_of_ble_eq_true rfl) (by decide +kernel) (fun z hz => c_X12_best hz) (fun z293 => ?_)
      change Sim l G Y_L_law lim _ _ 1669 [some (.inr (.inr 4000)), some (.inr (.inr x1)), some (.inr (.inr x2)), some (.inl x3)] [.inl z293.1, .inl z291.1] z293.2
      refine s_ic_eq (tgt := 1845) (off := 176) (by decide +kernel) (by decide) (fun h294 => ?_) (fun h294 => ?_)
      · skip
        refine s_run (b := [(.iinc 3 6, 3), (.goto (-1830), 3)]) 18 [some (.inr (.inr 4000)), some (.inr (.inr x1)), some (.inr (.inr x2)), some (.inl (x3 + (6 : Int32)))] [] (by decide +kernel) rfl ?_
        generalize (x3 + (6 : Int32)) = g295
        exact s_lsub (ls' := [some (.inr (.inr 4000)), some (.inr (.inr x1)), some (.inr (.inr x2)), some (.inl g295)]) ⟨rfl, ⟨rfl, ⟨rfl, ⟨rfl, trivial⟩⟩⟩⟩ (kk1 (g295, z293.2))
      · skip
        exact s_none
    refine s_ite (fun h296 => ?_) (fun h296 => ?_)
    · refine s_tabIn (off := 1641) (tgt := 1674) (dflt := 1812) (lo := 0) (hi := 38) (offs := #[171, 234, 257, 290, 313, 346, 389, 422, 475, 544, 567, 627, 687, 740, 774, 817, 860, 913, 972, 1015, 1064, 1113, 1172, 1205, 1238, 1271, 1294, 1337, 1380, 1439, 1482, 1525, 1558, 1618, 1641, 1694, 1743, 1766, 1789]) (len := 171) (34 : Int32) (by decide +kernel) h296 rfl rfl rfl (by decide) ?_
      change Sim l G Y_L_law lim _ _ 1674 [some (.inr (.inr 4000)), some (.inr (.inr x1)), some (.inr (.inr x2)), some (.inl x3)] [] M
      refine s_run (b := [(.aload_n 1, 1), (.aload_n 0, 1), (.iload_n 3, 1), (.iconst 1, 1), (.iadd, 1)]) 1679 [some (.inr (.inr 4000)), some (.inr (.inr x1)), some (.inr (.inr x2)), some (.inl x3)] [.inl (x3 + (1 : Int32)), .inr (.inr 4000), .inr (.inr x1)] (by decide +kernel) rfl ?_
      refine s_sc (by decide +kernel) (fun v297 => ?_)
      refine s_run (b := [(.aload_n 0, 1), (.iload_n 3, 1), (.iconst 2, 1), (.iadd, 1)]) 1684 [some (.inr (.inr 4000)), some (.inr (.inr x1)), some (.inr (.inr x2)), some (.inl x3)] [.inl (x3 + (2 : Int32)), .inr (.inr 4000), .inl v297, .inr (.inr x1)] (by decide +kernel) rfl ?_
      refine s_sc (by decide +kernel) (fun v298 => ?_)
      refine s_run (b := [(.aload_n 0, 1), (.iload_n 3, 1), (.iconst 3, 1), (.iadd, 1)]) 1689 [some (.inr (.inr 4000)), some (.inr (.inr x1)), some (.inr (.inr x2)), some (.inl x3)] [.inl (x3 + (3 : Int32)), .inr (.inr 4000), .inl v298, .inl v297, .inr (.inr x1)] (by decide +kernel) rfl ?_
      refine s_sc (by decide +kernel) (fun v299 => ?_)
      refine s_run (b := [(.aload_n 0, 1), (.iload_n 3, 1), (.iconst 4, 1), (.iadd, 1)]) 1694 [some (.inr (.inr 4000)), some (.inr (.inr x1)), some (.inr (.inr x2)), some (.inl x3)] [.inl (x3 + (4 : Int32)), .inr (.inr 4000), .inl v299, .inl v298, .inl v297, .inr (.inr x1)] (by decide +kernel) rfl ?_
      refine s_sc (by decide +kernel) (fun v300 => ?_)
      refine s_cV (Z := Y_X11_fewer) (c := 11) (vs := [.inl v297, .inl v298, .inl v299, .inl v300]) (st := []) (rO := fun z => some (.inl z.1)) (mO := fun z => z.2) zk_X11_fewer zi_X11_fewer q1282 rfl ⟨by decide, by decide⟩ ⟨rfl, rfl⟩ rfl rfl (Nat.le_of_ble_eq_true rfl) (by decide +kernel) (fun z hz => c_X11_fewer hz) (fun z301 => ?_)
      change Sim l G Y_L_law lim _ _ 1698 [some (.inr (.inr 4000)), some (.inr (.inr x1)), some (.inr (.inr x2)), some (.inl x3)] [.inl z301.1] z301.2
      refine s_run (b := [(.aload_n 2, 1), (.aload_n 0, 1), (.iload_n 3, 1), (.iconst 1, 1), (.iadd, 1)]) 1703 [some (.inr (.inr 4000)), some (.inr (.inr x1)), some (.inr (.inr x2)), some (.inl x3)] [.inl (x3 + (1 : Int32)), .inr (.inr 4000), .inr (.inr x2), .inl z301.1] (by decide +kernel) rfl ?_
      refine s_sc (by decide +kernel) (fun v302 => ?_)
      refine s_run (b := [(.aload_n 0, 1), (.iload_n 3, 1), (.iconst 2, 1), (.iadd, 1)]) 1708 [some (.inr (.inr 4000)), some (.inr (.inr x1)), some (.inr (.inr x2)), some (.inl x3)] [.inl (x3 + (2 : Int32)), .inr (.inr 4000), .inl v302, .inr (.inr x2), .inl z301.1] (by decide +kernel) rfl ?_
      refine s_sc (by decide +kernel) (fun v303 => ?_)
      refine s_run (b := [(.aload_n 0, 1), (.iload_n 3, 1), (.iconst 3, 1), (.iadd, 1)]) 1713 [some (.inr (.inr 4000)), some (.inr (.inr x1)), some (.inr (.inr x2)), some (.inl x3)] [.inl (x3 + (3 : Int32)), .inr (.inr 4000), .inl v303, .inl v302, .inr (.inr x2), .inl z301.1] (by decide +kernel) rfl ?_
      refine s_sc (by decide +kernel) (fun v304 => ?_)
      refine s_run (b := [(.aload_n 0, 1), (.iload_n 3, 1), (.iconst 4, 1), (.iadd, 1)]) 1718 [some (.inr (.inr 4000)), some (.inr (.inr x1)), some (.inr (.inr x2)), some (.inl x3)] [.inl (x3 + (4 : Int32)), .inr (.inr 4000), .inl v304, .inl v303, .inl v302, .inr (.inr x2), .inl z301.1] (by decide +kernel) rfl ?_
      refine s_sc (by decide +kernel) (fun v305 => ?_)
      refine s_cV (Z := Y_X12_fewer) (c := 12) (vs := [.inl v302, .inl v303, .inl v304, .inl v305]) (st := [.inl z301.1]) (rO := fun z => some (.inl z.1)) (mO := fun z => z.2) zk_X12_fewer zi_X12_fewer q1711 rfl ⟨by decide, by decide⟩ ⟨rfl, rfl⟩ rfl rfl (Nat.le_of_ble_eq_true rfl) (by decide +kernel) (fun z hz => c_X12_fewer hz) (fun z306 => ?_)
      change Sim l G Y_L_law lim _ _ 1722 [some (.inr (.inr 4000)), some (.inr (.inr x1)), some (.inr (.inr x2)), some (.inl x3)] [.inl z306.1, .inl z301.1] z306.2
      refine s_ic_eq (tgt := 1845) (off := 123) (by decide +kernel) (by decide) (fun h307 => ?_) (fun h307 => ?_)
      · skip
        refine s_run (b := [(.iinc 3 6, 3), (.goto (-1830), 3)]) 18 [some (.inr (.inr 4000)), some (.inr (.inr x1)), some (.inr (.inr x2)), some (.inl (x3 + (6 : Int32)))] [] (by decide +kernel) rfl ?_
        generalize (x3 + (6 : Int32)) = g308
        exact s_lsub (ls' := [some (.inr (.inr 4000)), some (.inr (.inr x1)), some (.inr (.inr x2)), some (.inl g308)]) ⟨rfl, ⟨rfl, ⟨rfl, ⟨rfl, trivial⟩⟩⟩⟩ (kk1 (g308, z306.2))
      · skip
        exact s_none
    refine s_ite (fun h309 => ?_) (fun h309 => ?_)
    · refine s_tabIn (off := 1694) (tgt := 1727) (dflt := 1812) (lo := 0) (hi := 38) (offs := #[171, 234, 257, 290, 313, 346, 389, 422, 475, 544, 567, 627, 687, 740, 774, 817, 860, 913, 972, 1015, 1064, 1113, 1172, 1205, 1238, 1271, 1294, 1337, 1380, 1439, 1482, 1525, 1558, 1618, 1641, 1694, 1743, 1766, 1789]) (len := 171) (35 : Int32) (by decide +kernel) h309 rfl rfl rfl (by decide) ?_
      change Sim l G Y_L_law lim _ _ 1727 [some (.inr (.inr 4000)), some (.inr (.inr x1)), some (.inr (.inr x2)), some (.inl x3)] [] M
      refine s_run (b := [(.aload_n 1, 1), (.aload_n 0, 1), (.iload_n 3, 1), (.iconst 1, 1), (.iadd, 1)]) 1732 [some (.inr (.inr 4000)), some (.inr (.inr x1)), some (.inr (.inr x2)), some (.inl x3)] [.inl (x3 + (1 : Int32)), .inr (.inr 4000), .inr (.inr x1)] (by decide +kernel) rfl ?_
      refine s_sc (by decide +kernel) (fun v310 => ?_)
      refine s_run (b := [(.aload_n 0, 1), (.iload_n 3, 1), (.iconst 2, 1), (.iadd, 1)]) 1737 [some (.inr (.inr 4000)), some (.inr (.inr x1)), some (.inr (.inr x2)), some (.inl x3)] [.inl (x3 + (2 : Int32)), .inr (.inr 4000), .inl v310, .inr (.inr x1)] (by decide +kernel) rfl ?_
      refine s_sc (by decide +kernel) (fun v311 => ?_)
      refine s_if_eq (tgt := 1745) (off := 7) (by decide +kernel) (by decide) (fun h312 => ?_) (fun h312 => ?_)
      · skip
        refine s_run (b := [(.iconst 0, 1)]) 1746 [some (.inr (.inr 4000)), some (.inr (.inr x1)), some (.inr (.inr x2)), some (.inl x3)] [.inl (0 : Int32), .inl v310, .inr (.inr x1)] (by decide +kernel) rfl ?_
        exact s_lsub (ls' := [some (.inr (.inr 4000)), some (.inr (.inr x1)), some (.inr (.inr x2)), some (.inl x3)]) ⟨rfl, ⟨rfl, ⟨rfl, ⟨rfl, trivial⟩⟩⟩⟩ (J_L_law_1746 M x1 x2 x3 x1 v310 (0 : Int32) K kk1 kk2_0)
      · skip
        refine s_run (b := [(.iconst 1, 1), (.goto 4, 3)]) 1746 [some (.inr (.inr 4000)), some (.inr (.inr x1)), some (.inr (.inr x2)), some (.inl x3)] [.inl (1 : Int32), .inl v310, .inr (.inr x1)] (by decide +kernel) rfl ?_
        exact s_lsub (ls' := [some (.inr (.inr 4000)), some (.inr (.inr x1)), some (.inr (.inr x2)), some (.inl x3)]) ⟨rfl, ⟨rfl, ⟨rfl, ⟨rfl, trivial⟩⟩⟩⟩ (J_L_law_1746 M x1 x2 x3 x1 v310 (1 : Int32) K kk1 kk2_0)
    refine s_ite (fun h313 => ?_) (fun h313 => ?_)
    · refine s_tabIn (off := 1743) (tgt := 1776) (dflt := 1812) (lo := 0) (hi := 38) (offs := #[171, 234, 257, 290, 313, 346, 389, 422, 475, 544, 567, 627, 687, 740, 774, 817, 860, 913, 972, 1015, 1064, 1113, 1172, 1205, 1238, 1271, 1294, 1337, 1380, 1439, 1482, 1525, 1558, 1618, 1641, 1694, 1743, 1766, 1789]) (len := 171) (36 : Int32) (by decide +kernel) h313 rfl rfl rfl (by decide) ?_
      change Sim l G Y_L_law lim _ _ 1776 [some (.inr (.inr 4000)), some (.inr (.inr x1)), some (.inr (.inr x2)), some (.inl x3)] [] M
      refine s_run (b := [(.aload_n 1, 1), (.aload_n 0, 1), (.iload_n 3, 1), (.iconst 1, 1), (.iadd, 1)]) 1781 [some (.inr (.inr 4000)), some (.inr (.inr x1)), some (.inr (.inr x2)), some (.inl x3)] [.inl (x3 + (1 : Int32)), .inr (.inr 4000), .inr (.inr x1)] (by decide +kernel) rfl ?_
      refine s_sc (by decide +kernel) (fun v314 => ?_)
      refine s_cV (Z := Y_X11_count) (c := 11) (vs := [.inl v314]) (st := []) (rO := fun z => some (.inl z)) (mO := fun _ => M) zk_X11_count zi_X11_count q1294 rfl ⟨by decide, by decide⟩ ⟨rfl, rfl⟩ rfl rfl (Nat.le_of_ble_eq_true rfl) (by decide +kernel) (fun z hz => c_X11_count hz) (fun v315 => ?_)
      change Sim l G Y_L_law lim _ _ 1785 [some (.inr (.inr 4000)), some (.inr (.inr x1)), some (.inr (.inr x2)), some (.inl x3)] [.inl v315] M
      refine s_run (b := [(.aload_n 2, 1), (.aload_n 0, 1), (.iload_n 3, 1), (.iconst 1, 1), (.iadd, 1)]) 1790 [some (.inr (.inr 4000)), some (.inr (.inr x1)), some (.inr (.inr x2)), some (.inl x3)] [.inl (x3 + (1 : Int32)), .inr (.inr 4000), .inr (.inr x2), .inl v315] (by decide +kernel) rfl ?_
      refine s_sc (by decide +kernel) (fun v316 => ?_)
      refine s_cV (Z := Y_X12_count) (c := 12) (vs := [.inl v316]) (st := [.inl v315]) (rO := fun z => some (.inl z)) (mO := fun _ => M) zk_X12_count zi_X12_count q1927 rfl ⟨by decide, by decide⟩ ⟨rfl, rfl⟩ rfl rfl (Nat.le_of_ble_eq_true rfl) (by decide +kernel) (fun z hz => c_X12_count hz) (fun v317 => ?_)
      change Sim l G Y_L_law lim _ _ 1794 [some (.inr (.inr 4000)), some (.inr (.inr x1)), some (.inr (.inr x2)), some (.inl x3)] [.inl v317, .inl v315] M
      refine s_ic_eq (tgt := 1845) (off := 51) (by decide +kernel) (by decide) (fun h318 => ?_) (fun h318 => ?_)
      · skip
        refine s_run (b := [(.iinc 3 6, 3), (.goto (-1830), 3)]) 18 [some (.inr (.inr 4000)), some (.inr (.inr x1)), some (.inr (.inr x2)), some (.inl (x3 + (6 : Int32)))] [] (by decide +kernel) rfl ?_
        generalize (x3 + (6 : Int32)) = g319
        exact s_lsub (ls' := [some (.inr (.inr 4000)), some (.inr (.inr x1)), some (.inr (.inr x2)), some (.inl g319)]) ⟨rfl, ⟨rfl, ⟨rfl, ⟨rfl, trivial⟩⟩⟩⟩ (kk1 (g319, M))
      · skip
        exact s_none
    refine s_ite (fun h320 => ?_) (fun h320 => ?_)
    · refine s_tabIn (off := 1766) (tgt := 1799) (dflt := 1812) (lo := 0) (hi := 38) (offs := #[171, 234, 257, 290, 313, 346, 389, 422, 475, 544, 567, 627, 687, 740, 774, 817, 860, 913, 972, 1015, 1064, 1113, 1172, 1205, 1238, 1271, 1294, 1337, 1380, 1439, 1482, 1525, 1558, 1618, 1641, 1694, 1743, 1766, 1789]) (len := 171) (37 : Int32) (by decide +kernel) h320 rfl rfl rfl (by decide) ?_
      change Sim l G Y_L_law lim _ _ 1799 [some (.inr (.inr 4000)), some (.inr (.inr x1)), some (.inr (.inr x2)), some (.inl x3)] [] M
      refine s_run (b := [(.aload_n 1, 1), (.aload_n 0, 1), (.iload_n 3, 1), (.iconst 1, 1), (.iadd, 1)]) 1804 [some (.inr (.inr 4000)), some (.inr (.inr x1)), some (.inr (.inr x2)), some (.inl x3)] [.inl (x3 + (1 : Int32)), .inr (.inr 4000), .inr (.inr x1)] (by decide +kernel) rfl ?_
      refine s_sc (by decide +kernel) (fun v321 => ?_)
      refine s_cV (Z := Y_X11_image) (c := 11) (vs := [.inl v321]) (st := []) (rO := fun z => some (.inl z.1)) (mO := fun z => z.2) zk_X11_image zi_X11_image q1298 rfl ⟨by decide, by decide⟩ ⟨rfl, rfl⟩ rfl rfl (Nat.le_of_ble_eq_true rfl) (by decide +kernel) (fun z hz => c_X11_image hz) (fun z322 => ?_)
      change Sim l G Y_L_law lim _ _ 1808 [some (.inr (.inr 4000)), some (.inr (.inr x1)), some (.inr (.inr x2)), some (.inl x3)] [.inl z322.1] z322.2
      refine s_run (b := [(.aload_n 2, 1), (.aload_n 0, 1), (.iload_n 3, 1), (.iconst 1, 1), (.iadd, 1)]) 1813 [some (.inr (.inr 4000)), some (.inr (.inr x1)), some (.inr (.inr x2)), some (.inl x3)] [.inl (x3 + (1 : Int32)), .inr (.inr 4000), .inr (.inr x2), .inl z322.1] (by decide +kernel) rfl ?_
      refine s_sc (by decide +kernel) (fun v323 => ?_)
      refine s_cV (Z := Y_X12_image) (c := 12) (vs := [.inl v323]) (st := [.inl z322.1]) (rO := fun z => some (.inl z.1)) (mO := fun z => z.2) zk_X12_image zi_X12_image q1931 rfl ⟨by decide, by decide⟩ ⟨rfl, rfl⟩ rfl rfl (Nat.le_of_ble_eq_true rfl) (by decide +kernel) (fun z hz => c_X12_image hz) (fun z324 => ?_)
      change Sim l G Y_L_law lim _ _ 1817 [some (.inr (.inr 4000)), some (.inr (.inr x1)), some (.inr (.inr x2)), some (.inl x3)] [.inl z324.1, .inl z322.1] z324.2
      refine s_ic_eq (tgt := 1845) (off := 28) (by decide +kernel) (by decide) (fun h325 => ?_) (fun h325 => ?_)
      · skip
        refine s_run (b := [(.iinc 3 6, 3), (.goto (-1830), 3)]) 18 [some (.inr (.inr 4000)), some (.inr (.inr x1)), some (.inr (.inr x2)), some (.inl (x3 + (6 : Int32)))] [] (by decide +kernel) rfl ?_
        generalize (x3 + (6 : Int32)) = g326
        exact s_lsub (ls' := [some (.inr (.inr 4000)), some (.inr (.inr x1)), some (.inr (.inr x2)), some (.inl g326)]) ⟨rfl, ⟨rfl, ⟨rfl, ⟨rfl, trivial⟩⟩⟩⟩ (kk1 (g326, z324.2))
      · skip
        exact s_none
    refine s_ite (fun h327 => ?_) (fun h327 => ?_)
    · refine s_tabIn (off := 1789) (tgt := 1822) (dflt := 1812) (lo := 0) (hi := 38) (offs := #[171, 234, 257, 290, 313, 346, 389, 422, 475, 544, 567, 627, 687, 740, 774, 817, 860, 913, 972, 1015, 1064, 1113, 1172, 1205, 1238, 1271, 1294, 1337, 1380, 1439, 1482, 1525, 1558, 1618, 1641, 1694, 1743, 1766, 1789]) (len := 171) (38 : Int32) (by decide +kernel) h327 rfl rfl rfl (by decide) ?_
      change Sim l G Y_L_law lim _ _ 1822 [some (.inr (.inr 4000)), some (.inr (.inr x1)), some (.inr (.inr x2)), some (.inl x3)] [] M
      refine s_run (b := [(.aload_n 1, 1), (.aload_n 0, 1), (.iload_n 3, 1), (.iconst 1, 1), (.iadd, 1)]) 1827 [some (.inr (.inr 4000)), some (.inr (.inr x1)), some (.inr (.inr x2)), some (.inl x3)] [.inl (x3 + (1 : Int32)), .inr (.inr 4000), .inr (.inr x1)] (by decide +kernel) rfl ?_
      refine s_sc (by decide +kernel) (fun v328 => ?_)
      refine s_cV (Z := Y_X11_again) (c := 11) (vs := [.inl v328]) (st := []) (rO := fun z => some (.inl z.1)) (mO := fun z => z.2) zk_X11_again zi_X11_again q1307 rfl ⟨by decide, by decide⟩ ⟨rfl, rfl⟩ rfl rfl (Nat.le_of_ble_eq_true rfl) (by decide +kernel) (fun z hz => c_X11_again hz) (fun z329 => ?_)
      change Sim l G Y_L_law lim _ _ 1831 [some (.inr (.inr 4000)), some (.inr (.inr x1)), some (.inr (.inr x2)), some (.inl x3)] [.inl z329.1] z329.2
      refine s_run (b := [(.aload_n 2, 1), (.aload_n 0, 1), (.iload_n 3, 1), (.iconst 1, 1), (.iadd, 1)]) 1836 [some (.inr (.inr 4000)), some (.inr (.inr x1)), some (.inr (.inr x2)), some (.inl x3)] [.inl (x3 + (1 : Int32)), .inr (.inr 4000), .inr (.inr x2), .inl z329.1] (by decide +kernel) rfl ?_
      refine s_sc (by decide +kernel) (fun v330 => ?_)
      refine s_cV (Z := Y_X12_again) (c := 12) (vs := [.inl v330]) (st := [.inl z329.1]) (rO := fun z => some (.inl z.1)) (mO := fun z => z.2) zk_X12_again zi_X12_again q1935 rfl ⟨by decide, by decide⟩ ⟨rfl, rfl⟩ rfl rfl (Nat.le_of_ble_eq_true rfl) (by decide +kernel) (fun z hz => c_X12_again hz) (fun z331 => ?_)
      change Sim l G Y_L_law lim _ _ 1840 [some (.inr (.inr 4000)), some (.inr (.inr x1)), some (.inr (.inr x2)), some (.inl x3)] [.inl z331.1, .inl z329.1] z331.2
      refine s_ic_eq (tgt := 1845) (off := 5) (by decide +kernel) (by decide) (fun h332 => ?_) (fun h332 => ?_)
      · skip
        refine s_run (b := [(.iinc 3 6, 3), (.goto (-1830), 3)]) 18 [some (.inr (.inr 4000)), some (.inr (.inr x1)), some (.inr (.inr x2)), some (.inl (x3 + (6 : Int32)))] [] (by decide +kernel) rfl ?_
        generalize (x3 + (6 : Int32)) = g333
        exact s_lsub (ls' := [some (.inr (.inr 4000)), some (.inr (.inr x1)), some (.inr (.inr x2)), some (.inl g333)]) ⟨rfl, ⟨rfl, ⟨rfl, ⟨rfl, trivial⟩⟩⟩⟩ (kk1 (g333, z331.2))
      · skip
        exact s_none
    refine s_tabOut (tgt := 1845) (dflt := 1812) (lo := 0) (hi := 38) (offs := #[171, 234, 257, 290, 313, 346, 389, 422, 475, 544, 567, 627, 687, 740, 774, 817, 860, 913, 972, 1015, 1064, 1113, 1172, 1205, 1238, 1271, 1294, 1337, 1380, 1439, 1482, 1525, 1558, 1618, 1641, 1694, 1743, 1766, 1789]) (len := 171) (by decide +kernel) (tab_out (fun k hk => by rcases (show k = 0 ∨ k = 1 ∨ k = 2 ∨ k = 3 ∨ k = 4 ∨ k = 5 ∨ k = 6 ∨ k = 7 ∨ k = 8 ∨ k = 9 ∨ k = 10 ∨ k = 11 ∨ k = 12 ∨ k = 13 ∨ k = 14 ∨ k = 15 ∨ k = 16 ∨ k = 17 ∨ k = 18 ∨ k = 19 ∨ k = 20 ∨ k = 21 ∨ k = 22 ∨ k = 23 ∨ k = 24 ∨ k = 25 ∨ k = 26 ∨ k = 27 ∨ k = 28 ∨ k = 29 ∨ k = 30 ∨ k = 31 ∨ k = 32 ∨ k = 33 ∨ k = 34 ∨ k = 35 ∨ k = 36 ∨ k = 37 ∨ k = 38 by omega) with rfl | rfl | rfl | rfl | rfl | rfl | rfl | rfl | rfl | rfl | rfl | rfl | rfl | rfl | rfl | rfl | rfl | rfl | rfl | rfl | rfl | rfl | rfl | rfl | rfl | rfl | rfl | rfl | rfl | rfl | rfl | rfl | rfl | rfl | rfl | rfl | rfl | rfl | rfl <;> first | exact i32_ne h3 (by decide) | exact i32_ne h18 (by decide) | exact i32_ne h25 (by decide) | exact i32_ne h34 (by decide) | exact i32_ne h41 (by decide) | exact i32_ne h50 (by decide) | exact i32_ne h61 (by decide) | exact i32_ne h70 (by decide) | exact i32_ne h83 (by decide) | exact i32_ne h89 (by decide) | exact i32_ne h96 (by decide) | exact i32_ne h101 (by decide) | exact i32_ne h106 (by decide) | exact i32_ne h119 (by decide) | exact i32_ne h128 (by decide) | exact i32_ne h139 (by decide) | exact i32_ne h150 (by decide) | exact i32_ne h163 (by decide) | exact i32_ne h168 (by decide) | exact i32_ne h179 (by decide) | exact i32_ne h183 (by decide) | exact i32_ne h187 (by decide) | exact i32_ne h192 (by decide) | exact i32_ne h201 (by decide) | exact i32_ne h210 (by decide) | exact i32_ne h219 (by decide) | exact i32_ne h226 (by decide) | exact i32_ne h237 (by decide) | exact i32_ne h248 (by decide) | exact i32_ne h253 (by decide) | exact i32_ne h264 (by decide) | exact i32_ne h275 (by decide) | exact i32_ne h284 (by decide) | exact i32_ne h289 (by decide) | exact i32_ne h296 (by decide) | exact i32_ne h309 (by decide) | exact i32_ne h313 (by decide) | exact i32_ne h320 (by decide) | exact i32_ne h327 (by decide))) (by decide) ?_
    change Sim l G Y_L_law lim _ _ 1845 [some (.inr (.inr 4000)), some (.inr (.inr x1)), some (.inr (.inr x2)), some (.inl x3)] [] M
    refine s_run (b := [(.iinc 3 6, 3), (.goto (-1830), 3)]) 18 [some (.inr (.inr 4000)), some (.inr (.inr x1)), some (.inr (.inr x2)), some (.inl (x3 + (6 : Int32)))] [] (by decide +kernel) rfl ?_
    generalize (x3 + (6 : Int32)) = g334
    exact s_lsub (ls' := [some (.inr (.inr 4000)), some (.inr (.inr x1)), some (.inr (.inr x2)), some (.inl g334)]) ⟨rfl, ⟨rfl, ⟨rfl, ⟨rfl, trivial⟩⟩⟩⟩ (kk1 (g334, M))
set_option maxRecDepth 20000 in
theorem L_L_law_18 {l : Launch} {G : Gv} {lim : Nat × Nat} (M : Mem) (x1 : Nat) (x2 : Nat) (x3 : Int32) (K : ((Mem)) → Option (Option Value × Mem)) (kk2_0 : ∀ r : Mem, SimR l G Y_L_law lim (K r) 1851 [none, none, none, none] [] r) : Sim l G Y_L_law lim (f_L_law_L18 lim G.2.2.2.2 M x1 x2 x3) K 18 [some (.inr (.inr 4000)), some (.inr (.inr x1)), some (.inr (.inr x2)), some (.inl x3)] [] M :=
  s_iter (f := fun s : Int32 × Mem => f_L_law_B18 lim G.2.2.2.2 s.2 x1 x2 s.1) (hd := 18) (cl := fun s => [some (.inr (.inr 4000)), some (.inr (.inr x1)), some (.inr (.inr x2)), some (.inl s.1)]) (cm := fun s => s.2) (xp := fun _ => 1851) (xl := fun r => [none, none, none, none]) (xm := fun r => r) (fun s K h1 h2 => B_L_law_18 s.2 x1 x2 s.1 K h1 (fun r => h2 r)) 1048576 (x3, M) K kk2_0
def f_L_law (lim : Nat × Nat) (X : List Int32) (M : Mem) : Option (Mem) :=
  (newS lim M (.inl 11)).bind fun z1 =>
  (ob z1.2 11 z1.1).bind fun _ => (rmS lim z1.2 253 8967).bind fun _ => (f_X11_init z1.2 z1.1).bind fun M2 =>
  (newS lim M2 (.inl 12)).bind fun z3 =>
  (ob z3.2 12 z3.1).bind fun _ => (rmS lim z3.2 14 7356).bind fun _ => (f_X12_init z3.2 z3.1).bind fun M4 =>
  (f_L_law_L18 lim X M4 z1.1 z3.1 (0 : Int32)).bind fun r5 =>
  some r5
set_option maxRecDepth 20000 in
theorem S_L_law {l : Launch} {G : Gv} {lim : Nat × Nat} (M : Mem) : Sim l G Y_L_law lim (f_L_law lim G.2.2.2.2 M) (fun z => some (some (.int 1), z)) 0 [some (.inr (.inr 4000)), none, none, none] [] M := by
  unfold f_L_law
  refine s_newZ (c := 11) rfl q21 q22 q1 (by decide +kernel) (fun z1 => ?_)
  refine s_run (b := [(.dup, 1)]) 4 [some (.inr (.inr 4000)), none, none, none] [.inr (.inr z1.1), .inr (.inr z1.1)] (by decide +kernel) rfl ?_
  refine s_cI (Z := Y_X11_init) (vs := []) (st := [.inr (.inr z1.1)]) zk_X11_init ⟨rfl, q24, rfl⟩ q23 ⟨by decide, by decide⟩ rfl rfl (Nat.le_of_ble_eq_true rfl) (by decide +kernel) (fun z hz => c_X11_init hz) (fun M2 => ?_)
  refine s_run (b := [(.astore_n 1, 1)]) 8 [some (.inr (.inr 4000)), some (.inr (.inr z1.1)), none, none] [] (by decide +kernel) rfl ?_
  refine s_newZ (c := 12) rfl q1311 q1312 q13 (by decide +kernel) (fun z3 => ?_)
  refine s_run (b := [(.dup, 1)]) 12 [some (.inr (.inr 4000)), some (.inr (.inr z1.1)), none, none] [.inr (.inr z3.1), .inr (.inr z3.1)] (by decide +kernel) rfl ?_
  refine s_cI (Z := Y_X12_init) (vs := []) (st := [.inr (.inr z3.1)]) zk_X12_init ⟨rfl, q1314, rfl⟩ q1313 ⟨by decide, by decide⟩ rfl rfl (Nat.le_of_ble_eq_true rfl) (by decide +kernel) (fun z hz => c_X12_init hz) (fun M4 => ?_)
  refine s_run (b := [(.astore_n 2, 1), (.iconst 0, 1), (.istore_n 3, 1)]) 18 [some (.inr (.inr 4000)), some (.inr (.inr z1.1)), some (.inr (.inr z3.1)), some (.inl (0 : Int32))] [] (by decide +kernel) rfl ?_
  refine s_lsub (ls' := [some (.inr (.inr 4000)), some (.inr (.inr z1.1)), some (.inr (.inr z3.1)), some (.inl (0 : Int32))]) ⟨rfl, ⟨rfl, ⟨rfl, ⟨rfl, trivial⟩⟩⟩⟩ ?_
  refine sim_bind (L_L_law_18 M4 z1.1 z3.1 (0 : Int32) _ (fun r5 => ?_))
  change Sim l G Y_L_law lim _ _ 1851 [none, none, none, none] [] r5
  refine s_run (b := [(.iconst 1, 1)]) 1852 [none, none, none, none] [.inl (1 : Int32)] (by decide +kernel) rfl ?_
  exact s_bret (Or.inr rfl) (by decide +kernel) rfl
